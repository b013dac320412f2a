/-! ===== the law's cases ===== -/
section
variable {sc : Nat × (Nat → Int32)} {K : Int → Int → Int → Mem → Option Int} {σ : Mem} {i : Nat}
/-- what a case has: the script's numbers, and that the run goes on well -/
def CC (sc : Nat × (Nat → Int32)) (K : Int → Int → Int → Mem → Option Int) (i : Nat) : Prop := (∀ j : Nat, j ≤ 5 → ∃ x, sl sc (w32 ((i : Int) + (j : Int))) = some x ∧ R32 x) ∧ ∀ σ, Rel σ → f_L_law_b1890 sc K 0 113 (i : Int) σ = some 1
theorem CC.x1 (h : CC sc K i) : ∃ x, sl sc (w32 ((i : Int) + 1)) = some x ∧ R32 x := h.1 1 (by omega)
theorem CC.x2 (h : CC sc K i) : ∃ x, sl sc (w32 ((i : Int) + 2)) = some x ∧ R32 x := h.1 2 (by omega)
theorem CC.x3 (h : CC sc K i) : ∃ x, sl sc (w32 ((i : Int) + 3)) = some x ∧ R32 x := h.1 3 (by omega)
theorem CC.x4 (h : CC sc K i) : ∃ x, sl sc (w32 ((i : Int) + 4)) = some x ∧ R32 x := h.1 4 (by omega)
theorem CC.x5 (h : CC sc K i) : ∃ x, sl sc (w32 ((i : Int) + 5)) = some x ∧ R32 x := h.1 5 (by omega)
theorem ca_status (h : Rel σ) (c : CC sc K i) : f_L_law_b252 sc K 0 113 (i : Int) σ = some 1 := by
  have hh : OkR (f_X11_status 0) (f_X12_status 113) σ := ok_status h
  obtain ⟨r, σ2, h1, h2, h3⟩ := hh
  unfold f_L_law_b252
  simp only [obs, h1, h2]
  simp only [if_true]
  exact c.2 _ h3
theorem ca_top (h : Rel σ) (c : CC sc K i) : f_L_law_b265 sc K 0 113 (i : Int) σ = some 1 := by
  have hh : OkR (f_X11_top 0) (f_X12_top 113) σ := ok_top h
  obtain ⟨r, σ2, h1, h2, h3⟩ := hh
  unfold f_L_law_b265
  simp only [obs, h1, h2]
  rw [if_pos (lcmp_eq.mpr rfl)]
  exact c.2 _ h3
theorem ca_bottom (h : Rel σ) (c : CC sc K i) : f_L_law_b279 sc K 0 113 (i : Int) σ = some 1 := by
  have hh : OkR (f_X11_bottom 0) (f_X12_bottom 113) σ := ok_bottom h
  obtain ⟨r, σ2, h1, h2, h3⟩ := hh
  unfold f_L_law_b279
  simp only [obs, h1, h2]
  rw [if_pos (lcmp_eq.mpr rfl)]
  exact c.2 _ h3
theorem ca_tray (h : Rel σ) (c : CC sc K i) : f_L_law_b293 sc K 0 113 (i : Int) σ = some 1 := by
  obtain ⟨x1, s1, q1⟩ := c.x1
  obtain ⟨x2, s2, q2⟩ := c.x2
  obtain ⟨x3, s3, q3⟩ := c.x3
  have hh : Ok (f_X11_tray 0 x1 x2 x3) (f_X12_tray 113 x1 x2 x3) σ := ok_tray h
  obtain ⟨r, σ1, σ2, h1, h2, h3⟩ := hh
  unfold f_L_law_b293
  rw [s1, s2, s3]
  simp only [obs, h1, h2]
  simp only [if_true]
  exact c.2 _ h3
theorem ca_write (h : Rel σ) (c : CC sc K i) : f_L_law_b336 sc K 0 113 (i : Int) σ = some 1 := by
  obtain ⟨x1, s1, q1⟩ := c.x1
  obtain ⟨x2, s2, q2⟩ := c.x2
  obtain ⟨x3, s3, q3⟩ := c.x3
  obtain ⟨x4, s4, q4⟩ := c.x4
  have hh : Ok (f_X11_write 0 x1 x2 (lor (lshl x3 32) (land x4 4294967295))) (f_X12_write 113 x1 x2 (lor (lshl x3 32) (land x4 4294967295))) σ := ok_write h q2
  obtain ⟨r, σ1, σ2, h1, h2, h3⟩ := hh
  unfold f_L_law_b336
  rw [s1, s2, s3, s4]
  simp only [obs, h1, h2]
  simp only [if_true]
  exact c.2 _ h3
theorem ca_read (h : Rel σ) (c : CC sc K i) : f_L_law_b409 sc K 0 113 (i : Int) σ = some 1 := by
  obtain ⟨x1, s1, q1⟩ := c.x1
  obtain ⟨x2, s2, q2⟩ := c.x2
  have hh : Ok (f_X11_read 0 x1 x2) (f_X12_read 113 x1 x2) σ := ok_read h q2
  obtain ⟨r, σ1, σ2, h1, h2, h3⟩ := hh
  unfold f_L_law_b409
  rw [s1, s2]
  simp only [obs, h1, h2]
  rw [if_pos (lcmp_eq.mpr rfl)]
  exact c.2 _ h3
theorem ca_pour (h : Rel σ) (c : CC sc K i) : f_L_law_b443 sc K 0 113 (i : Int) σ = some 1 := by
  obtain ⟨x1, s1, q1⟩ := c.x1
  obtain ⟨x2, s2, q2⟩ := c.x2
  obtain ⟨x3, s3, q3⟩ := c.x3
  obtain ⟨x4, s4, q4⟩ := c.x4
  obtain ⟨x5, s5, q5⟩ := c.x5
  have hh : Ok (f_X11_pour 0 x1 x2 x3 x4 x5) (f_X12_pour 113 x1 x2 x3 x4 x5) σ := ok_pour h q2 q4 q5
  obtain ⟨r, σ1, σ2, h1, h2, h3⟩ := hh
  unfold f_L_law_b443
  rw [s1, s2, s3, s4, s5]
  simp only [obs, h1, h2]
  simp only [if_true]
  exact c.2 _ h3
theorem ca_feed (h : Rel σ) (c : CC sc K i) : f_L_law_b506 sc K 0 113 (i : Int) σ = some 1 := by
  obtain ⟨x1, s1, q1⟩ := c.x1
  obtain ⟨x2, s2, q2⟩ := c.x2
  obtain ⟨x3, s3, q3⟩ := c.x3
  obtain ⟨x4, s4, q4⟩ := c.x4
  obtain ⟨x5, s5, q5⟩ := c.x5
  have hh : Ok (f_X11_feed 0 x1 x2 x3 x4 x5) (f_X12_feed 113 x1 x2 x3 x4 x5) σ := ok_feed h
  obtain ⟨r, σ1, σ2, h1, h2, h3⟩ := hh
  unfold f_L_law_b506
  rw [s1, s2, s3, s4, s5]
  simp only [obs, h1, h2]
  simp only [if_true]
  exact c.2 _ h3
theorem ca_wall (h : Rel σ) (c : CC sc K i) : f_L_law_b569 sc K 0 113 (i : Int) σ = some 1 := by
  obtain ⟨x1, s1, q1⟩ := c.x1
  have hh : Ok (f_X11_wall 0 x1) (f_X12_wall 113 x1) σ := ok_wall h
  obtain ⟨r, σ1, σ2, h1, h2, h3⟩ := hh
  unfold f_L_law_b569
  rw [s1]
  simp only [obs, h1, h2]
  simp only [if_true]
  exact c.2 _ h3
theorem ca_terms (h : Rel σ) (c : CC sc K i) : f_L_law_b592 sc K 0 113 (i : Int) σ = some 1 := by
  obtain ⟨x1, s1, q1⟩ := c.x1
  have hh : Ok (f_X11_terms 0 x1) (f_X12_terms 113 x1) σ := ok_terms h
  obtain ⟨r, σ1, σ2, h1, h2, h3⟩ := hh
  unfold f_L_law_b592
  rw [s1]
  simp only [obs, h1, h2]
  simp only [if_true]
  exact c.2 _ h3
theorem ca_fault (h : Rel σ) (c : CC sc K i) : f_L_law_b615 sc K 0 113 (i : Int) σ = some 1 := by
  obtain ⟨x1, s1, q1⟩ := c.x1
  have hh : OkR (f_X11_fault 0 x1) (f_X12_fault 113 x1) σ := ok_fault h
  obtain ⟨r, σ2, h1, h2, h3⟩ := hh
  unfold f_L_law_b615
  rw [s1]
  simp only [obs, h1, h2]
  simp only [if_true]
  exact c.2 _ h3
theorem ca_many (h : Rel σ) (c : CC sc K i) : f_L_law_b638 sc K 0 113 (i : Int) σ = some 1 := by
  obtain ⟨x1, s1, q1⟩ := c.x1
  have hh : Ok (f_X11_many 0 x1) (f_X12_many 113 x1) σ := ok_many h
  obtain ⟨r, σ1, σ2, h1, h2, h3⟩ := hh
  unfold f_L_law_b638
  rw [s1]
  simp only [obs, h1, h2]
  simp only [if_true]
  exact c.2 _ h3
theorem ca_stone (h : Rel σ) (c : CC sc K i) : f_L_law_b661 sc K 0 113 (i : Int) σ = some 1 := by
  obtain ⟨x1, s1, q1⟩ := c.x1
  obtain ⟨x2, s2, q2⟩ := c.x2
  have hh : Ok (f_X11_stone 0 x1 x2) (f_X12_stone 113 x1 x2) σ := ok_stone h
  obtain ⟨r, σ1, σ2, h1, h2, h3⟩ := hh
  unfold f_L_law_b661
  rw [s1, s2]
  simp only [obs, h1, h2]
  simp only [if_true]
  exact c.2 _ h3
theorem ca_crow (h : Rel σ) (c : CC sc K i) : f_L_law_b694 sc K 0 113 (i : Int) σ = some 1 := by
  obtain ⟨x1, s1, q1⟩ := c.x1
  obtain ⟨x2, s2, q2⟩ := c.x2
  have hh : Ok (f_X11_crow 0 x1 x2) (f_X12_crow 113 x1 x2) σ := ok_crow h
  obtain ⟨r, σ1, σ2, h1, h2, h3⟩ := hh
  unfold f_L_law_b694
  rw [s1, s2]
  simp only [obs, h1, h2]
  simp only [if_true]
  exact c.2 _ h3
theorem ca_copyMoss (h : Rel σ) (c : CC sc K i) : f_L_law_b727 sc K 0 113 (i : Int) σ = some 1 := by
  obtain ⟨x1, s1, q1⟩ := c.x1
  have hh : Ok (f_X11_copyMoss 0 x1) (f_X12_copyMoss 113 x1) σ := ok_copyMoss h
  obtain ⟨r, σ1, σ2, h1, h2, h3⟩ := hh
  unfold f_L_law_b727
  rw [s1]
  simp only [obs, h1, h2]
  simp only [if_true]
  exact c.2 _ h3
theorem ca_year (h : Rel σ) (c : CC sc K i) : f_L_law_b809 sc K 0 113 (i : Int) σ = some 1 := by
  obtain ⟨x1, s1, q1⟩ := c.x1
  have hh : Ok (f_X11_year 0 x1) (f_X12_year 113 x1) σ := ok_year h
  obtain ⟨r, σ1, σ2, h1, h2, h3⟩ := hh
  unfold f_L_law_b809
  rw [s1]
  simp only [obs, h1, h2]
  simp only [if_true]
  exact c.2 _ h3
theorem ca_carve (h : Rel σ) (c : CC sc K i) : f_L_law_b832 sc K 0 113 (i : Int) σ = some 1 := by
  obtain ⟨x1, s1, q1⟩ := c.x1
  obtain ⟨x2, s2, q2⟩ := c.x2
  have hh : Ok (f_X11_carve 0 x1 x2) (f_X12_carve 113 x1 x2) σ := ok_carve h
  obtain ⟨r, σ1, σ2, h1, h2, h3⟩ := hh
  unfold f_L_law_b832
  rw [s1, s2]
  simp only [obs, h1, h2]
  simp only [if_true]
  exact c.2 _ h3
theorem ca_clear (h : Rel σ) (c : CC sc K i) : f_L_law_b865 sc K 0 113 (i : Int) σ = some 1 := by
  obtain ⟨x1, s1, q1⟩ := c.x1
  have hh : Ok (f_X11_clear 0 x1) (f_X12_clear 113 x1) σ := ok_clear h
  obtain ⟨r, σ1, σ2, h1, h2, h3⟩ := hh
  unfold f_L_law_b865
  rw [s1]
  simp only [obs, h1, h2]
  simp only [if_true]
  exact c.2 _ h3
theorem ca_open (h : Rel σ) (c : CC sc K i) : f_L_law_b888 sc K 0 113 (i : Int) σ = some 1 := by
  obtain ⟨x1, s1, q1⟩ := c.x1
  have hh : Ok (f_X11_open 0 x1) (f_X12_open 113 x1) σ := ok_open h
  obtain ⟨r, σ1, σ2, h1, h2, h3⟩ := hh
  unfold f_L_law_b888
  rw [s1]
  simp only [obs, h1, h2]
  simp only [if_true]
  exact c.2 _ h3
theorem ca_mend (h : Rel σ) (c : CC sc K i) : f_L_law_b911 sc K 0 113 (i : Int) σ = some 1 := by
  obtain ⟨x1, s1, q1⟩ := c.x1
  obtain ⟨x2, s2, q2⟩ := c.x2
  obtain ⟨x3, s3, q3⟩ := c.x3
  have hh : Ok (f_X11_mend 0 x1 x2 x3) (f_X12_mend 113 x1 x2 x3) σ := ok_mend h
  obtain ⟨r, σ1, σ2, h1, h2, h3⟩ := hh
  unfold f_L_law_b911
  rw [s1, s2, s3]
  simp only [obs, h1, h2]
  simp only [if_true]
  exact c.2 _ h3
theorem ca_fly (h : Rel σ) (c : CC sc K i) : f_L_law_b954 sc K 0 113 (i : Int) σ = some 1 := by
  obtain ⟨x1, s1, q1⟩ := c.x1
  obtain ⟨x2, s2, q2⟩ := c.x2
  have hh : Ok (f_X11_fly 0 x1 x2) (f_X12_fly 113 x1 x2) σ := ok_fly h
  obtain ⟨r, σ1, σ2, h1, h2, h3⟩ := hh
  unfold f_L_law_b954
  rw [s1, s2]
  simp only [obs, h1, h2]
  simp only [if_true]
  exact c.2 _ h3
theorem ca_rule (h : Rel σ) (c : CC sc K i) : f_L_law_b1036 sc K 0 113 (i : Int) σ = some 1 := by
  obtain ⟨x1, s1, q1⟩ := c.x1
  have hh : Ok (f_X11_rule 0 x1) (f_X12_rule 113 x1) σ := ok_rule h
  obtain ⟨r, σ1, σ2, h1, h2, h3⟩ := hh
  unfold f_L_law_b1036
  rw [s1]
  simp only [obs, h1, h2]
  simp only [if_true]
  exact c.2 _ h3
theorem ca_far (h : Rel σ) (c : CC sc K i) : f_L_law_b1059 sc K 0 113 (i : Int) σ = some 1 := by
  obtain ⟨x1, s1, q1⟩ := c.x1
  obtain ⟨x2, s2, q2⟩ := c.x2
  have hh : Ok (f_X11_far 0 x1 x2) (f_X12_far 113 x1 x2) σ := ok_far h
  obtain ⟨r, σ1, σ2, h1, h2, h3⟩ := hh
  unfold f_L_law_b1059
  rw [s1, s2]
  simp only [obs, h1, h2]
  simp only [if_true]
  exact c.2 _ h3
theorem ca_mercy (h : Rel σ) (c : CC sc K i) : f_L_law_b1092 sc K 0 113 (i : Int) σ = some 1 := by
  obtain ⟨x1, s1, q1⟩ := c.x1
  obtain ⟨x2, s2, q2⟩ := c.x2
  have hh : Ok (f_X11_mercy 0 x1 x2) (f_X12_mercy 113 x1 x2) σ := ok_mercy h
  obtain ⟨r, σ1, σ2, h1, h2, h3⟩ := hh
  unfold f_L_law_b1092
  rw [s1, s2]
  simp only [obs, h1, h2]
  simp only [if_true]
  exact c.2 _ h3
theorem ca_turned (h : Rel σ) (c : CC sc K i) : f_L_law_b1125 sc K 0 113 (i : Int) σ = some 1 := by
  obtain ⟨x1, s1, q1⟩ := c.x1
  obtain ⟨x2, s2, q2⟩ := c.x2
  have hh : Ok (f_X11_turned 0 x1 x2) (f_X12_turned 113 x1 x2) σ := ok_turned h
  obtain ⟨r, σ1, σ2, h1, h2, h3⟩ := hh
  unfold f_L_law_b1125
  rw [s1, s2]
  simp only [obs, h1, h2]
  simp only [if_true]
  exact c.2 _ h3
theorem ca_verdict (h : Rel σ) (c : CC sc K i) : f_L_law_b1158 sc K 0 113 (i : Int) σ = some 1 := by
  obtain ⟨x1, s1, q1⟩ := c.x1
  obtain ⟨x2, s2, q2⟩ := c.x2
  have hh : Ok (f_X11_verdict 0 x1 x2) (f_X12_verdict 113 x1 x2) σ := ok_verdict h
  obtain ⟨r, σ1, σ2, h1, h2, h3⟩ := hh
  unfold f_L_law_b1158
  rw [s1, s2]
  simp only [obs, h1, h2]
  simp only [if_true]
  exact c.2 _ h3
theorem ca_stand (h : Rel σ) (c : CC sc K i) : f_L_law_b1191 sc K 0 113 (i : Int) σ = some 1 := by
  obtain ⟨x1, s1, q1⟩ := c.x1
  have hh : Ok (f_X11_stand 0 x1) (f_X12_stand 113 x1) σ := ok_stand h
  obtain ⟨r, σ1, σ2, h1, h2, h3⟩ := hh
  unfold f_L_law_b1191
  rw [s1]
  simp only [obs, h1, h2]
  simp only [if_true]
  exact c.2 _ h3
theorem ca_fall (h : Rel σ) (c : CC sc K i) : f_L_law_b1214 sc K 0 113 (i : Int) σ = some 1 := by
  obtain ⟨x1, s1, q1⟩ := c.x1
  have hh : Ok (f_X11_fall 0 x1) (f_X12_fall 113 x1) σ := ok_fall h
  obtain ⟨r, σ1, σ2, h1, h2, h3⟩ := hh
  unfold f_L_law_b1214
  rw [s1]
  simp only [obs, h1, h2]
  simp only [if_true]
  exact c.2 _ h3
theorem ca_least (h : Rel σ) (c : CC sc K i) : f_L_law_b1237 sc K 0 113 (i : Int) σ = some 1 := by
  obtain ⟨x1, s1, q1⟩ := c.x1
  have hh : Ok (f_X11_least 0 x1) (f_X12_least 113 x1) σ := ok_least h
  obtain ⟨r, σ1, σ2, h1, h2, h3⟩ := hh
  unfold f_L_law_b1237
  rw [s1]
  simp only [obs, h1, h2]
  simp only [if_true]
  exact c.2 _ h3
theorem ca_freeIn (h : Rel σ) (c : CC sc K i) : f_L_law_b1260 sc K 0 113 (i : Int) σ = some 1 := by
  obtain ⟨x1, s1, q1⟩ := c.x1
  obtain ⟨x2, s2, q2⟩ := c.x2
  have hh : Ok (f_X11_freeIn 0 x1 x2) (f_X12_freeIn 113 x1 x2) σ := ok_freeIn h
  obtain ⟨r, σ1, σ2, h1, h2, h3⟩ := hh
  unfold f_L_law_b1260
  rw [s1, s2]
  simp only [obs, h1, h2]
  simp only [if_true]
  exact c.2 _ h3
theorem ca_fits (h : Rel σ) (c : CC sc K i) : f_L_law_b1293 sc K 0 113 (i : Int) σ = some 1 := by
  obtain ⟨x1, s1, q1⟩ := c.x1
  obtain ⟨x2, s2, q2⟩ := c.x2
  have hh : Ok (f_X11_fits 0 x1 x2) (f_X12_fits 113 x1 x2) σ := ok_fits h q2
  obtain ⟨r, σ1, σ2, h1, h2, h3⟩ := hh
  unfold f_L_law_b1293
  rw [s1, s2]
  simp only [obs, h1, h2]
  simp only [if_true]
  exact c.2 _ h3
theorem ca_fitsBy (h : Rel σ) (c : CC sc K i) : f_L_law_b1326 sc K 0 113 (i : Int) σ = some 1 := by
  obtain ⟨x1, s1, q1⟩ := c.x1
  obtain ⟨x2, s2, q2⟩ := c.x2
  obtain ⟨x3, s3, q3⟩ := c.x3
  have hh : Ok (f_X11_fitsBy 0 x1 x2 x3) (f_X12_fitsBy 113 x1 x2 x3) σ := ok_fitsBy h q2
  obtain ⟨r, σ1, σ2, h1, h2, h3⟩ := hh
  unfold f_L_law_b1326
  rw [s1, s2, s3]
  simp only [obs, h1, h2]
  simp only [if_true]
  exact c.2 _ h3
theorem ca_ask (h : Rel σ) (c : CC sc K i) : f_L_law_b1369 sc K 0 113 (i : Int) σ = some 1 := by
  obtain ⟨x1, s1, q1⟩ := c.x1
  obtain ⟨x2, s2, q2⟩ := c.x2
  obtain ⟨x3, s3, q3⟩ := c.x3
  have hh : Ok (f_X11_ask 0 x1 x2 x3) (f_X12_ask 113 x1 x2 x3) σ := ok_ask h q2
  obtain ⟨r, σ1, σ2, h1, h2, h3⟩ := hh
  unfold f_L_law_b1369
  rw [s1, s2, s3]
  simp only [obs, h1, h2]
  simp only [if_true]
  exact c.2 _ h3
theorem ca_cuts (h : Rel σ) (c : CC sc K i) : f_L_law_b1412 sc K 0 113 (i : Int) σ = some 1 := by
  obtain ⟨x1, s1, q1⟩ := c.x1
  obtain ⟨x2, s2, q2⟩ := c.x2
  have hh : Ok (f_X11_cuts 0 x1 x2) (f_X12_cuts 113 x1 x2) σ := ok_cuts h q2
  obtain ⟨r, σ1, σ2, h1, h2, h3⟩ := hh
  unfold f_L_law_b1412
  rw [s1, s2]
  simp only [obs, h1, h2]
  simp only [if_true]
  exact c.2 _ h3
theorem ca_cutOf (h : Rel σ) (c : CC sc K i) : f_L_law_b1445 sc K 0 113 (i : Int) σ = some 1 := by
  obtain ⟨x1, s1, q1⟩ := c.x1
  obtain ⟨x2, s2, q2⟩ := c.x2
  obtain ⟨x3, s3, q3⟩ := c.x3
  have hh : Ok (f_X11_cutOf 0 x1 x2 x3) (f_X12_cutOf 113 x1 x2 x3) σ := ok_cutOf h q2
  obtain ⟨r, σ1, σ2, h1, h2, h3⟩ := hh
  unfold f_L_law_b1445
  rw [s1, s2, s3]
  simp only [obs, h1, h2]
  simp only [if_true]
  exact c.2 _ h3
theorem ca_windows (h : Rel σ) (c : CC sc K i) : f_L_law_b1488 sc K 0 113 (i : Int) σ = some 1 := by
  obtain ⟨x1, s1, q1⟩ := c.x1
  obtain ⟨x2, s2, q2⟩ := c.x2
  have hh : Ok (f_X11_windows 0 x1 x2) (f_X12_windows 113 x1 x2) σ := ok_windows h
  obtain ⟨r, σ1, σ2, h1, h2, h3⟩ := hh
  unfold f_L_law_b1488
  rw [s1, s2]
  simp only [obs, h1, h2]
  simp only [if_true]
  exact c.2 _ h3
theorem ca_windowSet (h : Rel σ) (c : CC sc K i) : f_L_law_b1521 sc K 0 113 (i : Int) σ = some 1 := by
  obtain ⟨x1, s1, q1⟩ := c.x1
  obtain ⟨x2, s2, q2⟩ := c.x2
  have hh : Ok (f_X11_windowSet 0 x1 x2) (f_X12_windowSet 113 x1 x2) σ := ok_windowSet h
  obtain ⟨r, σ1, σ2, h1, h2, h3⟩ := hh
  unfold f_L_law_b1521
  rw [s1, s2]
  simp only [obs, h1, h2]
  simp only [if_true]
  exact c.2 _ h3
theorem ca_walk (h : Rel σ) (c : CC sc K i) : f_L_law_b1554 sc K 0 113 (i : Int) σ = some 1 := by
  obtain ⟨x1, s1, q1⟩ := c.x1
  obtain ⟨x2, s2, q2⟩ := c.x2
  have hh : Ok (f_X11_walk 0 x1 x2) (f_X12_walk 113 x1 x2) σ := ok_walk h
  obtain ⟨r, σ1, σ2, h1, h2, h3⟩ := hh
  unfold f_L_law_b1554
  rw [s1, s2]
  simp only [obs, h1, h2]
  simp only [if_true]
  exact c.2 _ h3
theorem ca_walkAt (h : Rel σ) (c : CC sc K i) : f_L_law_b1587 sc K 0 113 (i : Int) σ = some 1 := by
  obtain ⟨x1, s1, q1⟩ := c.x1
  obtain ⟨x2, s2, q2⟩ := c.x2
  obtain ⟨x3, s3, q3⟩ := c.x3
  have hh : Ok (f_X11_walkAt 0 x1 x2 x3) (f_X12_walkAt 113 x1 x2 x3) σ := ok_walkAt h
  obtain ⟨r, σ1, σ2, h1, h2, h3⟩ := hh
  unfold f_L_law_b1587
  rw [s1, s2, s3]
  simp only [obs, h1, h2]
  simp only [if_true]
  exact c.2 _ h3
theorem ca_longest (h : Rel σ) (c : CC sc K i) : f_L_law_b1630 sc K 0 113 (i : Int) σ = some 1 := by
  have hh : Ok (f_X11_longest 0) (f_X12_longest 113) σ := ok_longest h
  obtain ⟨r, σ1, σ2, h1, h2, h3⟩ := hh
  unfold f_L_law_b1630
  simp only [obs, h1, h2]
  simp only [if_true]
  exact c.2 _ h3
theorem ca_game (h : Rel σ) (c : CC sc K i) : f_L_law_b1643 sc K 0 113 (i : Int) σ = some 1 := by
  obtain ⟨x1, s1, q1⟩ := c.x1
  obtain ⟨x2, s2, q2⟩ := c.x2
  obtain ⟨x3, s3, q3⟩ := c.x3
  have hh : Ok (f_X11_game 0 x1 x2 x3) (f_X12_game 113 x1 x2 x3) σ := ok_game h
  obtain ⟨r, σ1, σ2, h1, h2, h3⟩ := hh
  unfold f_L_law_b1643
  rw [s1, s2, s3]
  simp only [obs, h1, h2]
  simp only [if_true]
  exact c.2 _ h3
theorem ca_moveOf (h : Rel σ) (c : CC sc K i) : f_L_law_b1686 sc K 0 113 (i : Int) σ = some 1 := by
  obtain ⟨x1, s1, q1⟩ := c.x1
  obtain ⟨x2, s2, q2⟩ := c.x2
  obtain ⟨x3, s3, q3⟩ := c.x3
  have hh : Ok (f_X11_moveOf 0 x1 x2 x3) (f_X12_moveOf 113 x1 x2 x3) σ := ok_moveOf h
  obtain ⟨r, σ1, σ2, h1, h2, h3⟩ := hh
  unfold f_L_law_b1686
  rw [s1, s2, s3]
  simp only [obs, h1, h2]
  simp only [if_true]
  exact c.2 _ h3
theorem ca_lot (h : Rel σ) (c : CC sc K i) : f_L_law_b1729 sc K 0 113 (i : Int) σ = some 1 := by
  obtain ⟨x1, s1, q1⟩ := c.x1
  obtain ⟨x2, s2, q2⟩ := c.x2
  have hh : Ok (f_X11_lot 0 x1 x2) (f_X12_lot 113 x1 x2) σ := ok_lot h
  obtain ⟨r, σ1, σ2, h1, h2, h3⟩ := hh
  unfold f_L_law_b1729
  rw [s1, s2]
  simp only [obs, h1, h2]
  simp only [if_true]
  exact c.2 _ h3
theorem ca_couples (h : Rel σ) (c : CC sc K i) : f_L_law_b1762 sc K 0 113 (i : Int) σ = some 1 := by
  obtain ⟨x1, s1, q1⟩ := c.x1
  have hh : Ok (f_X11_couples 0 x1) (f_X12_couples 113 x1) σ := ok_couples h
  obtain ⟨r, σ1, σ2, h1, h2, h3⟩ := hh
  unfold f_L_law_b1762
  rw [s1]
  simp only [obs, h1, h2]
  simp only [if_true]
  exact c.2 _ h3
theorem ca_live (h : Rel σ) (c : CC sc K i) : f_L_law_b1785 sc K 0 113 (i : Int) σ = some 1 := by
  obtain ⟨x1, s1, q1⟩ := c.x1
  have hh : Ok (f_X11_live 0 x1) (f_X12_live 113 x1) σ := ok_live h
  obtain ⟨r, σ1, σ2, h1, h2, h3⟩ := hh
  unfold f_L_law_b1785
  rw [s1]
  simp only [obs, h1, h2]
  simp only [if_true]
  exact c.2 _ h3
theorem ca_lived (h : Rel σ) (c : CC sc K i) : f_L_law_b1808 sc K 0 113 (i : Int) σ = some 1 := by
  obtain ⟨x1, s1, q1⟩ := c.x1
  have hh : Ok (f_X11_lived 0 x1) (f_X12_lived 113 x1) σ := ok_lived h
  obtain ⟨r, σ1, σ2, h1, h2, h3⟩ := hh
  unfold f_L_law_b1808
  rw [s1]
  simp only [obs, h1, h2]
  simp only [if_true]
  exact c.2 _ h3
theorem ca_mean (h : Rel σ) (c : CC sc K i) : f_L_law_b1831 sc K 0 113 (i : Int) σ = some 1 := by
  obtain ⟨x1, s1, q1⟩ := c.x1
  obtain ⟨x2, s2, q2⟩ := c.x2
  have hh : Ok (f_X11_mean 0 x1 x2) (f_X12_mean 113 x1 x2) σ := ok_mean h q1 q2
  obtain ⟨r, σ1, σ2, h1, h2, h3⟩ := hh
  unfold f_L_law_b1831
  rw [s1, s2]
  simp only [obs, h1, h2]
  simp only [if_true]
  exact c.2 _ h3
theorem ca_mark (h : Rel σ) (c : CC sc K i) : f_L_law_b1864 sc K 0 113 (i : Int) σ = some 1 := by
  have hh : Ok (f_X11_mark 0) (f_X12_mark 113) σ := ok_mark h
  obtain ⟨r, σ1, σ2, h1, h2, h3⟩ := hh
  unfold f_L_law_b1864
  simp only [obs, h1, h2]
  simp only [if_true]
  exact c.2 _ h3
theorem ca_back (h : Rel σ) (c : CC sc K i) : f_L_law_b1877 sc K 0 113 (i : Int) σ = some 1 := by
  have hh : Ok (f_X11_back 0) (f_X12_back 113) σ := ok_back h
  obtain ⟨r, σ1, σ2, h1, h2, h3⟩ := hh
  unfold f_L_law_b1877
  simp only [obs, h1, h2]
  simp only [if_true]
  exact c.2 _ h3
theorem ca_judge (h : Rel σ) (c : CC sc K i) : f_L_law_b750 sc K 0 113 (i : Int) σ = some 1 := by
  obtain ⟨x1, s1, q1⟩ := c.x1
  obtain ⟨x2, s2, q2⟩ := c.x2
  obtain ⟨x3, s3, q3⟩ := c.x3
  have key : ∀ f : Int, f_L_law_b774 sc K 0 113 (i : Int) f x2 x1 0 σ = (f_X11_judge 0 x1 x2 f σ).bind fun r => if x3 = 0 then f_L_law_b801 sc K 0 113 (i : Int) 0 x2 x1 113 r.1 r.2 else f_L_law_b801 sc K 0 113 (i : Int) 1 x2 x1 113 r.1 r.2 := fun f => by
    unfold f_L_law_b774
    rw [s1, s2, s3]
    simp only [obs]
  unfold f_L_law_b750
  rw [s1, s2, s3]
  simp only [obs, key]
  by_cases z : x3 = 0
  · obtain ⟨r, σ1, σ2, h1, h2, h3⟩ : Ok (f_X11_judge 0 x1 x2 0) (f_X12_judge 113 x1 x2 0) σ := ok_judge h
    simp only [if_pos z]
    rw [h1, obs]
    unfold f_L_law_b801
    rw [h2, obs, if_pos rfl]
    exact c.2 _ h3
  · obtain ⟨r, σ1, σ2, h1, h2, h3⟩ : Ok (f_X11_judge 0 x1 x2 1) (f_X12_judge 113 x1 x2 1) σ := ok_judge h
    simp only [if_neg z]
    rw [h1, obs]
    unfold f_L_law_b801
    rw [h2, obs, if_pos rfl]
    exact c.2 _ h3
theorem ca_hatch (h : Rel σ) (c : CC sc K i) : f_L_law_b987 sc K 0 113 (i : Int) σ = some 1 := by
  obtain ⟨x1, s1, q1⟩ := c.x1
  obtain ⟨x2, s2, q2⟩ := c.x2
  have key : ∀ f : Int, f_L_law_b1006 sc K 0 113 (i : Int) f x1 0 σ = (f_X11_hatch 0 x1 f σ).bind fun r => if x2 = 0 then f_L_law_b1028 sc K 0 113 (i : Int) 0 x1 113 r.1 r.2 else f_L_law_b1028 sc K 0 113 (i : Int) 1 x1 113 r.1 r.2 := fun f => by
    unfold f_L_law_b1006
    rw [s1, s2]
    simp only [obs]
  unfold f_L_law_b987
  rw [s1, s2]
  simp only [obs, key]
  by_cases z : x2 = 0
  · obtain ⟨r, σ1, σ2, h1, h2, h3⟩ : Ok (f_X11_hatch 0 x1 0) (f_X12_hatch 113 x1 0) σ := ok_hatch h (.inl rfl)
    simp only [if_pos z]
    rw [h1, obs]
    unfold f_L_law_b1028
    rw [h2, obs, if_pos rfl]
    exact c.2 _ h3
  · obtain ⟨r, σ1, σ2, h1, h2, h3⟩ : Ok (f_X11_hatch 0 x1 1) (f_X12_hatch 113 x1 1) σ := ok_hatch h (.inr rfl)
    simp only [if_neg z]
    rw [h1, obs]
    unfold f_L_law_b1028
    rw [h2, obs, if_pos rfl]
    exact c.2 _ h3
/-- one turn of the law -/
theorem ca_all {x : Int} (h : Rel σ) (c : CC sc K i) (hx : sl sc (i : Int) = some x) (hi : ¬ w32 ((sc.1 : Int) - 6) < (i : Int)) : f_L_law_b18 sc K 0 113 (i : Int) σ = some 1 := by
  unfold f_L_law_b18
  rw [if_neg hi, hx, obs]
  by_cases k0 : iand x 63 = 0
  · rw [if_pos k0]; exact ca_status h c
  rw [if_neg k0]
  by_cases k1 : iand x 63 = 1
  · rw [if_pos k1]; exact ca_top h c
  rw [if_neg k1]
  by_cases k2 : iand x 63 = 2
  · rw [if_pos k2]; exact ca_bottom h c
  rw [if_neg k2]
  by_cases k3 : iand x 63 = 3
  · rw [if_pos k3]; exact ca_tray h c
  rw [if_neg k3]
  by_cases k4 : iand x 63 = 4
  · rw [if_pos k4]; exact ca_write h c
  rw [if_neg k4]
  by_cases k5 : iand x 63 = 5
  · rw [if_pos k5]; exact ca_read h c
  rw [if_neg k5]
  by_cases k6 : iand x 63 = 6
  · rw [if_pos k6]; exact ca_pour h c
  rw [if_neg k6]
  by_cases k7 : iand x 63 = 7
  · rw [if_pos k7]; exact ca_feed h c
  rw [if_neg k7]
  by_cases k8 : iand x 63 = 8
  · rw [if_pos k8]; exact ca_wall h c
  rw [if_neg k8]
  by_cases k9 : iand x 63 = 9
  · rw [if_pos k9]; exact ca_terms h c
  rw [if_neg k9]
  by_cases k10 : iand x 63 = 10
  · rw [if_pos k10]; exact ca_fault h c
  rw [if_neg k10]
  by_cases k11 : iand x 63 = 11
  · rw [if_pos k11]; exact ca_many h c
  rw [if_neg k11]
  by_cases k12 : iand x 63 = 12
  · rw [if_pos k12]; exact ca_stone h c
  rw [if_neg k12]
  by_cases k13 : iand x 63 = 13
  · rw [if_pos k13]; exact ca_crow h c
  rw [if_neg k13]
  by_cases k14 : iand x 63 = 14
  · rw [if_pos k14]; exact ca_copyMoss h c
  rw [if_neg k14]
  by_cases k15 : iand x 63 = 15
  · rw [if_pos k15]; exact ca_judge h c
  rw [if_neg k15]
  by_cases k16 : iand x 63 = 16
  · rw [if_pos k16]; exact ca_year h c
  rw [if_neg k16]
  by_cases k17 : iand x 63 = 17
  · rw [if_pos k17]; exact ca_carve h c
  rw [if_neg k17]
  by_cases k18 : iand x 63 = 18
  · rw [if_pos k18]; exact ca_clear h c
  rw [if_neg k18]
  by_cases k19 : iand x 63 = 19
  · rw [if_pos k19]; exact ca_open h c
  rw [if_neg k19]
  by_cases k20 : iand x 63 = 20
  · rw [if_pos k20]; exact ca_mend h c
  rw [if_neg k20]
  by_cases k21 : iand x 63 = 21
  · rw [if_pos k21]; exact ca_fly h c
  rw [if_neg k21]
  by_cases k22 : iand x 63 = 22
  · rw [if_pos k22]; exact ca_hatch h c
  rw [if_neg k22]
  by_cases k23 : iand x 63 = 23
  · rw [if_pos k23]; exact ca_rule h c
  rw [if_neg k23]
  by_cases k24 : iand x 63 = 24
  · rw [if_pos k24]; exact ca_far h c
  rw [if_neg k24]
  by_cases k25 : iand x 63 = 25
  · rw [if_pos k25]; exact ca_mercy h c
  rw [if_neg k25]
  by_cases k26 : iand x 63 = 26
  · rw [if_pos k26]; exact ca_turned h c
  rw [if_neg k26]
  by_cases k27 : iand x 63 = 27
  · rw [if_pos k27]; exact ca_verdict h c
  rw [if_neg k27]
  by_cases k28 : iand x 63 = 28
  · rw [if_pos k28]; exact ca_stand h c
  rw [if_neg k28]
  by_cases k29 : iand x 63 = 29
  · rw [if_pos k29]; exact ca_fall h c
  rw [if_neg k29]
  by_cases k30 : iand x 63 = 30
  · rw [if_pos k30]; exact ca_least h c
  rw [if_neg k30]
  by_cases k31 : iand x 63 = 31
  · rw [if_pos k31]; exact ca_freeIn h c
  rw [if_neg k31]
  by_cases k32 : iand x 63 = 32
  · rw [if_pos k32]; exact ca_fits h c
  rw [if_neg k32]
  by_cases k33 : iand x 63 = 33
  · rw [if_pos k33]; exact ca_fitsBy h c
  rw [if_neg k33]
  by_cases k34 : iand x 63 = 34
  · rw [if_pos k34]; exact ca_ask h c
  rw [if_neg k34]
  by_cases k35 : iand x 63 = 35
  · rw [if_pos k35]; exact ca_cuts h c
  rw [if_neg k35]
  by_cases k36 : iand x 63 = 36
  · rw [if_pos k36]; exact ca_cutOf h c
  rw [if_neg k36]
  by_cases k37 : iand x 63 = 37
  · rw [if_pos k37]; exact ca_windows h c
  rw [if_neg k37]
  by_cases k38 : iand x 63 = 38
  · rw [if_pos k38]; exact ca_windowSet h c
  rw [if_neg k38]
  by_cases k39 : iand x 63 = 39
  · rw [if_pos k39]; exact ca_walk h c
  rw [if_neg k39]
  by_cases k40 : iand x 63 = 40
  · rw [if_pos k40]; exact ca_walkAt h c
  rw [if_neg k40]
  by_cases k41 : iand x 63 = 41
  · rw [if_pos k41]; exact ca_longest h c
  rw [if_neg k41]
  by_cases k42 : iand x 63 = 42
  · rw [if_pos k42]; exact ca_game h c
  rw [if_neg k42]
  by_cases k43 : iand x 63 = 43
  · rw [if_pos k43]; exact ca_moveOf h c
  rw [if_neg k43]
  by_cases k44 : iand x 63 = 44
  · rw [if_pos k44]; exact ca_lot h c
  rw [if_neg k44]
  by_cases k45 : iand x 63 = 45
  · rw [if_pos k45]; exact ca_couples h c
  rw [if_neg k45]
  by_cases k46 : iand x 63 = 46
  · rw [if_pos k46]; exact ca_live h c
  rw [if_neg k46]
  by_cases k47 : iand x 63 = 47
  · rw [if_pos k47]; exact ca_lived h c
  rw [if_neg k47]
  by_cases k48 : iand x 63 = 48
  · rw [if_pos k48]; exact ca_mean h c
  rw [if_neg k48]
  by_cases k49 : iand x 63 = 49
  · rw [if_pos k49]; exact ca_mark h c
  rw [if_neg k49]
  by_cases k50 : iand x 63 = 50
  · rw [if_pos k50]; exact ca_back h c
  rw [if_neg k50]
  exact c.2 _ h
end
