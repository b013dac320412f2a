/-! ===== feed ===== -/
section
variable {σ σ' τ : Mem}
def bt (v : Int) (k : Nat) : Int := w8 (w8 (ishr v (24 - 8 * (k : Int))))
def fdS (f : Nat → Int) (n : Nat) (v : Int) : Nat → Int := fun j => if n ≤ j ∧ j < n + 4 then bt v (j - n) else f j
theorem bt_in {v : Int} {k : Nat} : -128 ≤ bt v k ∧ bt v k ≤ 127 := by unfold bt; rw [w8_mod]; omega
theorem alTp {i : Int} (h0 : 0 ≤ i) (h1 : i < 900) : al Sh σ 22 2 i = some (σ 2 i.toNat) := al_at (isA_at (a := 2) rfl h0 h1)
theorem stTp {i v : Int} (h0 : 0 ≤ i) (h1 : i < 900) : st_ Sh σ 22 2 i v = some (upm σ 2 i.toNat v) := st_at (isA_at (a := 2) rfl h0 h1)
theorem alMt {i : Int} (h0 : 0 ≤ i) (h1 : i < 900) : al Sh σ 22 117 i = some (σ 117 i.toNat) := al_at (isA_at (a := 117) rfl h0 h1)
theorem stMt {i v : Int} (h0 : 0 ≤ i) (h1 : i < 900) : st_ Sh σ 22 117 i v = some (upm σ 117 i.toNat v) := st_at (isA_at (a := 117) rfl h0 h1)
theorem x_fi_s {v s : Int} {n : Nat} (hR : Ref σ) (hn : σ 0 16 = n) (h : n < 900) (hs : 0 ≤ s) : ∃ σ1, (∀ k3, f_X11_feedInt_b3 k3 0 v s σ = k3 0 v (w32 (s + -8)) σ1) ∧ σ1 0 16 = ((n + 1 : Nat) : Int) ∧ (∀ j, σ1 2 j = if j = n then w8 (w8 (ishr v s)) else σ 2 j) ∧ Fr [4] σ σ1 := by
  refine ⟨upm (upm σ 2 n (w8 (w8 (ishr v s)))) 0 16 ((n + 1 : Nat) : Int), fun k3 => ?_, ?_, fun j => ?_, ?_⟩
  · unfold f_X11_feedInt_b3
    simp only [gX, pX, obs, hn, hR.at 0 1 2 rfl]
    rw [if_neg (by omega), if_neg (by omega), stTp (by omega) (by omega)]
    simp only [obs, Int.toNat_natCast]
    rw [upm_app, if_neg (by omega), hn, w32_in (z := (n : Int) + 1) (by omega) (by omega)]
    rfl
  · exact upm_same
  · rw [upm_app, if_neg (by omega), upm_app]
    simp only [true_and]
  · exact (Fr.up (by rw [gid4.1]; decide)).then (by decide)
theorem fds_4 {f f1 f2 f3 f4 : Nat → Int} {n : Nat} {v : Int} (c1 : ∀ j, f1 j = if j = n then w8 (w8 (ishr v 24)) else f j) (c2 : ∀ j, f2 j = if j = n + 1 then w8 (w8 (ishr v 16)) else f1 j) (c3 : ∀ j, f3 j = if j = n + 1 + 1 then w8 (w8 (ishr v 8)) else f2 j) (c4 : ∀ j, f4 j = if j = n + 1 + 1 + 1 then w8 (w8 (ishr v 0)) else f3 j) : f4 = fdS f n v := by
  funext j
  unfold fdS bt
  rw [c4, c3, c2, c1]
  by_cases q3 : j = n + 1 + 1 + 1
  · rw [if_pos q3, if_pos (by omega), show (24 - 8 * ((j - n : Nat) : Int)) = 0 by omega]
  · rw [if_neg q3]
    by_cases q2 : j = n + 1 + 1
    · rw [if_pos q2, if_pos (by omega), show (24 - 8 * ((j - n : Nat) : Int)) = 8 by omega]
    · rw [if_neg q2]
      by_cases q1 : j = n + 1
      · rw [if_pos q1, if_pos (by omega), show (24 - 8 * ((j - n : Nat) : Int)) = 16 by omega]
      · rw [if_neg q1]
        by_cases q0 : j = n
        · rw [if_pos q0, if_pos (by omega), show (24 - 8 * ((j - n : Nat) : Int)) = 24 by omega]
        · rw [if_neg q0, if_neg (by omega)]
theorem x_feedInt {v : Int} {n : Nat} (hR : Ref σ) (hn : σ 0 16 = n) (h : n + 4 ≤ 900) : ∃ σ', f_X11_feedInt 0 v σ = some σ' ∧ σ' 0 16 = ((n + 4 : Nat) : Int) ∧ σ' 2 = fdS (σ 2) n v ∧ Fr [4] σ σ' := by
  obtain ⟨σ1, a1, b1, c1, d1⟩ := @x_fi_s σ v 24 n hR hn (by omega) (by omega)
  obtain ⟨σ2, a2, b2, c2, d2⟩ := @x_fi_s σ1 v 16 (n + 1) (d1.ref (by decide) hR) b1 (by omega) (by omega)
  obtain ⟨σ3, a3, b3, c3, d3⟩ := @x_fi_s σ2 v 8 (n + 1 + 1) ((d1.trans d2).ref (by decide) hR) b2 (by omega) (by omega)
  obtain ⟨σ4, a4, b4, c4, d4⟩ := @x_fi_s σ3 v 0 (n + 1 + 1 + 1) (((d1.trans d2).trans d3).ref (by decide) hR) b3 (by omega) (by omega)
  refine ⟨σ4, ?_, b4, fds_4 c1 c2 c3 c4, ((d1.trans d2).trans d3).trans d4⟩
  unfold f_X11_feedInt f_X11_feedInt_b0
  rw [if_pos oX, show FU = 199995 + 1 + 1 + 1 + 1 + 1 from rfl, hs_X11_feedInt_h3, a1, w32_in (by omega) (by omega), hs_X11_feedInt_h3, show (24 : Int) + -8 = 16 from rfl, a2, w32_in (by omega) (by omega), hs_X11_feedInt_h3, show (16 : Int) + -8 = 8 from rfl, a3, w32_in (by omega) (by omega), hs_X11_feedInt_h3, show (8 : Int) + -8 = 0 from rfl, a4, w32_in (by omega) (by omega), hs_X11_feedInt_h3]
  unfold f_X11_feedInt_b3
  rw [if_pos (by omega)]
theorem m_fi_s {v s : Int} {n : Nat} (hR : Ref σ) (hn : σ 113 8 = n) (h : n < 900) (hs : 0 ≤ s ∧ s ≤ 3) : ∃ σ1, (∀ k3, f_X12_lay_b2 k3 113 v s σ = k3 113 v (w32 (s + -1)) σ1) ∧ σ1 113 8 = ((n + 1 : Nat) : Int) ∧ (∀ j, σ1 117 j = if j = n then w8 (w8 (ishr v (8 * s))) else σ 117 j) ∧ Fr [14] σ σ1 := by
  refine ⟨upm (upm σ 117 n (w8 (w8 (ishr v (8 * s))))) 113 8 ((n + 1 : Nat) : Int), fun k3 => ?_, ?_, fun j => ?_, ?_⟩
  · unfold f_X12_lay_b2
    simp only [gM, pM, obs, hn, hR.at 113 7 117 rfl]
    rw [if_neg (by omega), stMt (by omega) (by omega), w32_in (z := 8 * s) (by omega) (by omega)]
    simp only [obs, Int.toNat_natCast]
    rw [upm_app, if_neg (by omega), hn, w32_in (z := (n : Int) + 1) (by omega) (by omega)]
    rfl
  · exact upm_same
  · rw [upm_app, if_neg (by omega), upm_app]
    simp only [true_and]
  · exact (Fr.up (by rw [gid4.2]; decide)).then (by decide)
theorem m_lay {v : Int} {n : Nat} (hR : Ref σ) (hn : σ 113 8 = n) (h : n + 4 ≤ 900) : ∃ σ', f_X12_lay 113 v σ = some σ' ∧ σ' 113 8 = ((n + 4 : Nat) : Int) ∧ σ' 117 = fdS (σ 117) n v ∧ Fr [14] σ σ' := by
  obtain ⟨σ1, a1, b1, c1, d1⟩ := @m_fi_s σ v 3 n hR hn (by omega) (by omega)
  obtain ⟨σ2, a2, b2, c2, d2⟩ := @m_fi_s σ1 v 2 (n + 1) (d1.ref (by decide) hR) b1 (by omega) (by omega)
  obtain ⟨σ3, a3, b3, c3, d3⟩ := @m_fi_s σ2 v 1 (n + 1 + 1) ((d1.trans d2).ref (by decide) hR) b2 (by omega) (by omega)
  obtain ⟨σ4, a4, b4, c4, d4⟩ := @m_fi_s σ3 v 0 (n + 1 + 1 + 1) (((d1.trans d2).trans d3).ref (by decide) hR) b3 (by omega) (by omega)
  refine ⟨σ4, ?_, b4, fds_4 c1 c2 c3 c4, ((d1.trans d2).trans d3).trans d4⟩
  unfold f_X12_lay f_X12_lay_b0
  rw [if_pos oM, show FU = 199995 + 1 + 1 + 1 + 1 + 1 from rfl, hs_X12_lay_h2, a1, w32_in (by omega) (by omega), hs_X12_lay_h2, show (3 : Int) + -1 = 2 from rfl, a2, w32_in (by omega) (by omega), hs_X12_lay_h2, show (2 : Int) + -1 = 1 from rfl, a3, w32_in (by omega) (by omega), hs_X12_lay_h2, show (1 : Int) + -1 = 0 from rfl, a4, w32_in (by omega) (by omega), hs_X12_lay_h2]
  unfold f_X12_lay_b2
  rw [if_pos (by omega)]
def fd5 (f : Nat → Int) (n : Nat) (a b c d e : Int) : Nat → Int := fdS (fdS (fdS (fdS (fdS f n a) (n + 4) b) (n + 4 + 4) c) (n + 4 + 4 + 4) d) (n + 4 + 4 + 4 + 4) e
theorem x_feed {a b c d e : Int} {n : Nat} (hR : Ref σ) (hn : σ 0 16 = n) (h : n + 20 ≤ 900) : ∃ σ', f_X11_feed 0 a b c d e σ = some (((n + 20 : Nat) : Int), σ') ∧ σ' 0 16 = ((n + 20 : Nat) : Int) ∧ σ' 2 = fd5 (σ 2) n a b c d e ∧ Fr [4] σ σ' := by
  obtain ⟨σ1, a1, b1, c1, d1⟩ := @x_feedInt σ a n hR hn (by omega)
  obtain ⟨σ2, a2, b2, c2, d2⟩ := @x_feedInt σ1 b (n + 4) (d1.ref (by decide) hR) b1 (by omega)
  have d2 := d1.trans d2
  obtain ⟨σ3, a3, b3, c3, d3⟩ := @x_feedInt σ2 c (n + 4 + 4) (d2.ref (by decide) hR) b2 (by omega)
  have d3 := d2.trans d3
  obtain ⟨σ4, a4, b4, c4, d4⟩ := @x_feedInt σ3 d (n + 4 + 4 + 4) (d3.ref (by decide) hR) b3 (by omega)
  have d4 := d3.trans d4
  obtain ⟨σ5, a5, b5, c5, d5⟩ := @x_feedInt σ4 e (n + 4 + 4 + 4 + 4) (d4.ref (by decide) hR) b4 (by omega)
  have d5 := d4.trans d5
  refine ⟨σ5, ?_, b5, by unfold fd5; rw [c5, c4, c3, c2, c1], d5⟩
  unfold f_X11_feed f_X11_feed_b0
  simp only [oX, if_true, gX, obs, hn]
  rw [w32_in (by omega) (by omega), if_pos (by omega)]
  simp only [a1, a2, a3, a4, a5, obs, b5]
theorem m_feed {a b c d e : Int} {n : Nat} (hR : Ref σ) (hn : σ 113 8 = n) (h : n + 20 ≤ 900) : ∃ σ', f_X12_feed 113 a b c d e σ = some (((n + 20 : Nat) : Int), σ') ∧ σ' 113 8 = ((n + 20 : Nat) : Int) ∧ σ' 117 = fd5 (σ 117) n a b c d e ∧ Fr [14, 20] σ σ' := by
  have f0 : Fr [14, 20] σ (upm σ 113 1 0) := Fr.up (by decide)
  obtain ⟨σ1, a1, b1, c1, d1⟩ := @m_lay (upm σ 113 1 0) a n (f0.ref (by decide) hR) (by rw [upm_app, if_neg (by omega)]; exact hn) (by omega)
  have d1 := f0.trans (d1.mono (by decide))
  obtain ⟨σ2, a2, b2, c2, d2⟩ := @m_lay σ1 b (n + 4) (d1.ref (by decide) hR) b1 (by omega)
  have d2 := d1.trans (d2.mono (by decide))
  obtain ⟨σ3, a3, b3, c3, d3⟩ := @m_lay σ2 c (n + 4 + 4) (d2.ref (by decide) hR) b2 (by omega)
  have d3 := d2.trans (d3.mono (by decide))
  obtain ⟨σ4, a4, b4, c4, d4⟩ := @m_lay σ3 d (n + 4 + 4 + 4) (d3.ref (by decide) hR) b3 (by omega)
  have d4 := d3.trans (d4.mono (by decide))
  obtain ⟨σ5, a5, b5, c5, d5⟩ := @m_lay σ4 e (n + 4 + 4 + 4 + 4) (d4.ref (by decide) hR) b4 (by omega)
  have d5 := d4.trans (d5.mono (by decide))
  refine ⟨σ5, ?_, b5, by unfold fd5; rw [c5, c4, c3, c2, c1]; rfl, d5⟩
  unfold f_X12_feed f_X12_feed_b0
  simp only [oM, if_true, gM, pM, obs]
  rw [show upm σ 113 1 0 113 8 = n by rw [upm_app, if_neg (by omega)]; exact hn, w32_in (by omega) (by omega), if_pos (by omega)]
  simp only [a1, a2, a3, a4, a5, obs, b5]
theorem fdS_cg {f g : Nat → Int} {n : Nat} {v : Int} (h : ∀ k, k < 900 → f k = g k ∧ -128 ≤ g k ∧ g k ≤ 127) : ∀ k, k < 900 → fdS f n v k = fdS g n v k ∧ -128 ≤ fdS g n v k ∧ fdS g n v k ≤ 127 := by
  intro k hk
  unfold fdS
  split
  · exact ⟨rfl, bt_in⟩
  · exact h k hk
theorem ok_feed {a b c d e : Int} (h : Rel σ) : Ok (f_X11_feed 0 a b c d e) (f_X12_feed 113 a b c d e) σ := by
  have h4 := h.2.2.2.2.1
  obtain ⟨⟨h1, h2, h3⟩, h5⟩ := h4
  obtain ⟨n, hn⟩ := nat_of h2
  by_cases q : n + 20 ≤ 900
  · obtain ⟨σ1, a1, b1, c1, d1⟩ := @x_feed σ a b c d e n h.1 (by rw [h1, hn]) q
    have hi := d1.hi (by decide)
    obtain ⟨σ2, a2, b2, c2, d2⟩ := @m_feed σ1 a b c d e n (d1.ref (by decide) h.1) (by rw [hi 113 (by omega), hn]) q
    have lo := d2.lo (by decide)
    refine ⟨_, σ1, σ2, a1, a2, h.step [4, 14, 20] ((d1.mono (by decide)).trans (d2.mono (by decide))) (by decide) ?_ (fun q => absurd q (by decide)) (fun q => absurd q (by decide)) (fun _ => ?_) (fun q => absurd q (by decide)) (fun q => absurd q (by decide)) (fun q => absurd q (by decide)) (fun q => absurd q (by decide)) (fun q => absurd q (by decide))⟩
    · rw [lo 0 (by omega), d2.at (a := 113) (j := 0) rfl (by decide), d1.at (a := 0) (j := 19) rfl (by decide), hi 113 (by omega)]
      exact h.2.1
    · refine ⟨⟨by rw [lo 0 (by omega), b1, b2], by rw [b2]; omega, by rw [b2]; omega⟩, ?_⟩
      rw [lo 2 (by omega), c1, c2, hi 117 (by omega)]
      exact fdS_cg (fdS_cg (fdS_cg (fdS_cg (fdS_cg h5))))
  · refine ⟨-1, σ, upm σ 113 1 0, ?_, ?_, h.thrown⟩
    · unfold f_X11_feed f_X11_feed_b0
      simp only [oX, if_true, gX, obs, h1, hn]
      rw [w32_in (by omega) (by omega), if_neg (by omega)]
    · unfold f_X12_feed f_X12_feed_b0
      simp only [oM, if_true, gM, pM, obs]
      rw [show upm σ 113 1 0 113 8 = n by rw [upm_app, if_neg (by omega)]; exact hn, w32_in (by omega) (by omega), if_neg (by omega)]
end
