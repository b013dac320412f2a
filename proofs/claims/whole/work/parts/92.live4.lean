/-! ===== TERMS lived: the court's ticks ===== -/
section
variable {σ0 σ σ1 σ' τ : Mem} {L aw : Nat} {B0 B B' D V V' : Nat → Int}
/-- the court's life goes from one place to another by so many ticks -/
def Go (L k : Nat) (σ : Mem) (k' : Nat) (σ' : Mem) (t : Nat) : Prop := ∀ tick : Nat, tick + t ≤ 100000 → f_X4_run_h57 (FU - tick) L k tick σ = f_X4_run_h57 (FU - (tick + t)) L k' ((tick + t : Nat) : Int) σ'
theorem Go.refl {k : Nat} : Go L k σ k σ 0 := fun tick _ => rfl
theorem Go.trans {k k1 k2 t1 t2 : Nat} {σ2 : Mem} (g : Go L k σ k1 σ1 t1) (f : Go L k1 σ1 k2 σ2 t2) : Go L k σ k2 σ2 (t1 + t2) := fun tick h => by
  rw [g tick (by omega), f (tick + t1) (by omega), Nat.add_assoc]
theorem XA.sz (h : ll L aw) (x : XA σ0 σ L aw B0 D B) : σ 14 2 = σ0 14 2 := x.1 _ _ (lS_14 h (by omega) (by omega))
theorem g14 {j : Nat} : gf Sh σ 5 14 j = some (σ 14 j) := gTm t14
/-- a tick begun -/
theorem tk_0 {k tick : Nat} (h : ll L aw) (x : XA σ0 σ L aw B0 D B) (ht : tick < 100000) (hk : k < 60) (hz : (k : Int) < σ0 14 2) (h9 : σ L 9 = 0) : f_X4_run_h57 (FU - tick) L k tick σ = f_X4_run_b104 (f_X4_run_h57 (FU - (tick + 1))) L k tick (if σ0 15 k = 21 then 0 else 1) σ := by
  obtain ⟨r0, r1, r2⟩ := rLL x.2.1 h
  rw [show FU - tick = (FU - (tick + 1)) + 1 by unfold FU; omega, hs_X4_run_h57]
  unfold f_X4_run_b57
  simp only [gLL h, obs, r0, g14, x.sz h, h9, if_true]
  rw [if_neg (by omega), if_neg (by omega), if_neg (by omega), (rTm x.2.1 t14).1, alTm t14 (by omega) (by omega) hk, obs, cdL h x (by omega) (by omega)]
  show (if σ0 15 k = 21 then _ else _) = _
  split <;> rfl
/-- a STEP done -/
theorem tk_step {k k' : Nat} {ok : Int} {σ2 σ4 : Mem} (h : ll L aw) (x : XA σ0 σ L aw B0 D B) (hk : k < 60) (hz : (k : Int) < σ0 14 2) (h9 : σ L 9 = 0) (hop : ¬ σ0 15 k = 21) (h4 : σ L 4 < 300) (hd : f_X4_isDone L k (upm σ L 4 (w32 (σ L 4 + 1))) = some (ok, σ2)) (hw : f_X4_whereNext L k (upm σ2 L 5 (w32 (σ L 5 + if ok = 0 then 1 else 0))) = some ((k' : Int), σ4)) : Go L k σ k' σ4 1 := by
  intro tick ht
  rw [tk_0 h x (by omega) hk hz h9, if_neg hop]
  unfold f_X4_run_b104 f_X4_run_b129 f_X4_run_b144 f_X4_run_b166 f_X4_run_b176
  simp only [gLL h, pLL h, obs, Int.one_ne_zero, if_false]
  rw [if_pos h4, hd, obs, w32_in (z := (tick : Int) + 1) (by omega) (by omega), show upm σ L 4 (w32 (σ L 4 + 1)) L 5 = σ L 5 by rw [upm_app, if_neg (by omega)]]
  dsimp only
  by_cases z : ok = 0
  · rw [if_pos z] at hw ⊢
    rw [hw, obs]
    rfl
  · rw [if_neg z] at hw ⊢
    rw [hw, obs]
    rfl
/-- one too many -/
theorem tk_left {k : Nat} (h : ll L aw) (x : XA σ0 σ L aw B0 D B) (hk : k < 60) (hz : (k : Int) < σ0 14 2) (h9 : σ L 9 = 0) (hop : ¬ σ0 15 k = 21) (h4 : ¬ σ L 4 < 300) : Go L k σ k (upm σ L 9 1) 1 := by
  intro tick ht
  rw [tk_0 h x (by omega) hk hz h9, if_neg hop]
  unfold f_X4_run_b104 f_X4_run_b176
  simp only [gLL h, pLL h, obs, Int.one_ne_zero, if_false]
  rw [if_neg h4, w32_in (z := (tick : Int) + 1) (by omega) (by omega)]
  rfl
/-- an END -/
theorem tk_end {k k' : Nat} {σ4 : Mem} (h : ll L aw) (x : XA σ0 σ L aw B0 D B) (hk : k < 60) (hz : (k : Int) < σ0 14 2) (h9 : σ L 9 = 0) (hop : σ0 15 k = 21) (h4 : 0 ≤ σ L 4 ∧ σ L 4 ≤ 300) (h5 : 0 ≤ σ L 5 ∧ σ L 5 ≤ 300) (hw : f_X4_whereNext L k σ = some ((k' : Int), σ4)) : Go L k σ k' σ4 1 := by
  intro tick ht
  have e4 : upm σ L 4 (w32 (σ L 4 + 0)) = σ := by
    rw [w32_in (by omega) (by omega), Int.add_zero]
    funext b j
    rw [upm_app]
    split
    · next q => rw [q.1, q.2]
    · rfl
  have e5 : upm σ L 5 (w32 (σ L 5 + 0)) = σ := by
    rw [w32_in (by omega) (by omega), Int.add_zero]
    funext b j
    rw [upm_app]
    split
    · next q => rw [q.1, q.2]
    · rfl
  rw [tk_0 h x (by omega) hk hz h9, if_pos hop]
  unfold f_X4_run_b104 f_X4_run_b129 f_X4_run_b144 f_X4_run_b166 f_X4_run_b176
  simp only [gLL h, pLL h, obs, if_true]
  rw [e4, x_isDone_n h x hk (by omega), obs]
  dsimp only
  rw [if_neg (by decide), e5, hw, obs, w32_in (z := (tick : Int) + 1) (by omega) (by omega)]
  rfl
/-- where the life is over -/
theorem tk_fin {k tick : Nat} (h : ll L aw) (x : XA σ0 σ L aw B0 D B) (ht : tick ≤ 100000) (hf : σ L 9 = 1 ∨ (k : Int) = σ0 14 2) : f_X4_run_h57 (FU - tick) L k tick σ = f_X4_run_b182 L σ := by
  obtain ⟨r0, r1, r2⟩ := rLL x.2.1 h
  rw [show FU - tick = (FU - (tick + 1)) + 1 by unfold FU; omega, hs_X4_run_h57]
  unfold f_X4_run_b57
  by_cases z : (100000 : Int) ≤ tick
  · rw [if_pos z]
  · simp only [gLL h, obs, r0, g14, x.sz h]
    rw [if_neg z, if_neg (by omega)]
    by_cases z2 : σ0 14 2 ≤ (k : Int)
    · rw [if_pos z2]
    · rw [if_neg z2, hf.resolve_right (by omega), if_neg (by decide)]
/-! where next -/
theorem wn_0 {k : Nat} (h : ll L aw) (x : XA σ0 σ L aw B0 D B) (hk : k < 60) : f_X4_whereNext L k σ = (if σ0 15 k = 3 then f_X4_whereNext_b151 L k (σ0 19 k) σ else if σ0 15 k = 18 then f_X4_whereNext_b151 L k (σ0 19 k) σ else if σ0 15 k = 19 then f_X4_whereNext_b151 L k (σ0 19 k) σ else if σ0 15 k = 20 then ((f_X4_isEmptyBlock L k (upm σ (L + 1) k (σ0 16 k))).bind fun r16 => if r16 = 0 then some (w32 ((k : Int) + 1), upm σ (L + 1) k (σ0 16 k)) else some (σ0 19 k, upm σ (L + 1) k (σ0 16 k))) else if σ0 15 k = 21 then ((f_X4_goesRound L (σ0 19 k) σ).bind fun r19 => if r19.1 = 0 then some (w32 ((k : Int) + 1), r19.2) else some (w32 (σ0 19 k + 1), r19.2)) else if σ0 15 k = 22 then some (σ0 14 2, σ) else some (w32 ((k : Int) + 1), σ)) := by
  obtain ⟨r0, r1, r2⟩ := rLL x.2.1 h
  unfold f_X4_whereNext f_X4_whereNext_b0
  rw [if_pos (oLL h), x_cdO h x hk (m := 5) (by omega) (by omega) rfl, x_cdO h x hk (m := 1) (by omega) (by omega) rfl]
  have e2 : ∀ {kk : Int → Option (Int × Mem)}, ((gf Sh σ 5 (σ L 0) 4).bind fun b => (al Sh σ 20 b k).bind kk) = kk (σ0 16 k) := fun {kk} => by
    have := x_cdO (kk := kk) h x hk (m := 2) (f := 4) (by omega) (by omega) rfl
    rw [gLL h, obs] at this
    exact this
  simp only [gLL h, obs, e2]
  simp only [r2, stLL h hk, obs, r0, g14, x.sz h]
theorem XA.rnd {i : Nat} {v : Int} (h : ll L aw) (x : XA σ0 σ L aw B0 D B) : XA σ0 (upm σ (L + 1) i v) L aw B0 D B := by
  obtain ⟨x1, x2, x3, x4, x5, x6, x7, x8, x9⟩ := x
  refine ⟨x1.then (.inr (.inr rfl)), x2.up (lS_nr (aw := aw) h (.inr (.inr rfl))), x3.cg (fun b i q1 q2 => ?_) (fun _ _ => rfl) (fun _ _ => rfl) x4, x4, x5, x6, x7, x8, x9⟩
  rw [upm_o]
  rintro rfl
  rcases h with ⟨rfl, rfl⟩ | ⟨rfl, rfl⟩ <;> omega
theorem VA.rnd {i : Nat} {v : Int} (q : VA σ L τ B0 B V) : VA (upm σ (L + 1) i v) L τ B0 B V := by
  obtain ⟨v1, v2, v3⟩ := q
  refine ⟨v1, ?_, v3⟩
  rw [upm_o (by omega), upm_o (by omega), upm_o (by omega), upm_o (by omega), upm_o (by omega), upm_o (by omega), upm_o (by omega)]
  exact v2
theorem x_empty {k : Nat} (h : ll L aw) (x : XA σ0 σ L aw B0 D B) (hk : k + 1 < 60) (hz : ((k + 1 : Nat) : Int) < σ0 14 2) : f_X4_isEmptyBlock L k σ = some (if σ0 15 (k + 1) = 21 then 1 else 0) := by
  obtain ⟨r0, r1, r2⟩ := rLL x.2.1 h
  unfold f_X4_isEmptyBlock f_X4_isEmptyBlock_b0
  rw [if_pos (oLL h), w32_in (by omega) (by omega), show (k : Int) + 1 = ((k + 1 : Nat) : Int) by omega]
  simp only [gLL h, obs, r0, g14, x.sz h]
  rw [if_neg (by omega), (rTm x.2.1 t14).1, alTm t14 (by omega) (by omega) hk, obs, cdL h x (by omega) (by omega)]
  show (if σ0 15 (k + 1) = 21 then _ else _) = _
  split <;> rfl
theorem x_round {k : Nat} (h : ll L aw) (x : XA σ0 σ L aw B0 D B) (hk : k < 60) (hz : (k : Int) < σ0 14 2) : f_X4_goesRound L k σ = if σ0 15 k = 20 then some (if w32 (σ (L + 1) k - 1) ≤ 0 then 0 else 1, upm σ (L + 1) k (w32 (σ (L + 1) k - 1))) else some (0, σ) := by
  obtain ⟨r0, r1, r2⟩ := rLL x.2.1 h
  unfold f_X4_goesRound f_X4_goesRound_b0
  rw [if_pos (oLL h), if_neg (by omega)]
  simp only [gLL h, obs, r0, g14, x.sz h]
  rw [if_neg (by omega), (rTm x.2.1 t14).1, alTm t14 (by omega) (by omega) hk, obs, cdL h x (by omega) (by omega), show σ0 (14 + 1) k = σ0 15 k from rfl, r2, alLL h hk, obs, stLL h hk, obs]
  have e : upm σ (L + 1) k (w32 (σ (L + 1) k - 1)) L 2 = ((L + 1 : Nat) : Int) := by rw [upm_o (by omega)]; exact r2
  simp only [e, alLL h hk, obs, upm_same]
  by_cases z : σ0 15 k = 20
  · rw [if_pos z, if_pos z]
    split <;> rfl
  · rw [if_neg z, if_neg z]
end
