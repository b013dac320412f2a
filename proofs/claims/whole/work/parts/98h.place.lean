/-! ===== a wall read: a PLACE more, NAMES ===== -/
section
variable {σ σ' τ : Mem} {a : Nat} {B D : Nat → Int}
theorem x_makeGap_e {p : Nat} (hW : wl a) (hR : Ref σ) (h7 : σ a 7 = B 1) (hB : BL B) (hp : p < 10) : f_X9_makeGap a p σ = some (offM (upm (upm (upm σ a 1 (iand (σ a 1) (ixor (ishl 1 p) (-1)))) (a + 2) p 0) (a + 4) p 0) a p (nK B)) := by
  have hn := nrW hW
  have f1 : Fp (wS a) σ (upm σ a 1 (iand (σ a 1) (ixor (ishl 1 p) (-1)))) := Fp.up ⟨by omega, by omega, hn.2.1⟩
  have f2 : Fp (wS a) σ (upm (upm σ a 1 (iand (σ a 1) (ixor (ishl 1 p) (-1)))) (a + 2) p 0) := f1.then ⟨by omega, by omega, nrWs hW (by omega) (by omega)⟩
  have f3 : Fp (wS a) σ (upm (upm (upm σ a 1 (iand (σ a 1) (ixor (ishl 1 p) (-1)))) (a + 2) p 0) (a + 4) p 0) := f2.then ⟨by omega, by omega, nrWs hW (by omega) (by omega)⟩
  unfold f_X9_makeGap f_X9_makeGap_b0
  simp only [oW hW, if_true, gW hW, pW hW, obs, (rW (f1.refW hR) hW).2.1]
  rw [stW2 hW (by omega) (by omega)]
  simp only [obs, Int.toNat_natCast, gW hW, (rW (f2.refW hR) hW).2.2.2.1]
  rw [stW4 hW (by omega) (by omega)]
  simp only [obs, Int.toNat_natCast]
  rw [x_makeGap_l hW (f3.refW hR) ?_ hB]
  rw [upm_app, if_neg (by omega), upm_app, if_neg (by omega), upm_app, if_neg (by omega)]
  exact h7
def plB (B : Nat → Int) : Nat → Int := up1 B 0 (B 0 + 1)
theorem plB_o {j : Nat} (h : ¬ j = 0) : plB B j = B j := up1_ne h
theorem nP_pl (hB : BV B) : nP (plB B) = nP B + 1 := by
  have := hB.nP_le
  have h0 := hB.1
  unfold nP plB
  rw [up1_eq]
  omega
theorem nK_pl : nK (plB B) = nK B := nK_up (by decide)
theorem stn_pl {p : Nat} : stn (plB B) p = stn B p := stn_up (by omega)
theorem BV_pl (hB : BV B) (hn : nP B < 10) : BV (plB B) := by
  have hp := hB.nP_le
  obtain ⟨b0, b1, b2, b3, b4, b5⟩ := hB
  have o : ∀ j, ¬ j = 0 → plB B j = B j := fun j hj => plB_o hj
  have e0 : plB B 0 = B 0 + 1 := up1_eq
  refine ⟨by rw [e0]; omega, by rw [o _ (by omega)]; exact b1, by rw [o 2 (by omega), o 5 (by omega)]; exact b2, by rw [o _ (by omega)]; exact b3, fun p hq => ?_, fun w hw => ?_⟩
  · rw [o (7 + p) (by omega), o (17 + p) (by omega), o (27 + p) (by omega), o (37 + p) (by omega), e0]
    obtain ⟨c1, c2, c3, c4, c5, c6⟩ := b4 p hq
    exact ⟨c1, c2, c3, c4, c5, fun q => c6 (by omega)⟩
  · rw [nK_pl] at hw
    rw [o (51 + w) (by omega), o (47 + w) (by omega), stn_pl, e0]
    obtain ⟨c1, c2⟩ := b5 w hw
    refine ⟨c1, ?_⟩
    rcases c2 with c2 | ⟨c2, c3, c4⟩
    · exact .inl c2
    · exact .inr ⟨c2, by omega, c4⟩
theorem cs_pl {p : Int} : ∀ k : Nat, cs (plB B) p k = cs B p k := by
  intro k
  induction k with
  | zero => rfl
  | succ k ih => rw [cs_s, cs_s, ih, plB_o (by omega), plB_o (by omega)]
theorem cs_none {p : Int} : ∀ k : Nat, (∀ w, w < k → ¬ B (47 + w) = p) → cs B p k = 0 := by
  intro k
  induction k with
  | zero => intro _; rfl
  | succ k ih => intro h; rw [cs_s, ih (fun w hw => h w (by omega)), if_neg (h k (by omega))]; rfl
theorem x_addPlace {v d : Int} (hW : wl a) (hR : Ref σ) (h : WR σ a B D) (hB : BV B) (hn : nP B < 10) (hv : Nm v d) : ∃ σ', f_X9_addPlace a v σ = some σ' ∧ WR σ' a (plB B) (up1 D (nP B) d) ∧ Fp (wS a) σ σ' := by
  have hp := hB.nP_le
  have hk := hB.nK_le
  have hx := nrW hW
  have f1 : Fp (wS a) σ (upm σ (a + 5) (nP B) v) := Fp.up (wS_k hW (by omega) (by omega))
  have f2 : Fp (wS a) σ (upm (upm σ (a + 5) (nP B) v) a 0 (B 0 + 1)) := f1.then (wS_a hW hx.1)
  have h7 : upm (upm σ (a + 5) (nP B) v) a 0 (B 0 + 1) a 7 = B 1 := by rw [upm_app, if_neg (by omega), upm_app, if_neg (by omega)]; exact h.1.2.2.1
  have eg := x_makeGap_e (p := nP B) hW (f2.refW hR) h7 hB.bl (by omega)
  have s1 : upm (upm σ (a + 5) (nP B) v) a 0 (B 0 + 1) a 1 = σ a 1 := by rw [upm_app, if_neg (by omega), upm_app, if_neg (by omega)]
  have hnone : ∀ w, w < nK B → ¬ B (47 + w) = ((nP B : Nat) : Int) := fun w hw => by
    have := (hB.2.2.2.2.2 w hw).2
    omega
  have hst : stn B (nP B) = false := by
    have := (hB.2.2.2.2.1 (nP B) hn).2.2.2.2.2 (by omega)
    unfold stn
    rw [this]
    decide
  have e0 : iand (σ a 1) (ixor (ishl 1 (nP B : Nat)) (-1)) = ((aS (plB B) : Nat) : Int) := by
    rw [h.1.2.1, shl1 hn, iandn (by have := aS_lt hB; omega) (by have := p10 hn; omega)]
    congr 1
    show sub (aS B) (2 ^ nP B) = _
    apply Nat.eq_of_testBit_eq
    intro k
    unfold aS
    rw [sub_bit, setOf_bit, setOf_bit, nP_pl hB, Nat.testBit_two_pow, stn_pl]
    by_cases q : k = nP B
    · subst q
      rw [hst]
      simp
    · have : decide (nP B = k) = false := by simp; omega
      rw [this]
      by_cases r : k < nP B
      · simp [r]; omega
      · have r2 : ¬ k < nP B + 1 := by omega
        simp [r, r2]
  rw [s1, e0] at eg
  have fz : Fp (wS a) σ (offM (upm (upm (upm (upm (upm σ (a + 5) (nP B) v) a 0 (B 0 + 1)) a 1 (aS (plB B) : Nat)) (a + 2) (nP B) 0) (a + 4) (nP B) 0) a (nP B) (nK B)) :=
    Fp.trans (((f2.then (wS_a hW hx.2.1)).then (wS_k hW (by omega) (by omega))).then (wS_k hW (by omega) (by omega))) (offM_fp hW)
  refine ⟨_, ?_, ?_, fz⟩
  · unfold f_X9_addPlace f_X9_addPlace_b0 f_X9_isFull f_X9_isFull_b0
    simp only [oW hW, if_true, gW hW, pW hW, obs, h.1.1, (rW hR hW).2.2.2.2.1]
    have e1 : upm σ (a + 5) (nP B) v a 0 = B 0 := by rw [upm_o (by omega)]; exact h.1.1
    rw [if_pos (show B 0 < 10 by omega), show st_ Sh σ 21 ((a + 5 : Nat) : Int) (B 0) v = some (upm σ (a + 5) (nP B) v) by rw [← hp.2, stW5 hW (by omega) (by omega), Int.toNat_natCast]]
    simp only [obs, gW hW, pW hW, if_true, e1, upm_same]
    rw [w32_in (z := B 0 + 1) (by omega) (by omega), w32_in (by omega) (by omega), show B 0 + 1 - 1 = ((nP B : Nat) : Int) by omega, eg, obs]
  · generalize hz : offM (upm (upm (upm (upm (upm σ (a + 5) (nP B) v) a 0 (B 0 + 1)) a 1 (aS (plB B) : Nat)) (a + 2) (nP B) 0) (a + 4) (nP B) 0) a (nP B) (nK B) = σz
    have z6 : ∀ w, w < nK B → σz (a + 6) w = σ (a + 6) w := fun w hw => by
      rw [← hz]
      unfold offM
      have : ¬ σ (a + 6) w = ((nP B : Nat) : Int) := by rw [(h.2.2.1 w hw).1]; exact hnone w hw
      simp (disch := omega) [upm_app, this]
    have za : ∀ j, σz a j = if j = 0 then B 0 + 1 else if j = 1 then ((aS (plB B) : Nat) : Int) else σ a j := fun j => by
      rw [← hz]
      unfold offM
      rw [if_neg (by omega), upm_o (by omega), upm_o (by omega), upm_app, upm_app, upm_o (by omega)]
      grind
    have z1 : ∀ j, σz (a + 1) j = σ (a + 1) j ∧ σz (a + 3) j = σ (a + 3) j ∧ σz (a + 7) j = σ (a + 7) j ∧ σz (a + 8) j = σ (a + 8) j := fun j => by
      rw [← hz]
      unfold offM
      refine ⟨?_, ?_, ?_, ?_⟩ <;> rw [if_neg (by omega), upm_o (by omega), upm_o (by omega), upm_o (by omega), upm_o (by omega), upm_o (by omega)]
    have z2 : ∀ j, σz (a + 2) j = if j = nP B then 0 else σ (a + 2) j := fun j => by
      rw [← hz]
      unfold offM
      rw [if_neg (by omega), upm_o (by omega), upm_app, upm_o (by omega), upm_o (by omega), upm_o (by omega)]
      grind
    have z4 : ∀ j, σz (a + 4) j = if j = nP B then 0 else σ (a + 4) j := fun j => by
      rw [← hz]
      unfold offM
      rw [if_neg (by omega), upm_app, upm_o (by omega), upm_o (by omega), upm_o (by omega), upm_o (by omega)]
      grind
    have z5 : ∀ j, σz (a + 5) j = if j = nP B then v else σ (a + 5) j := fun j => by
      rw [← hz]
      unfold offM
      rw [if_neg (by omega), upm_o (by omega), upm_o (by omega), upm_o (by omega), upm_o (by omega), upm_app]
      grind
    obtain ⟨⟨g1, g2, g3, g4, g5, g6, g7, g8⟩, k1, k2, k3, k4⟩ := h
    refine ⟨⟨?_, ?_, ?_, ?_, ?_, ?_, ?_, ?_⟩, fun p hq => ?_, fun w hw => ?_, fun p hq => ?_, fun w hw => ?_⟩
    · rw [za]; exact up1_eq.symm
    · rw [za]; rfl
    · rw [za, plB_o (by omega)]; exact g3
    · rw [za, plB_o (by omega)]; exact g4
    · rw [za, plB_o (by omega)]; exact g5
    · rw [za, plB_o (by omega)]; exact g6
    · rw [za, plB_o (by omega)]; exact g7
    · rw [za, plB_o (by omega)]; exact g8
    · rw [nP_pl hB] at hq
      rw [stn_pl, nK_pl, cs_pl, plB_o (by omega), plB_o (by omega), plB_o (by omega), (z1 p).1, (z1 p).2.1, z2, z4]
      by_cases q : p = nP B
      · subst q
        rw [hst, if_pos rfl, if_pos rfl, cs_none _ hnone]
        exact ⟨fun w => (by cases w), fun _ => rfl, rfl⟩
      · rw [if_neg q, if_neg q]
        exact k1 p (by omega)
    · rw [nK_pl] at hw
      rw [z6 w hw, (z1 w).2.2.1, plB_o (by omega), plB_o (by omega)]
      exact k2 w hw
    · rw [nP_pl hB] at hq
      rw [z5]
      by_cases q : p = nP B
      · rw [if_pos q, q, up1_eq]; exact hv
      · rw [if_neg q, up1_ne q]; exact k3 p (by omega)
    · rw [nK_pl] at hw
      rw [(z1 w).2.2.2, up1_ne (by omega)]
      exact k4 w hw
end
