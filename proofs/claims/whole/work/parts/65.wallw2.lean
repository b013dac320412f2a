/-! ===== stones set, crows moved, years, trials: the court ===== -/
section
variable {σ σ' : Mem} {a : Nat} {B D : Nat → Int}
theorem wS_a {j : Nat} (hW : wl a) (h : isRf a j = false) : wS a a j := ⟨by omega, by omega, h⟩
theorem wS_k {k j : Nat} (hW : wl a) (h0 : 1 ≤ k) (h1 : k ≤ 8) : wS a (a + k) j := ⟨by omega, by omega, nrWs hW h0 h1⟩
/-- a stone is set where a gap is -/
def setB (B : Nat → Int) (p : Nat) (l m s : Int) : Nat → Int := up1 (up1 (up1 (up1 B (7 + p) 1) (17 + p) l) (27 + p) m) (37 + p) s
theorem setB_at {p j : Nat} {l m s : Int} : setB B p l m s j = if j = 37 + p then s else if j = 27 + p then m else if j = 17 + p then l else if j = 7 + p then 1 else B j := rfl
theorem nP_setB {p : Nat} {l m s : Int} : nP (setB B p l m s) = nP B := by unfold nP; rw [setB_at, if_neg (by omega), if_neg (by omega), if_neg (by omega), if_neg (by omega)]
theorem nK_setB {p : Nat} {l m s : Int} : nK (setB B p l m s) = nK B := by unfold nK; rw [setB_at, if_neg (by omega), if_neg (by omega), if_neg (by omega), if_neg (by omega)]
theorem stn_setB {p k : Nat} {l m s : Int} (hp : p < 10) (hk : k < 10) : stn (setB B p l m s) k = (decide (k = p) || stn B k) := by
  unfold stn
  rw [setB_at, if_neg (by omega), if_neg (by omega), if_neg (by omega)]
  by_cases q : k = p
  · subst q; simp
  · rw [if_neg (by omega)]; simp [q]
theorem cs_setB {p k : Nat} {l m s q : Int} (hp : p < 10) (hk : k ≤ 4) : cs (setB B p l m s) q k = cs B q k := by
  induction k with
  | zero => rfl
  | succ k ih =>
    have e : ∀ j, 47 ≤ j → setB B p l m s j = B j := fun j hj => by rw [setB_at, if_neg (by omega), if_neg (by omega), if_neg (by omega), if_neg (by omega)]
    rw [cs_s, cs_s, ih (by omega), e _ (by omega), e _ (by omega)]
theorem aS_setB {p : Nat} {l m s : Int} (hB : BV B) (hp : p < nP B) : aS (setB B p l m s) = aS B ||| 2 ^ p := by
  have hn := hB.nP_le
  apply Nat.eq_of_testBit_eq
  intro k
  unfold aS
  rw [Nat.testBit_or, setOf_bit, setOf_bit, nP_setB, Nat.testBit_two_pow]
  by_cases h : k < nP B
  · rw [stn_setB (by omega) (by omega)]
    have : decide (p = k) = decide (k = p) := by by_cases q : k = p <;> simp [q]; omega
    rw [this]
    simp only [h, decide_true, Bool.true_and]
    rw [Bool.or_comm]
  · have : ¬ p = k := by omega
    simp [h, this]
theorem BV_setB {p : Nat} {l m s : Int} (hB : BV B) (hp : p < nP B) (hl : 0 ≤ l ∧ l ≤ 30) (hm : 0 ≤ m ∧ m ≤ 9) (hs : 1 ≤ s ∧ s ≤ 9) : BV (setB B p l m s) := by
  have hn := hB.nP_le
  have hk := hB.nK_le
  obtain ⟨b0, b1, b2, b3, b4, b5⟩ := hB
  have e : ∀ j, j < 7 ∨ 47 ≤ j → setB B p l m s j = B j := fun j hj => by rw [setB_at, if_neg (by omega), if_neg (by omega), if_neg (by omega), if_neg (by omega)]
  refine ⟨by rw [e _ (by omega)]; exact b0, by rw [e _ (by omega)]; exact b1, by rw [e _ (by omega), e _ (by omega)]; exact b2, by rw [e _ (by omega)]; exact b3, fun q hq => ?_, fun w hw => ?_⟩
  · obtain ⟨c1, c2, c3, c4, c5, c6⟩ := b4 q hq
    rw [e 0 (by omega)]
    simp only [setB_at]
    by_cases r : q = p
    · subst r
      simp (disch := omega) only [if_pos, if_neg]
      exact ⟨.inr rfl, hl, hm, ⟨by omega, by omega⟩, fun _ => hs.1, fun _ => by omega⟩
    · simp (disch := omega) only [if_neg]
      exact ⟨c1, c2, c3, c4, c5, c6⟩
  · rw [nK_setB] at hw
    rw [e (51 + w) (by omega), e (47 + w) (by omega), e 0 (by omega)]
    obtain ⟨c1, c2⟩ := b5 w hw
    refine ⟨c1, ?_⟩
    rcases c2 with c2 | ⟨c2, c3, c4⟩
    · exact .inl c2
    · refine .inr ⟨c2, c3, ?_⟩
      rw [stn_setB (by omega) (by omega), c4]
      simp
theorem x_setStone {p : Nat} {l m s : Int} (hW : wl a) (hR : Ref σ) (h : WR σ a B D) (hB : BV B) (hp : p < nP B) : ∃ σ', f_X9_setStone a p l m s σ = some σ' ∧ WR σ' a (setB B p l m s) D ∧ Fp (wS a) σ σ' := by
  have hk := hB.nK_le
  have hn := hB.nP_le
  have hx := nrW hW
  have f1 : Fp (wS a) σ (upm σ a 1 (ior (σ a 1) (ishl 1 p))) := Fp.up (wS_a hW hx.2.1)
  have f2 : Fp (wS a) σ (upm (upm σ a 1 (ior (σ a 1) (ishl 1 p))) (a + 1) p l) := f1.then (wS_k hW (by omega) (by omega))
  have f3 : Fp (wS a) σ (upm (upm (upm σ a 1 (ior (σ a 1) (ishl 1 p))) (a + 1) p l) (a + 2) p m) := f2.then (wS_k hW (by omega) (by omega))
  have f4 : Fp (wS a) σ (upm (upm (upm (upm σ a 1 (ior (σ a 1) (ishl 1 p))) (a + 1) p l) (a + 2) p m) (a + 3) p s) := f3.then (wS_k hW (by omega) (by omega))
  refine ⟨_, ?_, ?_, f4⟩
  · unfold f_X9_setStone f_X9_setStone_b0
    simp only [oW hW, if_true, gW hW, pW hW, obs, (rW (f1.refW hR) hW).1]
    rw [stW1 hW (by omega) (by omega)]
    simp only [obs, Int.toNat_natCast, gW hW, (rW (f2.refW hR) hW).2.1]
    rw [stW2 hW (by omega) (by omega)]
    simp only [obs, Int.toNat_natCast, gW hW, (rW (f3.refW hR) hW).2.2.1]
    rw [stW3 hW (by omega) (by omega)]
    simp only [obs, Int.toNat_natCast]
  · have e0 : ior (σ a 1) (ishl 1 p) = ((aS (setB B p l m s) : Nat) : Int) := by
      rw [h.1.2.1, shl1 (by omega), ior_nat (by have := aS_lt hB; omega) (by have := p10 (show p < 10 by omega); omega), aS_setB hB hp]
    rw [e0]
    obtain ⟨⟨g1, g2, g3, g4, g5, g6, g7, g8⟩, k1, k2, k3, k4⟩ := h
    have f : ∀ j, j < 7 ∨ 47 ≤ j → setB B p l m s j = B j := fun j hj => by rw [setB_at, if_neg (by omega), if_neg (by omega), if_neg (by omega), if_neg (by omega)]
    refine ⟨⟨?_, ?_, ?_, ?_, ?_, ?_, ?_, ?_⟩, fun q hq => ?_, fun w hw => ?_, fun q hq => ?_, fun w hw => ?_⟩
    · rw [f _ (by omega)]; simp (disch := omega) [upm_app, g1]
    · simp (disch := omega) [upm_app]
    · rw [f _ (by omega)]; simp (disch := omega) [upm_app, g3]
    · rw [f _ (by omega)]; simp (disch := omega) [upm_app, g4]
    · rw [f _ (by omega)]; simp (disch := omega) [upm_app, g5]
    · rw [f _ (by omega)]; simp (disch := omega) [upm_app, g6]
    · rw [f _ (by omega)]; simp (disch := omega) [upm_app, g7]
    · rw [f _ (by omega)]; simp (disch := omega) [upm_app, g8]
    · rw [nP_setB] at hq
      rw [stn_setB (by omega) (by omega), nK_setB, cs_setB (by omega) hk.1]
      obtain ⟨c1, c2, c3⟩ := k1 q hq
      simp only [setB_at]
      by_cases r : q = p
      · subst r
        simp (disch := omega) [upm_app, c3]
      · simp (disch := omega) only [if_neg]
        simp [upm_app, c3, r]
        exact ⟨c1, c2⟩
    · rw [nK_setB] at hw
      rw [f _ (by omega), f _ (by omega)]
      simp (disch := omega) [upm_app, k2 w hw]
    · rw [nP_setB] at hq
      simp (disch := omega) [upm_app]
      exact k3 q hq
    · rw [nK_setB] at hw
      simp (disch := omega) [upm_app]
      exact k4 w hw
/-! a crow moves -/
def vc (B : Nat → Int) (w : Nat) : Int := if B (51 + w) = 1 then 3 else -3
theorem cs_on {w k : Nat} {x q : Int} (hw : w < k) (hk : k ≤ 4) : cs (up1 B (47 + w) x) q k = cs B q k - (if B (47 + w) = q then vc B w else 0) + (if x = q then vc B w else 0) := by
  induction k with
  | zero => omega
  | succ k ih =>
    rw [cs_s, cs_s, up1_ne (j := 51 + k) (by omega)]
    by_cases r : w = k
    · subst r
      rw [up1_eq]
      have : ∀ m, m ≤ w → cs (up1 B (47 + w) x) q m = cs B q m := by
        intro m hm
        induction m with
        | zero => rfl
        | succ m ih => rw [cs_s, cs_s, ih (by omega), up1_ne (by omega), up1_ne (by omega)]
      rw [this w (by omega)]
      unfold vc
      grind
    · rw [ih (by omega) (by omega), up1_ne (j := 47 + k) (by omega)]
      omega
theorem BV_on {w p : Nat} (hB : BV B) (hw : w < nK B) (hp : p < nP B) (hs : stn B p = true) : BV (up1 B (47 + w) p) := by
  have hn := hB.nP_le
  have hk := hB.nK_le
  obtain ⟨b0, b1, b2, b3, b4, b5⟩ := hB
  refine ⟨by rw [up1_ne (by omega)]; exact b0, by rw [up1_ne (by omega)]; exact b1, by rw [up1_ne (by omega), up1_ne (by omega)]; exact b2, by rw [up1_ne (by omega)]; exact b3, fun q hq => ?_, fun v hv => ?_⟩
  · rw [up1_ne (by omega), up1_ne (by omega), up1_ne (by omega), up1_ne (by omega), up1_ne (by omega)]
    exact b4 q hq
  · rw [nK_up (by omega)] at hv
    rw [up1_ne (j := 51 + v) (by omega), up1_ne (j := 0) (by omega)]
    obtain ⟨c1, c2⟩ := b5 v hv
    refine ⟨c1, ?_⟩
    by_cases r : v = w
    · subst r
      rw [up1_eq]
      refine .inr ⟨by omega, by omega, ?_⟩
      rw [Int.toNat_natCast, stn_up (by omega)]
      exact hs
    · rw [up1_ne (j := 47 + v) (by omega)]
      rcases c2 with c2 | ⟨c2, c3, c4⟩
      · exact .inl c2
      · refine .inr ⟨c2, c3, ?_⟩
        rw [stn_up (by omega)]
        exact c4
theorem WR.on {w p : Nat} (h : WR σ a B D) (hB : BV B) (hw : w < nK B) (hp : p < nP B) (e0 : ∀ j, σ' a j = σ a j) (e1 : ∀ k j, 1 ≤ k → k ≤ 8 → ¬ k = 4 → ¬ k = 6 → σ' (a + k) j = σ (a + k) j) (e4 : ∀ q, q < nP B → σ' (a + 4) q = cs (up1 B (47 + w) p) q (nK B)) (e6 : ∀ j, σ' (a + 6) j = if j = w then (p : Int) else σ (a + 6) j) : WR σ' a (up1 B (47 + w) p) D := by
  have hn := hB.nP_le
  have hx := hB.nK_le
  obtain ⟨⟨g1, g2, g3, g4, g5, g6, g7, g8⟩, k1, k2, k3, k4⟩ := h
  refine ⟨⟨by rw [up1_ne (by omega), e0, g1], by rw [aS_up hB (by omega) (by omega), e0, g2], by rw [up1_ne (by omega), e0, g3], by rw [up1_ne (by omega), e0, g4], by rw [up1_ne (by omega), e0, g5], by rw [up1_ne (by omega), e0, g6], by rw [up1_ne (by omega), e0, g7], by rw [up1_ne (by omega), e0, g8]⟩, fun q hq => ?_, fun v hv => ?_, fun q hq => ?_, fun v hv => ?_⟩
  · rw [nP_up (by omega)] at hq
    rw [stn_up (by omega), nK_up (by omega), e4 q hq, e1 1 _ (by omega) (by omega) (by omega) (by omega), e1 2 _ (by omega) (by omega) (by omega) (by omega), e1 3 _ (by omega) (by omega) (by omega) (by omega), up1_ne (by omega), up1_ne (by omega), up1_ne (by omega)]
    exact ⟨(k1 q hq).1, (k1 q hq).2.1, rfl⟩
  · rw [nK_up (by omega)] at hv
    rw [e6 v, e1 7 _ (by omega) (by omega) (by omega) (by omega), up1_ne (j := 51 + v) (by omega)]
    refine ⟨?_, (k2 v hv).2⟩
    by_cases r : v = w
    · subst r; rw [if_pos rfl, up1_eq]
    · rw [if_neg r, up1_ne (by omega), (k2 v hv).1]
  · rw [nP_up (by omega)] at hq
    rw [e1 5 _ (by omega) (by omega) (by omega) (by omega)]
    exact k3 q hq
  · rw [nK_up (by omega)] at hv
    rw [e1 8 _ (by omega) (by omega) (by omega) (by omega)]
    exact k4 v hv
theorem x_moveCrow_b41 {w p : Nat} {x : Int} (hW : wl a) (hR : Ref σ) (hw : w < 4) (hp : p < 10) : f_X9_moveCrow_b41 a w p x σ = some (upm (upm σ (a + 4) p (w32 (σ (a + 4) p + x))) (a + 6) w p) := by
  have f1 : Fp (wS a) σ (upm σ (a + 4) p (w32 (σ (a + 4) p + x))) := Fp.up (wS_k hW (by omega) (by omega))
  unfold f_X9_moveCrow_b41
  simp only [gW hW, obs, (rW hR hW).2.2.2.1]
  rw [alW4 hW (by omega) (by omega), obs, stW4 hW (by omega) (by omega)]
  simp only [obs, Int.toNat_natCast, (rW (f1.refW hR) hW).2.2.2.2.2.1, gW hW]
  rw [stW6 hW (by omega) (by omega)]
  simp only [obs, Int.toNat_natCast]
theorem x_moveCrow {w p : Nat} (hW : wl a) (hR : Ref σ) (h : WR σ a B D) (hB : BV B) (hw : w < nK B) (hp : p < nP B) : ∃ σ', f_X9_moveCrow a w p σ = some σ' ∧ WR σ' a (up1 B (47 + w) p) D ∧ Fp (wS a) σ σ' := by
  have hk := hB.nK_le
  have hn := hB.nP_le
  obtain ⟨q1, q2⟩ := h.2.2.1 w hw
  obtain ⟨c1, c2⟩ := hB.2.2.2.2.2 w hw
  have e : f_X9_moveCrow a w p σ = f_X9_moveCrow_b15 a w p (vc B w) σ := by
    unfold f_X9_moveCrow f_X9_moveCrow_b0
    simp only [oW hW, if_true, gW hW, obs, (rW hR hW).2.2.2.2.2.2.1]
    rw [alW7 hW (by omega) (by omega)]
    simp only [obs, Int.toNat_natCast, q2]
    unfold vc
    rcases c1 with r | r <;> rw [r] <;> rfl
  have hv : vc B w = 3 ∨ vc B w = -3 := by unfold vc; split <;> simp
  have l : ∀ q, -12 ≤ cs B q (nK B) ∧ cs B q (nK B) ≤ 12 := fun q => by have := cs_le B q (nK B); omega
  rw [e]
  unfold f_X9_moveCrow_b15
  simp only [gW hW, obs, (rW hR hW).2.2.2.2.2.1, (rW hR hW).2.2.2.1]
  rw [alW6 hW (by omega) (by omega)]
  simp only [obs, Int.toNat_natCast, q1]
  by_cases r : B (47 + w) = -1
  · rw [if_pos r, x_moveCrow_b41 hW hR (by omega) (by omega)]
    have l1 := l p
    have f1 : Fp (wS a) σ (upm σ (a + 4) p (w32 (σ (a + 4) p + vc B w))) := Fp.up (wS_k hW (by omega) (by omega))
    refine ⟨_, rfl, ?_, f1.then (wS_k hW (by omega) (by omega))⟩
    refine h.on hB hw hp (fun j => ?_) (fun k j h1 h2 h3 h4 => ?_) (fun q hq => ?_) (fun j => ?_)
    · rw [upm_app, if_neg (by omega), upm_app, if_neg (by omega)]
    · rw [upm_app, if_neg (by omega), upm_app, if_neg (by omega)]
    · rw [cs_on hw hk.1, r, if_neg (by omega), upm_app, if_neg (by omega), upm_app, (h.2.1 p hp).2.2]
      by_cases s : q = p
      · subst s
        rw [if_pos (by omega), if_pos rfl, w32_in (by omega) (by omega)]
        omega
      · rw [if_neg (by omega), if_neg (by omega), (h.2.1 q hq).2.2]
        omega
    · rw [upm_app]
      by_cases s : j = w
      · rw [if_pos (by omega), if_pos s]
      · rw [if_neg (by omega), if_neg s, upm_app, if_neg (by omega)]
  · rw [if_neg r]
    rcases c2 with c2 | ⟨c2, c3, c4⟩
    · exact absurd c2 r
    · obtain ⟨o, ho⟩ := nat_of c2
      have hon : o < nP B := by omega
      have l1 := l p
      have l2 := l o
      rw [ho, alW4 hW (by omega) (by omega), obs, stW4 hW (by omega) (by omega)]
      simp only [obs, Int.toNat_natCast]
      have f1 : Fp (wS a) σ (upm σ (a + 4) o (w32 (σ (a + 4) o - vc B w))) := Fp.up (wS_k hW (by omega) (by omega))
      rw [x_moveCrow_b41 hW (f1.refW hR) (by omega) (by omega)]
      refine ⟨_, rfl, ?_, (f1.then (wS_k hW (by omega) (by omega))).then (wS_k hW (by omega) (by omega))⟩
      refine h.on hB hw hp (fun j => ?_) (fun k j h1 h2 h3 h4 => ?_) (fun q hq => ?_) (fun j => ?_)
      · rw [upm_app, if_neg (by omega), upm_app, if_neg (by omega), upm_app, if_neg (by omega)]
      · rw [upm_app, if_neg (by omega), upm_app, if_neg (by omega), upm_app, if_neg (by omega)]
      · rw [cs_on hw hk.1, ho]
        simp only [upm_app, (h.2.1 p hp).2.2, (h.2.1 o hon).2.2, (h.2.1 q hq).2.2]
        rw [if_neg (by omega)]
        have l3 := l q
        have w1 : w32 (cs B o (nK B) - vc B w) = cs B o (nK B) - vc B w := w32_in (by omega) (by omega)
        rw [w1]
        by_cases s : p = o
        · subst s
          simp only [and_self, if_true, true_and]
          rw [w32_in (by omega) (by omega)]
          by_cases t : q = p
          · subst t; simp
          · have : ¬ (p : Int) = q := by omega
            simp [t, this]
        · have s' : ¬ (p : Int) = o := by omega
          simp only [s, and_false, if_false, true_and]
          rw [w32_in (z := cs B p (nK B) + vc B w) (by omega) (by omega)]
          by_cases t : q = p
          · subst t
            have : ¬ (o : Int) = q := by omega
            simp [this]
          · have t' : ¬ (p : Int) = q := by omega
            by_cases u : q = o
            · subst u; simp [t, t']
            · have u' : ¬ (o : Int) = q := by omega
              simp [t, t', u, u']
      · simp only [upm_app]
        by_cases s : j = w
        · simp [s]
        · simp [s]
end
