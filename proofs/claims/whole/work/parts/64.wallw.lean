/-! ===== what the court's wall does ===== -/
section
variable {σ σ' : Mem} {a : Nat} {B D : Nat → Int}
theorem up1_ne {i j : Nat} {v : Int} (h : ¬ j = i) : up1 B i v j = B j := by unfold up1; rw [if_neg h]
theorem up1_eq {i : Nat} {v : Int} : up1 B i v i = v := by unfold up1; rw [if_pos rfl]
theorem nP_up {i : Nat} {v : Int} (h : ¬ i = 0) : nP (up1 B i v) = nP B := by unfold nP; rw [up1_ne (by omega)]
theorem nK_up {i : Nat} {v : Int} (h : ¬ i = 1) : nK (up1 B i v) = nK B := by unfold nK; rw [up1_ne (by omega)]
theorem stn_up {i p : Nat} {v : Int} (h : ¬ i = 7 + p) : stn (up1 B i v) p = stn B p := by unfold stn; rw [up1_ne (by omega)]
theorem aS_up {i : Nat} {v : Int} (hB : BV B) (h0 : ¬ i = 0) (h : i < 7 ∨ 17 ≤ i) : aS (up1 B i v) = aS B := by
  have := hB.nP_le
  unfold aS
  rw [nP_up h0]
  exact setOf_cg fun k hk => stn_up (by omega)
theorem cs_up {i k : Nat} {v p : Int} (h : i < 47 ∨ 55 ≤ i) (hk : k ≤ 4) : cs (up1 B i v) p k = cs B p k := by
  induction k with
  | zero => rfl
  | succ k ih => rw [cs_s, cs_s, ih (by omega), up1_ne (by omega), up1_ne (by omega)]
/-- the scalars: odds, year, trials, condemned, wrong -/
theorem WR.scal {k : Nat} {v : Int} (h : WR σ a B D) (hB : BV B) (hk : 2 ≤ k ∧ k ≤ 6) : WR (upm σ a (9 + k) v) a (up1 B k v) D := by
  have hn := hB.nP_le
  have hq := hB.nK_le
  obtain ⟨⟨g1, g2, g3, g4, g5, g6, g7, g8⟩, k1, k2, k3, k4⟩ := h
  have e1 : ∀ b j, ¬ b = a → upm σ a (9 + k) v b j = σ b j := fun b j hb => by rw [upm_app, if_neg (by omega)]
  have e2 : ∀ j, ¬ j = 9 + k → upm σ a (9 + k) v a j = σ a j := fun j hj => by rw [upm_app, if_neg (by omega)]
  have e3 : ∀ s c, c = s + 9 → σ a c = B s → upm σ a (9 + k) v a c = up1 B k v s := by
    intro s c hc e
    by_cases q : s = k
    · subst q; rw [up1_eq, upm_app, if_pos (by omega)]
    · rw [up1_ne q, e2 c (by omega), e]
  refine ⟨⟨by rw [up1_ne (by omega), e2 _ (by omega), g1], by rw [aS_up hB (by omega) (by omega), e2 _ (by omega), g2], by rw [up1_ne (by omega), e2 _ (by omega), g3], e3 2 11 (by omega) g4, e3 3 12 (by omega) g5, e3 4 13 (by omega) g6, e3 5 14 (by omega) g7, e3 6 15 (by omega) g8⟩, fun p hp => ?_, fun w hw => ?_, fun p hp => ?_, fun w hw => ?_⟩
  · rw [nP_up (by omega)] at hp
    rw [stn_up (by omega), nK_up (by omega), cs_up (by omega) hq.1, e1 _ _ (by omega), e1 _ _ (by omega), e1 _ _ (by omega), e1 _ _ (by omega), up1_ne (by omega), up1_ne (by omega), up1_ne (by omega)]
    exact k1 p hp
  · rw [nK_up (by omega)] at hw
    rw [e1 _ _ (by omega), e1 _ _ (by omega), up1_ne (by omega), up1_ne (by omega)]
    exact k2 w hw
  · rw [nP_up (by omega)] at hp
    rw [e1 _ _ (by omega)]
    exact k3 p hp
  · rw [nK_up (by omega)] at hw
    rw [e1 _ _ (by omega)]
    exact k4 w hw
/-- lenient (1), moss (2), strength (3) of a stone -/
theorem WR.arr {k q : Nat} {v : Int} (h : WR σ a B D) (hB : BV B) (hk : 1 ≤ k ∧ k ≤ 3) (hq : q < nP B) (hs : stn B q = true) : WR (upm σ (a + k) q v) a (up1 B (7 + 10 * k + q) v) D := by
  have hn := hB.nP_le
  have hx := hB.nK_le
  obtain ⟨⟨g1, g2, g3, g4, g5, g6, g7, g8⟩, k1, k2, k3, k4⟩ := h
  have e1 : ∀ b j, ¬ b = a + k → upm σ (a + k) q v b j = σ b j := fun b j hb => by rw [upm_app, if_neg (by omega)]
  have e2 : ∀ j, upm σ (a + k) q v a j = σ a j := fun j => e1 _ _ (by omega)
  have e3 : ∀ m p, 1 ≤ m → m ≤ 3 → p < 10 → σ (a + m) p = B (7 + 10 * m + p) → upm σ (a + k) q v (a + m) p = up1 B (7 + 10 * k + q) v (7 + 10 * m + p) := by
    intro m p h1 h2 h3 e
    by_cases r : m = k ∧ p = q
    · obtain ⟨rfl, rfl⟩ := r; rw [up1_eq, upm_app, if_pos (by omega)]
    · rw [up1_ne (by omega), upm_app, if_neg (by omega), e]
  refine ⟨⟨by rw [up1_ne (by omega), e2, g1], by rw [aS_up hB (by omega) (by omega), e2, g2], by rw [up1_ne (by omega), e2, g3], by rw [up1_ne (by omega), e2, g4], by rw [up1_ne (by omega), e2, g5], by rw [up1_ne (by omega), e2, g6], by rw [up1_ne (by omega), e2, g7], by rw [up1_ne (by omega), e2, g8]⟩, fun p hp => ?_, fun w hw => ?_, fun p hp => ?_, fun w hw => ?_⟩
  · rw [nP_up (by omega)] at hp
    rw [stn_up (by omega), nK_up (by omega), cs_up (by omega) hx.1, e1 (a + 4) _ (by omega)]
    obtain ⟨c1, c2, c3⟩ := k1 p hp
    refine ⟨fun r => ⟨e3 1 p (by omega) (by omega) (by omega) (c1 r).1, e3 2 p (by omega) (by omega) (by omega) (c1 r).2.1, e3 3 p (by omega) (by omega) (by omega) (c1 r).2.2⟩, fun r => ?_, c3⟩
    rw [upm_app, if_neg, c2 r]
    rintro ⟨h1, h2⟩
    subst h2
    rw [hs] at r
    cases r
  · rw [nK_up (by omega)] at hw
    rw [e1 _ _ (by omega), e1 _ _ (by omega), up1_ne (by omega), up1_ne (by omega)]
    exact k2 w hw
  · rw [nP_up (by omega)] at hp
    rw [e1 _ _ (by omega)]
    exact k3 p hp
  · rw [nK_up (by omega)] at hw
    rw [e1 _ _ (by omega)]
    exact k4 w hw
/-! a stone falls -/
def BL (B : Nat → Int) : Prop := (0 ≤ B 0 ∧ B 0 ≤ 10) ∧ (0 ≤ B 1 ∧ B 1 ≤ 4)
theorem BV.bl (h : BV B) : BL B := ⟨h.1, h.2.1⟩
theorem BL.nP_le (h : BL B) : nP B ≤ 10 ∧ (nP B : Int) = B 0 := by
  obtain ⟨h, _⟩ := h
  unfold nP
  omega
theorem BL.nK_le (h : BL B) : nK B ≤ 4 ∧ (nK B : Int) = B 1 := by
  obtain ⟨_, h⟩ := h
  unfold nK
  omega
def fallB (B : Nat → Int) (p : Nat) : Nat → Int := fun j => if j = 7 + p then 0 else if 47 ≤ j ∧ j < 47 + nK B ∧ B j = p then -1 else B j
theorem fallB_o {p j : Nat} (h1 : ¬ j = 7 + p) (h2 : j < 47 ∨ 55 ≤ j) (hB : BL B) : fallB B p j = B j := by
  have := hB.nK_le
  unfold fallB
  rw [if_neg h1, if_neg (by omega)]
theorem fallB_for {p w : Nat} (hp : p < 10) (hB : BL B) : fallB B p (51 + w) = B (51 + w) := by
  have := hB.nK_le
  unfold fallB
  rw [if_neg (by omega), if_neg (by omega)]
theorem fallB_on {p w : Nat} (hp : p < 10) (hw : w < nK B) : fallB B p (47 + w) = if B (47 + w) = p then -1 else B (47 + w) := by
  unfold fallB
  rw [if_neg (by omega)]
  by_cases q : B (47 + w) = p
  · rw [if_pos ⟨by omega, by omega, q⟩, if_pos q]
  · rw [if_neg (by rintro ⟨_, _, r⟩; exact q r), if_neg q]
theorem nP_fall {p : Nat} : nP (fallB B p) = nP B := by unfold nP fallB; rw [if_neg (by omega), if_neg (by omega)]
theorem nK_fall {p : Nat} : nK (fallB B p) = nK B := by unfold nK fallB; rw [if_neg (by omega), if_neg (by omega)]
theorem stn_fall {p k : Nat} (hk : k < 10) : stn (fallB B p) k = (stn B k && !decide (k = p)) := by
  unfold stn fallB
  by_cases q : k = p
  · subst q; simp
  · rw [if_neg (by omega), if_neg (by omega)]; simp [q]
theorem cs_fall {p k : Nat} {q : Int} (hp : p < 10) (hq : 0 ≤ q) (hB : BL B) (hk : k ≤ nK B) : cs (fallB B p) q k = if q = p then 0 else cs B q k := by
  induction k with
  | zero => simp [cs]
  | succ k ih =>
    rw [cs_s, cs_s, ih (by omega), fallB_for hp hB, fallB_on hp (by omega)]
    by_cases r : q = p
    · subst r
      grind
    · simp only [r, if_false]
      by_cases s : B (47 + k) = p
      · rw [if_pos s, if_neg (by omega), if_neg (by omega)]
      · rw [if_neg s]
theorem aS_fall {p : Nat} (hB : BL B) : aS (fallB B p) = sub (aS B) (2 ^ p) := by
  have hn := hB.nP_le
  apply Nat.eq_of_testBit_eq
  intro k
  unfold aS
  rw [sub_bit, setOf_bit, setOf_bit, nP_fall, Nat.testBit_two_pow]
  by_cases h : k < nP B
  · rw [stn_fall (by omega)]
    have : decide (p = k) = decide (k = p) := by by_cases q : k = p <;> simp [q]; omega
    rw [this]
    simp [h]
  · simp [h]
theorem BV_fall {p : Nat} (hB : BV B) (hp : p < 10) : BV (fallB B p) := by
  have hn := hB.nP_le
  have hk := hB.nK_le
  have hB' := hB.bl
  obtain ⟨b0, b1, b2, b3, b4, b5⟩ := hB
  refine ⟨?_, ?_, ?_, ?_, fun q hq => ?_, fun w hw => ?_⟩
  · rw [fallB_o (by omega) (by omega) hB']; exact b0
  · rw [fallB_o (by omega) (by omega) hB']; exact b1
  · rw [fallB_o (by omega) (by omega) hB', fallB_o (by omega) (by omega) hB']; exact b2
  · rw [fallB_o (by omega) (by omega) hB']; exact b3
  · obtain ⟨c1, c2, c3, c4, c5, c6⟩ := b4 q hq
    rw [fallB_o (j := 17 + q) (by omega) (by omega) hB', fallB_o (j := 27 + q) (by omega) (by omega) hB', fallB_o (j := 37 + q) (by omega) (by omega) hB', fallB_o (j := 0) (by omega) (by omega) hB']
    by_cases r : q = p
    · subst r
      have : fallB B q (7 + q) = 0 := by unfold fallB; rw [if_pos rfl]
      rw [this]
      exact ⟨.inl rfl, c2, c3, c4, fun h => by omega, fun _ => rfl⟩
    · rw [fallB_o (j := 7 + q) (by omega) (by omega) hB']
      exact ⟨c1, c2, c3, c4, c5, c6⟩
  · rw [nK_fall] at hw
    rw [fallB_for hp hB', fallB_on hp hw, fallB_o (j := 0) (by omega) (by omega) hB']
    obtain ⟨c1, c2⟩ := b5 w hw
    refine ⟨c1, ?_⟩
    by_cases q : B (47 + w) = p
    · rw [if_pos q]; exact .inl rfl
    · rw [if_neg q]
      rcases c2 with c2 | ⟨c2, c3, c4⟩
      · exact .inl c2
      · refine .inr ⟨c2, c3, ?_⟩
        rw [stn_fall (by omega), c4]
        simp
        omega
theorem WR.gap {p : Nat} (h : WR σ a B D) (hB : BL B) (hp : p < 10) (e1 : σ' a 1 = (sub (aS B) (2 ^ p) : Nat)) (e2 : σ' (a + 2) p = 0) (e3 : σ' (a + 4) p = 0) (e4 : ∀ w, w < nK B → σ' (a + 6) w = if σ (a + 6) w = p then -1 else σ (a + 6) w)
    (e5 : ∀ j, ¬ j = 1 → σ' a j = σ a j) (e6 : ∀ j, σ' (a + 1) j = σ (a + 1) j ∧ σ' (a + 3) j = σ (a + 3) j ∧ σ' (a + 5) j = σ (a + 5) j ∧ σ' (a + 7) j = σ (a + 7) j ∧ σ' (a + 8) j = σ (a + 8) j) (e7 : ∀ j, ¬ j = p → σ' (a + 2) j = σ (a + 2) j ∧ σ' (a + 4) j = σ (a + 4) j) : WR σ' a (fallB B p) D := by
  have hn := hB.nP_le
  have hx := hB.nK_le
  obtain ⟨⟨g1, g2, g3, g4, g5, g6, g7, g8⟩, k1, k2, k3, k4⟩ := h
  have f : ∀ j, j < 7 → fallB B p j = B j := fun j hj => fallB_o (by omega) (by omega) hB
  refine ⟨⟨by rw [f _ (by omega), e5 _ (by omega), g1], by rw [aS_fall hB, e1], by rw [f _ (by omega), e5 _ (by omega), g3], by rw [f _ (by omega), e5 _ (by omega), g4], by rw [f _ (by omega), e5 _ (by omega), g5], by rw [f _ (by omega), e5 _ (by omega), g6], by rw [f _ (by omega), e5 _ (by omega), g7], by rw [f _ (by omega), e5 _ (by omega), g8]⟩, fun q hq => ?_, fun w hw => ?_, fun q hq => ?_, fun w hw => ?_⟩
  · rw [nP_fall] at hq
    rw [stn_fall (by omega), nK_fall, cs_fall hp (by omega) hB (Nat.le_refl _), (e6 q).1, (e6 q).2.1, fallB_o (j := 17 + q) (by omega) (by omega) hB, fallB_o (j := 27 + q) (by omega) (by omega) hB, fallB_o (j := 37 + q) (by omega) (by omega) hB]
    obtain ⟨c1, c2, c3⟩ := k1 q hq
    by_cases r : q = p
    · subst r
      rw [e2, e3]
      simp
    · rw [(e7 q r).1, (e7 q r).2, if_neg (by omega)]
      simp only [r, decide_false, Bool.not_false, Bool.and_true]
      exact ⟨c1, c2, c3⟩
  · rw [nK_fall] at hw
    rw [e4 w hw, (e6 w).2.2.2.1, fallB_for hp hB, fallB_on hp hw, (k2 w hw).1, (k2 w hw).2]
    exact ⟨rfl, rfl⟩
  · rw [nP_fall] at hq
    rw [(e6 q).2.2.1]
    exact k3 q hq
  · rw [nK_fall] at hw
    rw [(e6 w).2.2.2.2]
    exact k4 w hw
/-- the loop over the crows -/
def offM (σ : Mem) (a p i : Nat) : Mem := fun b j => if b = a + 6 ∧ j < i ∧ σ b j = p then -1 else σ b j
theorem offM_s {p i : Nat} : (if offM σ a p i (a + 6) i = p then upm (offM σ a p i) (a + 6) i (-1) else offM σ a p i) = offM σ a p (i + 1) := by
  have e : offM σ a p i (a + 6) i = σ (a + 6) i := by unfold offM; rw [if_neg (by omega)]
  rw [e]
  by_cases q : σ (a + 6) i = p
  · rw [if_pos q]
    funext b j
    unfold upm offM
    by_cases r : b = a + 6 ∧ j = i
    · obtain ⟨rfl, rfl⟩ := r
      rw [if_pos ⟨rfl, rfl⟩, if_pos ⟨rfl, by omega, q⟩]
    · rw [if_neg r]
      by_cases s : b = a + 6 ∧ j < i ∧ σ b j = p
      · rw [if_pos s, if_pos ⟨s.1, by omega, s.2.2⟩]
      · rw [if_neg s, if_neg]
        rintro ⟨h1, h2, h3⟩
        exact s ⟨h1, by omega, h3⟩
  · rw [if_neg q]
    funext b j
    unfold offM
    by_cases s : b = a + 6 ∧ j < i ∧ σ b j = p
    · rw [if_pos s, if_pos ⟨s.1, by omega, s.2.2⟩]
    · rw [if_neg s, if_neg]
      rintro ⟨h1, h2, h3⟩
      by_cases t : j = i
      · subst t; subst h1; exact q h3
      · exact s ⟨h1, by omega, h3⟩
theorem offM_fp {p i : Nat} (hW : wl a) : Fp (wS a) σ (offM σ a p i) := by
  intro b j hb
  unfold offM
  rw [if_neg]
  rintro ⟨rfl, _, _⟩
  exact hb ⟨by omega, by omega, nrWs hW (by omega) (by omega)⟩
theorem x_makeGap_l {p : Nat} (hW : wl a) (hR : Ref σ) (h7 : σ a 7 = B 1) (hB : BL B) : f_X9_makeGap_h30 FU a p 0 σ = some (offM σ a p (nK B)) := by
  have hk := hB.nK_le
  have := up_all (Q := fun n i => f_X9_makeGap_h30 n a p (i : Int) (offM σ a p i) = some (offM σ a p (nK B))) (nK B) (fun n => ?_) (fun n i hi ih => ?_) (by unfold FU; omega)
  · rw [show offM σ a p 0 = σ by funext b j; unfold offM; rw [if_neg (by omega)]] at this
    exact this
  · rw [hs_X9_makeGap_h30]
    unfold f_X9_makeGap_b30
    simp only [gW hW, obs]
    rw [if_pos]
    unfold offM
    rw [if_neg (by omega)]
    omega
  · have hR' := (offM_fp (σ := σ) (p := p) (i := i) hW).refW hR
    rw [hs_X9_makeGap_h30]
    unfold f_X9_makeGap_b30 f_X9_makeGap_b55
    simp only [gW hW, obs, (rW hR' hW).2.2.2.2.2.1]
    rw [if_neg (by unfold offM; rw [if_neg (by omega)]; omega), w32_in (by omega) (by omega), alW6 hW (by omega) (by omega), stW6 hW (by omega) (by omega)]
    simp only [obs, Int.toNat_natCast]
    have e := @offM_s σ a p i
    rw [← e] at ih
    by_cases q : offM σ a p i (a + 6) i = p
    · rw [if_pos q] at ih ⊢
      exact ih
    · rw [if_neg q] at ih ⊢
      exact ih
theorem x_makeGap {p : Nat} (hW : wl a) (hR : Ref σ) (h : WR σ a B D) (hB : BL B) (hp : p < 10) : ∃ σ', f_X9_makeGap a p σ = some σ' ∧ WR σ' a (fallB B p) D ∧ Fp (wS a) σ σ' := by
  have hk := hB.nK_le
  have hn := nrW hW
  have f1 : Fp (wS a) σ (upm σ a 1 (iand (σ a 1) (ixor (ishl 1 p) (-1)))) := Fp.up ⟨by omega, by omega, hn.2.1⟩
  have f2 : Fp (wS a) σ (upm (upm σ a 1 (iand (σ a 1) (ixor (ishl 1 p) (-1)))) (a + 2) p 0) := f1.then ⟨by omega, by omega, nrWs hW (by omega) (by omega)⟩
  have f3 : Fp (wS a) σ (upm (upm (upm σ a 1 (iand (σ a 1) (ixor (ishl 1 p) (-1)))) (a + 2) p 0) (a + 4) p 0) := f2.then ⟨by omega, by omega, nrWs hW (by omega) (by omega)⟩
  have f4 := f3.trans (offM_fp (p := p) (i := nK B) hW)
  refine ⟨_, ?_, ?_, f4⟩
  · unfold f_X9_makeGap f_X9_makeGap_b0
    simp only [oW hW, if_true, gW hW, pW hW, obs, (rW (f1.refW hR) hW).2.1]
    rw [stW2 hW (by omega) (by omega)]
    simp only [obs, Int.toNat_natCast, gW hW, (rW (f2.refW hR) hW).2.2.2.1]
    rw [stW4 hW (by omega) (by omega)]
    simp only [obs, Int.toNat_natCast]
    rw [x_makeGap_l hW (f3.refW hR) ?_ hB]
    rw [upm_app, if_neg (by omega), upm_app, if_neg (by omega), upm_app, if_neg (by omega)]
    exact h.1.2.2.1
  · have e0 : iand (σ a 1) (ixor (ishl 1 p) (-1)) = ((sub (aS B) (2 ^ p) : Nat) : Int) := by
      rw [h.1.2.1, shl1 hp, iandn (by have := @setOf_lt' (stn B) (nP B) hB.nP_le.1; unfold aS; omega) (by have := p10 hp; omega)]
      rfl
    rw [e0]
    refine h.gap hB hp ?_ ?_ ?_ (fun w hw => ?_) (fun j hj => ?_) (fun j => ⟨?_, ?_, ?_, ?_, ?_⟩) (fun j hj => ⟨?_, ?_⟩)
    all_goals (unfold offM; simp (disch := omega) [upm_app])
    all_goals (try omega)
end
