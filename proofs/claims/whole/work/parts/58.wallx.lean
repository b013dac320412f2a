/-! ===== more of what the court's wall answers ===== -/
/-- the first place from i on, below N, where P holds; else -1 -/
def ffa (P : Nat → Bool) : Nat → Nat → Int
  | 0, _ => -1
  | m + 1, i => if P i = true then i else ffa P m (i + 1)
def ff (P : Nat → Bool) (N i : Nat) : Int := ffa P (N - i) i
theorem ff_N {P : Nat → Bool} {N : Nat} : ff P N N = -1 := by unfold ff; rw [Nat.sub_self]; rfl
theorem ff_s {P : Nat → Bool} {N i : Nat} (h : i < N) : ff P N i = if P i = true then (i : Int) else ff P N (i + 1) := by
  unfold ff
  obtain ⟨m, e⟩ : ∃ m, N - i = m + 1 := ⟨N - i - 1, by omega⟩
  rw [e, show N - (i + 1) = m by omega]
  rfl
theorem ff_cg {P Q : Nat → Bool} {N i : Nat} (h : ∀ k, i ≤ k → k < N → P k = Q k) : ff P N i = ff Q N i := by
  unfold ff
  generalize hm : N - i = m
  induction m generalizing i with
  | zero => rfl
  | succ m ih =>
    unfold ffa
    rw [h i (by omega) (by omega), ih (fun k h1 h2 => h k (by omega) h2) (by omega)]
theorem ff_spec (P : Nat → Bool) (N i : Nat) : (ff P N i = -1 ∧ ∀ k, i ≤ k → k < N → P k = false) ∨ (∃ k : Nat, ff P N i = k ∧ i ≤ k ∧ k < N ∧ P k = true ∧ ∀ j, i ≤ j → j < k → P j = false) := by
  unfold ff
  generalize hm : N - i = m
  induction m generalizing i with
  | zero => exact .inl ⟨rfl, fun k h1 h2 => by omega⟩
  | succ m ih =>
    unfold ffa
    by_cases q : P i = true
    · rw [if_pos q]
      exact .inr ⟨i, rfl, by omega, by omega, q, fun j h1 h2 => by omega⟩
    · rw [if_neg q]
      rcases ih (i + 1) (by omega) with ⟨h1, h2⟩ | ⟨k, h1, h2, h3, h4, h5⟩
      · refine .inl ⟨h1, fun k h3 h4 => ?_⟩
        by_cases e : k = i
        · subst e; simpa using q
        · exact h2 k (by omega) h4
      · refine .inr ⟨k, h1, by omega, h3, h4, fun j h6 h7 => ?_⟩
        by_cases e : j = i
        · subst e; simpa using q
        · exact h5 j (by omega) h7
def tc (B : Nat → Int) (g : Int) (p : Nat) : Nat := sz (tS B g p)
def bst (B : Nat → Int) (g sg : Int) : Nat → Int × Int
  | 0 => (-1, 0)
  | n + 1 => if stn B n = true ∧ ((bst B g sg n).1 = -1 ∨ sg * tc B g n < (bst B g sg n).2) then ((n : Int), sg * tc B g n) else bst B g sg n
theorem bst_s {B : Nat → Int} {g sg : Int} {n : Nat} : bst B g sg (n + 1) = if stn B n = true ∧ ((bst B g sg n).1 = -1 ∨ sg * tc B g n < (bst B g sg n).2) then ((n : Int), sg * tc B g n) else bst B g sg n := rfl
theorem ms_s {B : Nat → Int} {p : Nat} : ms B (p + 1) = ms B p + if stn B p = true then B (27 + p) else 0 := rfl
theorem cs_s {B : Nat → Int} {p : Int} {k : Nat} : cs B p (k + 1) = cs B p k + if B (47 + k) = p then (if B (51 + k) = 1 then 3 else -3) else 0 := rfl
theorem agd0 {B : Nat → Int} (hB : BV B) : agd B 0 = B := by
  funext j
  unfold agd
  split
  · next hj =>
    obtain ⟨_, _, _, _, b1, _⟩ := hB
    have := (b1 (j - 27) (by omega)).2.2.1
    rw [show 27 + (j - 27) = j by omega] at this
    unfold mi
    rw [Int.zero_mul, Int.add_zero]
    split <;> omega
  · rfl
section
variable {σ : Mem} {a : Nat} {B D : Nat → Int}
theorem x_crowsOn {p : Int} (hW : wl a) (hR : Ref σ) (h : WR σ a B D) (hB : BV B) : f_X9_crowsOn a p σ = some ((setOf (cw B p) (nK B) : Nat) : Int) := by
  have hn := hB.nK_le
  unfold f_X9_crowsOn f_X9_crowsOn_b0
  rw [if_pos (oW hW)]
  refine up_all (Q := fun n i => f_X9_crowsOn_h4 n a p ((setOf (cw B p) i : Nat) : Int) (i : Int) σ = some ((setOf (cw B p) (nK B) : Nat) : Int)) (nK B) (fun n => ?_) (fun n i hi ih => ?_) (by unfold FU; omega)
  · rw [hs_X9_crowsOn_h4]
    unfold f_X9_crowsOn_b4
    simp only [gW hW, obs, h.1.2.2.1]
    rw [if_pos (by omega)]
  · rw [hs_X9_crowsOn_h4]
    unfold f_X9_crowsOn_b4 f_X9_crowsOn_b28
    simp only [gW hW, obs, h.1.2.2.1, (rW hR hW).2.2.2.2.2.1]
    rw [if_neg (by omega), w32_in (by omega) (by omega), alW6 hW (by omega) (by omega)]
    simp only [obs, Int.toNat_natCast, (h.2.2.1 i hi).1]
    by_cases q : B (47 + i) = p
    · rw [if_pos q, ior_set (by omega) (by unfold cw; simpa using q)]
      exact ih
    · rw [if_neg q]
      rw [nor_set (by unfold cw; simpa using q)] at ih
      exact ih
theorem ms_le {p : Nat} (hB : BV B) (hp : p ≤ 10) : 0 ≤ ms B p ∧ ms B p ≤ 9 * p := by
  obtain ⟨_, _, _, _, b1, _⟩ := hB
  induction p with
  | zero => simp [ms]
  | succ p ih =>
    have := b1 p (by omega)
    unfold ms
    split <;> omega
theorem x_mossOfAll (hW : wl a) (hR : Ref σ) (h : WR σ a B D) (hB : BV B) : f_X9_mossOfAll a σ = some (ms B (nP B)) := by
  have hn := hB.nP_le
  unfold f_X9_mossOfAll f_X9_mossOfAll_b0
  rw [if_pos (oW hW)]
  refine up_all (Q := fun n i => f_X9_mossOfAll_h4 n a (ms B i) (i : Int) σ = some (ms B (nP B))) (nP B) (fun n => ?_) (fun n i hi ih => ?_) (by unfold FU; omega)
  · rw [hs_X9_mossOfAll_h4]
    unfold f_X9_mossOfAll_b4
    simp only [gW hW, obs, h.1.1]
    rw [if_pos (by omega)]
  · rw [hs_X9_mossOfAll_h4]
    unfold f_X9_mossOfAll_b4
    simp only [gW hW, obs, h.1.1, (rW hR hW).2.1]
    rw [if_neg (by omega), w32_in (by omega) (by omega), alW2 hW (by omega) (by omega)]
    simp only [obs, Int.toNat_natCast]
    obtain ⟨g1, g2, g3⟩ := h.2.1 i hi
    have e : ms B i + σ (a + 2) i = ms B (i + 1) := by
      rw [ms_s]
      split
      · next q => rw [(g1 q).2.1]
      · next q => rw [g2 (by simpa using q)]
    have l1 := @ms_le B i hB (by omega)
    have l2 := @ms_le B (i + 1) hB (by omega)
    rw [e, w32_in (by omega) (by omega)]
    exact ih
theorem x_turnCount {g : Int} {p : Nat} (hW : wl a) (hR : Ref σ) (h : WR σ a B D) (hB : BV B) (hp : p < 10) : f_X9_turnCount a g p σ = some ((tc B g p : Nat) : Int) := by
  unfold f_X9_turnCount f_X9_turnCount_b0
  rw [if_pos (oW hW), x_turningFrom hW hR h hB (by omega) (by omega), agd0 hB]
  simp only [obs, s_bitCount (tS_lt hB)]
  rfl
theorem x_isMost {s : Nat} (hW : wl a) (h : WR σ a B D) (hB : BV B) (hs : s < 1024) : f_X9_isMost a s σ = some (if more s (aS B) = true then 1 else 0) := by
  unfold f_X9_isMost f_X9_isMost_b0 more
  have h1 := sz_le s
  simp only [oW hW, gW hW, if_true, obs, h.1.2.1, s_bitCount (aS_lt hB), s_bitCount hs]
  rw [w32_in (by omega) (by omega)]
  by_cases q : sz (aS B) < 2 * sz s
  · rw [if_neg (by omega)]; simp [q]
  · rw [if_pos (by omega)]; simp [q]
theorem BV_agd {y : Int} (hB : BV B) (hy : 0 ≤ y) : BV (agd B y) := by
  obtain ⟨b0, b1, b2, b3, b4, b5⟩ := hB
  have e : ∀ j, ¬ (27 ≤ j ∧ j < 37) → agd B y j = B j := fun j hj => by unfold agd; rw [if_neg hj]
  refine ⟨b0, b1, b2, b3, fun p hp => ?_, fun w hw => ?_⟩
  · rw [e (7 + p) (by omega), e (17 + p) (by omega), e (37 + p) (by omega)]
    obtain ⟨c1, c2, c3, c4⟩ := b4 p hp
    refine ⟨c1, c2, ?_, c4⟩
    unfold agd
    rw [if_pos (by omega), show 27 + p - 20 = 7 + p by omega]
    unfold mi
    rcases c1 with q | q <;> rw [q] <;> split <;> omega
  · have hw' : w < nK B := hw
    have := (show nK B ≤ 4 by unfold nK; omega)
    rw [e (51 + w) (by omega), e (47 + w) (by omega)]
    obtain ⟨c1, c2⟩ := b5 w hw'
    refine ⟨c1, ?_⟩
    rcases c2 with c2 | ⟨c2, c3, c4⟩
    · exact .inl c2
    · refine .inr ⟨c2, c3, ?_⟩
      rw [stn_agd (by omega)]
      exact c4
theorem aS_agd {y : Int} (hB : BV B) : aS (agd B y) = aS B := by
  have := hB.nP_le
  exact setOf_cg fun k hk => stn_agd (by have : nP (agd B y) = nP B := rfl; omega)
theorem x_condemns {g y : Int} {p : Nat} (hW : wl a) (hR : Ref σ) (h : WR σ a B D) (hB : BV B) (hp : p < nP B) (hy : 0 ≤ y ∧ y ≤ 9) : f_X9_condemns a g p y σ = some (if cdm (agd B y) g p = true then 1 else 0) := by
  have hn := hB.nP_le
  unfold f_X9_condemns f_X9_condemns_b0 cdm
  simp only [oW hW, if_true, obs, x_isStone' hW h hB hp, x_turningFrom hW hR h hB (q := (p : Int)) (by omega) hy, x_isMost hW h hB (tS_lt (BV_agd hB hy.1)), stn_agd (show p < 10 by omega), aS_agd hB]
  cases stn B p <;> cases more (tS (agd B y) g p) (aS B) <;> rfl
theorem x_bestPlace {g sg : Int} (hW : wl a) (hR : Ref σ) (h : WR σ a B D) (hB : BV B) (hs : sg = 1 ∨ sg = -1) : f_X9_bestPlace a g sg σ = some (bst B g sg (nP B)).1 := by
  have hn := hB.nP_le
  unfold f_X9_bestPlace f_X9_bestPlace_b0
  rw [if_pos (oW hW)]
  refine up_all (Q := fun n i => f_X9_bestPlace_h8 n a g sg (bst B g sg i).1 (bst B g sg i).2 (i : Int) σ = some (bst B g sg (nP B)).1) (nP B) (fun n => ?_) (fun n i hi ih => ?_) (by unfold FU; omega)
  · rw [hs_X9_bestPlace_h8]
    unfold f_X9_bestPlace_b8
    simp only [gW hW, obs, h.1.1]
    rw [if_pos (by omega)]
  · rw [hs_X9_bestPlace_h8]
    unfold f_X9_bestPlace_b8 f_X9_bestPlace_b50 f_X9_bestPlace_b57
    simp only [gW hW, obs, h.1.1, x_isStone' hW h hB hi, x_turnCount hW hR h hB (show i < 10 by omega)]
    rw [if_neg (by omega), w32_in (z := (i : Int) + 1) (by omega) (by omega)]
    have h1 := sz_le (tS B g i)
    have e : w32 (sg * (tc B g i : Nat)) = sg * (tc B g i : Nat) := by
      unfold tc
      rcases hs with rfl | rfl <;> rw [w32_in (by omega) (by omega)]
    rw [e]
    rw [bst_s] at ih
    by_cases q : stn B i = true
    · simp only [q, if_true, true_and] at ih ⊢
      rw [if_neg (by omega)]
      by_cases q1 : (bst B g sg i).1 = -1
      · simp only [q1, if_true, true_or] at ih ⊢
        exact ih
      · simp only [q1, if_false, false_or] at ih ⊢
        by_cases q2 : sg * (tc B g i : Nat) < (bst B g sg i).2
        · rw [if_pos q2] at ih
          rw [if_neg (by omega)]
          exact ih
        · rw [if_neg q2] at ih
          rw [if_pos (by omega)]
          exact ih
    · simp only [q, if_false, if_true, false_and, Bool.false_eq_true] at ih ⊢
      exact ih
theorem x_leastGuilt {p : Nat} (hW : wl a) (hR : Ref σ) (h : WR σ a B D) (hB : BV B) (hp : p < nP B) : f_X9_leastGuilt a p σ = some (ff (fun g => cdm B g p) 100 0) := by
  unfold f_X9_leastGuilt f_X9_leastGuilt_b0
  rw [if_pos (oW hW)]
  refine up_all (Q := fun n i => f_X9_leastGuilt_h2 n a p (i : Int) σ = some (ff (fun g => cdm B g p) 100 i)) 100 (fun n => ?_) (fun n i hi ih => ?_) (by unfold FU; omega)
  · rw [hs_X9_leastGuilt_h2]
    unfold f_X9_leastGuilt_b2
    rw [if_pos (by omega), ff_N]
  · rw [hs_X9_leastGuilt_h2]
    unfold f_X9_leastGuilt_b2
    rw [if_neg (by omega), x_condemns hW hR h hB hp (by omega), agd0 hB, ff_s hi, w32_in (by omega) (by omega)]
    simp only [obs]
    cases cdm B i p
    · exact ih
    · rfl
theorem x_yearsToFree {g : Int} {p : Nat} (hW : wl a) (hR : Ref σ) (h : WR σ a B D) (hB : BV B) (hp : p < nP B) : f_X9_yearsToFree a g p σ = some (ff (fun y => !cdm (agd B y) g p) 10 0) := by
  unfold f_X9_yearsToFree f_X9_yearsToFree_b0
  rw [if_pos (oW hW)]
  refine up_all (Q := fun n i => f_X9_yearsToFree_h2 n a g p (i : Int) σ = some (ff (fun y => !cdm (agd B y) g p) 10 i)) 10 (fun n => ?_) (fun n i hi ih => ?_) (by unfold FU; omega)
  · rw [hs_X9_yearsToFree_h2]
    unfold f_X9_yearsToFree_b2
    rw [if_pos (by omega), ff_N]
  · rw [hs_X9_yearsToFree_h2]
    unfold f_X9_yearsToFree_b2
    rw [if_neg (by omega), x_condemns hW hR h hB hp (by omega), ff_s hi, w32_in (by omega) (by omega)]
    simp only [obs]
    cases cdm (agd B i) g p
    · rfl
    · exact ih
theorem x_stoneNamed {v : Int} (hW : wl a) (hR : Ref σ) (h : WR σ a B D) (hB : BV B) : f_X9_stoneNamed a v σ = some (ff (fun p => decide (σ (a + 5) p = v)) (nP B) 0) := by
  have hn := hB.nP_le
  unfold f_X9_stoneNamed f_X9_stoneNamed_b0
  rw [if_pos (oW hW)]
  refine up_all (Q := fun n i => f_X9_stoneNamed_h2 n a v (i : Int) σ = some (ff (fun p => decide (σ (a + 5) p = v)) (nP B) i)) (nP B) (fun n => ?_) (fun n i hi ih => ?_) (by unfold FU; omega)
  · rw [hs_X9_stoneNamed_h2]
    unfold f_X9_stoneNamed_b2
    simp only [gW hW, obs, h.1.1]
    rw [if_pos (by omega), ff_N]
  · rw [hs_X9_stoneNamed_h2]
    unfold f_X9_stoneNamed_b2
    simp only [gW hW, obs, h.1.1, (rW hR hW).2.2.2.2.1]
    rw [if_neg (by omega), w32_in (by omega) (by omega), alW5 hW (by omega) (by omega), ff_s hi]
    simp only [obs, Int.toNat_natCast, lcmp_eq, decide_eq_true_eq]
    split
    · rfl
    · exact ih
theorem x_crowNamed {v : Int} (hW : wl a) (hR : Ref σ) (h : WR σ a B D) (hB : BV B) : f_X9_crowNamed a v σ = some (ff (fun p => decide (σ (a + 8) p = v)) (nK B) 0) := by
  have hn := hB.nK_le
  unfold f_X9_crowNamed f_X9_crowNamed_b0
  rw [if_pos (oW hW)]
  refine up_all (Q := fun n i => f_X9_crowNamed_h2 n a v (i : Int) σ = some (ff (fun p => decide (σ (a + 8) p = v)) (nK B) i)) (nK B) (fun n => ?_) (fun n i hi ih => ?_) (by unfold FU; omega)
  · rw [hs_X9_crowNamed_h2]
    unfold f_X9_crowNamed_b2
    simp only [gW hW, obs, h.1.2.2.1]
    rw [if_pos (by omega), ff_N]
  · rw [hs_X9_crowNamed_h2]
    unfold f_X9_crowNamed_b2
    simp only [gW hW, obs, h.1.2.2.1, (rW hR hW).2.2.2.2.2.2.2]
    rw [if_neg (by omega), w32_in (by omega) (by omega), alW8 hW (by omega) (by omega), ff_s hi]
    simp only [obs, Int.toNat_natCast, lcmp_eq, decide_eq_true_eq]
    split
    · rfl
    · exact ih
end
