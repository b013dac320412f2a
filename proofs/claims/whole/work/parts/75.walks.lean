/-! ===== walk, walkAt, longest ===== -/
section
variable {σ τ : Mem} {B D : Nat → Int}
/-- a place round the ring, once too far -/
def wr (n x : Nat) : Nat := if x < n then x else x - n
theorem wr_lt {n x : Nat} (h : x < 2 * n) : wr n x < n := by unfold wr; split <;> omega
theorem tm3 {x : Int} {n : Nat} (h1 : 1 ≤ n) (h2 : n ≤ 10) (h0 : 0 ≤ x) (h3 : x < 3 * n) : Int.tmod x n = if x < n then x else if x < 2 * n then x - n else x - 2 * n := by
  rw [Int.tmod_eq_emod_of_nonneg h0]
  rcases (show n = 1 ∨ n = 2 ∨ n = 3 ∨ n = 4 ∨ n = 5 ∨ n = 6 ∨ n = 7 ∨ n = 8 ∨ n = 9 ∨ n = 10 by omega) with rfl | rfl | rfl | rfl | rfl | rfl | rfl | rfl | rfl | rfl <;> (split <;> (try split) <;> omega)
theorem ifm3 {x : Int} {n : Nat} (h1 : 1 ≤ n) (h2 : n ≤ 10) (h0 : 0 ≤ x) (h3 : x < 2 * n) : ifm x n = ((wr n x.toNat : Nat) : Int) := by
  unfold ifm wr
  rw [if_pos (by omega), tm3 h1 h2 h0 (by omega), w32_in (by split <;> (try split) <;> omega) (by split <;> (try split) <;> omega)]
  split <;> split <;> (try split) <;> omega
theorem ifmn {x : Int} {n : Nat} (h1 : 1 ≤ n) (h2 : n ≤ 10) (h0 : x < 0) (h3 : -n < x) : ifm x n = x + n := by
  have e : x.tmod n = x := by
    have := tm3 (x := -x) h1 h2 (by omega) (by omega)
    rw [Int.neg_tmod, if_pos (by omega)] at this
    omega
  unfold ifm
  rw [if_neg (by omega), e, if_neg (by omega), w32_in (z := x) (by omega) (by omega), w32_in (by omega) (by omega)]
theorem nzp {x : Int} (h : ¬ x = 0) : nz x = some x := by unfold nz; rw [if_neg h]
theorem x_around {v w : Int} (h : XH σ B D) (hn : 1 ≤ nP B) (h0 : 0 ≤ v + w) (h1 : v + w < 2 * nP B) : f_X9_around 5 v w σ = some ((wr (nP B) (v + w).toNat : Nat) : Int) := by
  have hB := h.2.2.nP_le
  unfold f_X9_around f_X9_around_b0
  simp only [oW (a := 5) (.inl rfl), show isO Sh 9 5 = true from rfl, if_true, w_g, obs, h.2.1.1.1, ← hB.2]
  rw [if_neg (by omega), nzp (by omega), obs, w32_in (by omega) (by omega), ifm3 hn hB.1 h0 h1]
theorem x_around_n {v w : Int} (h : XH σ B D) (hn : 1 ≤ nP B) (h0 : v + w < 0) (h1 : -nP B < v + w) : f_X9_around 5 v w σ = some (v + w + nP B) := by
  have hB := h.2.2.nP_le
  unfold f_X9_around f_X9_around_b0
  simp only [show isO Sh 9 5 = true from rfl, if_true, w_g, obs, h.2.1.1.1, ← hB.2]
  rw [if_neg (by omega), nzp (by omega), obs, w32_in (by omega) (by omega), ifmn hn hB.1 h0 h1]
/-- stones all along, k steps on -/
def rowU (B : Nat → Int) (p i k : Nat) : Prop := ∀ j, i ≤ j → j ≤ k → stn B (wr (nP B) (p + j)) = true
theorem w_isStone' {p : Nat} (h : XH σ B D) (hp : p < nP B) : f_X9_isStone 5 p σ = some (if stn B p = true then 1 else 0) := x_isStone' (a := 5) (.inl rfl) h.2.1 h.2.2 hp
theorem x_row {p k : Nat} (h : XH σ B D) (hp : p < nP B) (hk : k < nP B) : (rowU B p 0 k → f_X9_isRowOfStones 5 p k σ = some 1) ∧ (¬ rowU B p 0 k → f_X9_isRowOfStones 5 p k σ = some 0) := by
  have hB := h.2.2.nP_le
  unfold f_X9_isRowOfStones f_X9_isRowOfStones_b0
  rw [if_pos (show isO Sh 9 5 = true from rfl)]
  refine up_all (Q := fun n i => (rowU B p i k → f_X9_isRowOfStones_h2 n 5 p k i σ = some 1) ∧ (¬ rowU B p i k → f_X9_isRowOfStones_h2 n 5 p k i σ = some 0)) (k + 1) (fun n => ?_) (fun n i hi ih => ?_) (by unfold FU; omega)
  · rw [hs_X9_isRowOfStones_h2]
    unfold f_X9_isRowOfStones_b2
    rw [if_pos (by omega)]
    exact ⟨fun _ => rfl, fun q => absurd (fun j h1 h2 => by omega) q⟩
  · rw [hs_X9_isRowOfStones_h2]
    unfold f_X9_isRowOfStones_b2
    rw [if_neg (by omega), x_around h (by omega) (by omega) (by omega), obs, w_isStone' h (wr_lt (by omega)), obs, w32_in (by omega) (by omega), show ((p : Int) + i).toNat = p + i by omega]
    by_cases q : stn B (wr (nP B) (p + i)) = true
    · rw [if_pos q, if_neg (by omega)]
      have e : rowU B p i k ↔ rowU B p (i + 1) k := ⟨fun r j h1 h2 => r j (by omega) h2, fun r j h1 h2 => by
        by_cases t : j = i
        · rw [t]; exact q
        · exact r j (by omega) h2⟩
      rw [e]
      exact ih
    · rw [if_neg q, if_pos rfl]
      exact ⟨fun r => absurd (r i (Nat.le_refl _) (by omega)) q, fun _ => rfl⟩
def wU (B : Nat → Int) (p q : Nat) : Nat := wr (nP B) (q + nP B - p)
def T1 (B : Nat → Int) (p q : Nat) : Prop := rowU B p 0 (wU B p q) ∧ (wU B p q ≤ wU B q p ∨ ¬ rowU B q 0 (wU B q p))
def T2 (B : Nat → Int) (p q : Nat) : Prop := ¬ T1 B p q ∧ rowU B q 0 (wU B q p)
def T3 (B : Nat → Int) (p q : Nat) : Prop := ¬ rowU B p 0 (wU B p q) ∧ ¬ rowU B q 0 (wU B q p)
theorem T_all (p q : Nat) : T1 B p q ∨ T2 B p q ∨ T3 B p q := by
  by_cases h1 : rowU B p 0 (wU B p q) <;> by_cases h2 : rowU B q 0 (wU B q p)
  · by_cases h3 : T1 B p q
    · exact .inl h3
    · exact .inr (.inl ⟨h3, h2⟩)
  · exact .inl ⟨h1, .inr h2⟩
  · exact .inr (.inl ⟨fun h => h1 h.1, h2⟩)
  · exact .inr (.inr ⟨h1, h2⟩)
theorem ifmU {p q n : Nat} (h1 : 1 ≤ n) (h2 : n ≤ 10) (hp : p < n) (hq : q < n) : ifm (w32 ((q : Int) - p)) n = ((wr n (q + n - p) : Nat) : Int) := by
  rw [w32_in (by omega) (by omega)]
  by_cases r : p ≤ q
  · rw [ifm3 h1 h2 (by omega) (by omega)]
    unfold wr
    split <;> split <;> omega
  · rw [ifmn h1 h2 (by omega) (by omega)]
    unfold wr
    split <;> omega
theorem x_walkTo {p q : Nat} (h : XH σ B D) (hp : p < nP B) (hq : q < nP B) : (T1 B p q → f_X9_walkTo 5 p q σ = some ((wU B p q : Nat) : Int)) ∧ (T2 B p q → f_X9_walkTo 5 p q σ = some (-((wU B q p : Nat) : Int))) ∧ (T3 B p q → f_X9_walkTo 5 p q σ = some 10) := by
  have hB := h.2.2.nP_le
  have l1 : wU B p q < nP B := wr_lt (by omega)
  have l2 : wU B q p < nP B := wr_lt (by omega)
  obtain ⟨a1, a2⟩ := x_row (p := p) (k := wU B p q) h hp l1
  obtain ⟨b1, b2⟩ := x_row (p := q) (k := wU B q p) h hq l2
  unfold f_X9_walkTo f_X9_walkTo_b0 f_X9_walkTo_b68
  simp only [show isO Sh 9 5 = true from rfl, if_true, w_g, obs, h.2.1.1.1, ← hB.2]
  rw [if_neg (by omega), nzp (by omega), obs, obs, ifmU (by omega) hB.1 hp hq, ifmU (by omega) hB.1 hq hp, show wr (nP B) (q + nP B - p) = wU B p q from rfl, show wr (nP B) (p + nP B - q) = wU B q p from rfl]
  refine ⟨fun t => ?_, fun t => ?_, fun t => ?_⟩
  · rw [a1 t.1, obs]
    by_cases r : rowU B q 0 (wU B q p)
    · rw [b1 r, obs, if_neg (by omega), if_pos (by have := t.2.resolve_right (fun z => z r); omega)]
    · rw [b2 r, obs, if_neg (by omega)]
      split <;> rfl
  · rw [b1 t.2]
    by_cases r : rowU B p 0 (wU B p q)
    · rw [a1 r, obs, obs, if_neg (by omega), if_neg (fun z => t.1 ⟨r, .inl (by omega)⟩), if_neg (by omega), if_neg (by omega), w32_in (by omega) (by omega)]
    · rw [a2 r, obs, obs, if_pos rfl, if_neg (by omega), w32_in (by omega) (by omega)]
  · rw [a2 t.1, b2 t.2, obs, obs, if_pos rfl, if_pos rfl]
/-! the reference's -/
theorem m_c0 (h : MH τ B) : al Sh τ 20 118 0 = some ((nP B : Nat) : Int) := by
  rw [alC (by omega) (by omega), h.2.1, h.2.2.nP_le.2]
  rfl
theorem m_stone' {p : Nat} (h : MH τ B) (hp : p < 1000) : f_X12_isStoneAt 113 p τ = some (if stn B p = true then 1 else 0) := m_isStoneAt h.1 h.2.1 hp
theorem m_stepsU {p q : Nat} (h : MH τ B) (hp : p < nP B) (hq : q < nP B) : (rowU B p 0 (wU B p q) → f_X12_stepsTo 113 p q 1 τ = some ((wU B p q : Nat) : Int)) ∧ (¬ rowU B p 0 (wU B p q) → f_X12_stepsTo 113 p q 1 τ = some (-1)) := by
  have hB := h.2.2.nP_le
  have l1 : wU B p q < nP B := wr_lt (by omega)
  have step : ∀ k6 i, i ≤ wU B p q → (¬ stn B (wr (nP B) (p + i)) = true → f_X12_stepsTo_b6 k6 113 q 1 (wr (nP B) (p + i) : Nat) i τ = some (-1)) ∧ (stn B (wr (nP B) (p + i)) = true → i = wU B p q → f_X12_stepsTo_b6 k6 113 q 1 (wr (nP B) (p + i) : Nat) i τ = some (i : Int)) ∧ (stn B (wr (nP B) (p + i)) = true → i < wU B p q → f_X12_stepsTo_b6 k6 113 q 1 (wr (nP B) (p + i) : Nat) i τ = k6 113 q 1 (wr (nP B) (p + (i + 1)) : Nat) ((i + 1 : Nat) : Int) τ) := by
    intro k6 i hi
    have l2 : wr (nP B) (p + i) < nP B := wr_lt (by omega)
    unfold f_X12_stepsTo_b6
    simp only [gM, obs, h.1.at 113 20 118 rfl, m_c0 h, m_stone' h (show wr (nP B) (p + i) < 1000 by omega)]
    rw [if_neg (by omega)]
    refine ⟨fun s => ?_, fun s e => ?_, fun s e => ?_⟩
    · rw [if_neg s, if_pos rfl]
    · rw [if_pos s, if_neg (by omega), if_pos]
      rw [e]
      unfold wU wr
      split <;> split <;> (try split) <;> omega
    · rw [if_pos s, if_neg (by omega), if_neg, nzp (by omega), obs, w32_in (z := (wr (nP B) (p + i) : Int) + 1) (by omega) (by omega), w32_in (z := (wr (nP B) (p + i) : Int) + 1 + nP B) (by omega) (by omega), tm3 (by omega) hB.1 (by omega) (by omega), w32_in (z := (i : Int) + 1) (by omega) (by omega), w32_in (by split <;> (try split) <;> omega) (by split <;> (try split) <;> omega)]
      · congr 1
        unfold wr
        split <;> (try split) <;> split <;> (try split) <;> omega
      · unfold wU wr at e
        unfold wr
        split at e <;> split <;> omega
  have := up_all (Q := fun n i => (rowU B p i (wU B p q) → f_X12_stepsTo_h6 n 113 q 1 (wr (nP B) (p + i) : Nat) i τ = some ((wU B p q : Nat) : Int)) ∧ (¬ rowU B p i (wU B p q) → f_X12_stepsTo_h6 n 113 q 1 (wr (nP B) (p + i) : Nat) i τ = some (-1))) (wU B p q) (fun n => ?_) (fun n i hi ih => ?_) (by unfold FU; omega)
  · have e : wr (nP B) (p + 0) = p := by unfold wr; rw [if_pos (by omega)]; rfl
    rw [e] at this
    unfold f_X12_stepsTo f_X12_stepsTo_b0
    rw [if_pos oM]
    exact this
  · rw [hs_X12_stepsTo_h6]
    obtain ⟨s1, s2, s3⟩ := step (f_X12_stepsTo_h6 n) (wU B p q) (Nat.le_refl _)
    by_cases r : stn B (wr (nP B) (p + wU B p q)) = true
    · exact ⟨fun _ => s2 r rfl, fun z => absurd (fun j h1 h2 => by rw [show j = wU B p q by omega]; exact r) z⟩
    · exact ⟨fun z => absurd (z _ (Nat.le_refl _) (Nat.le_refl _)) r, fun _ => s1 r⟩
  · rw [hs_X12_stepsTo_h6]
    obtain ⟨s1, s2, s3⟩ := step (f_X12_stepsTo_h6 n) i (by omega)
    by_cases r : stn B (wr (nP B) (p + i)) = true
    · rw [s3 r hi]
      have e : rowU B p i (wU B p q) ↔ rowU B p (i + 1) (wU B p q) := ⟨fun r j h1 h2 => r j (by omega) h2, fun r' j h1 h2 => by
        by_cases t : j = i
        · rw [t]; exact r
        · exact r' j (by omega) h2⟩
      rw [e]
      exact ih
    · exact ⟨fun z => absurd (z i (Nat.le_refl _) (by omega)) r, fun _ => s1 r⟩
def rowD (B : Nat → Int) (p i k : Nat) : Prop := ∀ j, i ≤ j → j ≤ k → stn B (wr (nP B) (p + nP B - j)) = true
theorem m_stepsD {p q : Nat} (h : MH τ B) (hp : p < nP B) (hq : q < nP B) : (rowD B p 0 (wU B q p) → f_X12_stepsTo 113 p q (-1) τ = some ((wU B q p : Nat) : Int)) ∧ (¬ rowD B p 0 (wU B q p) → f_X12_stepsTo 113 p q (-1) τ = some (-1)) := by
  have hB := h.2.2.nP_le
  have l1 : wU B q p < nP B := wr_lt (by omega)
  have step : ∀ k6 i, i ≤ wU B q p → (¬ stn B (wr (nP B) (p + nP B - i)) = true → f_X12_stepsTo_b6 k6 113 q (-1) (wr (nP B) (p + nP B - i) : Nat) i τ = some (-1)) ∧ (stn B (wr (nP B) (p + nP B - i)) = true → i = wU B q p → f_X12_stepsTo_b6 k6 113 q (-1) (wr (nP B) (p + nP B - i) : Nat) i τ = some (i : Int)) ∧ (stn B (wr (nP B) (p + nP B - i)) = true → i < wU B q p → f_X12_stepsTo_b6 k6 113 q (-1) (wr (nP B) (p + nP B - i) : Nat) i τ = k6 113 q (-1) (wr (nP B) (p + nP B - (i + 1)) : Nat) ((i + 1 : Nat) : Int) τ) := by
    intro k6 i hi
    have l2 : wr (nP B) (p + nP B - i) < nP B := wr_lt (by omega)
    unfold f_X12_stepsTo_b6
    simp only [gM, obs, h.1.at 113 20 118 rfl, m_c0 h, m_stone' h (show wr (nP B) (p + nP B - i) < 1000 by omega)]
    rw [if_neg (by omega)]
    refine ⟨fun s => ?_, fun s e => ?_, fun s e => ?_⟩
    · rw [if_neg s, if_pos rfl]
    · rw [if_pos s, if_neg (by omega), if_pos]
      rw [e]
      unfold wU wr
      split <;> split <;> (try split) <;> omega
    · rw [if_pos s, if_neg (by omega), if_neg, nzp (by omega), obs, w32_in (z := (wr (nP B) (p + nP B - i) : Int) + -1) (by omega) (by omega), w32_in (z := (wr (nP B) (p + nP B - i) : Int) + -1 + nP B) (by omega) (by omega), tm3 (by omega) hB.1 (by omega) (by omega), w32_in (z := (i : Int) + 1) (by omega) (by omega), w32_in (by split <;> (try split) <;> omega) (by split <;> (try split) <;> omega)]
      · congr 1
        unfold wr
        split <;> (try split) <;> split <;> (try split) <;> omega
      · unfold wU wr at e
        unfold wr
        split at e <;> split <;> omega
  have := up_all (Q := fun n i => (rowD B p i (wU B q p) → f_X12_stepsTo_h6 n 113 q (-1) (wr (nP B) (p + nP B - i) : Nat) i τ = some ((wU B q p : Nat) : Int)) ∧ (¬ rowD B p i (wU B q p) → f_X12_stepsTo_h6 n 113 q (-1) (wr (nP B) (p + nP B - i) : Nat) i τ = some (-1))) (wU B q p) (fun n => ?_) (fun n i hi ih => ?_) (by unfold FU; omega)
  · have e : wr (nP B) (p + nP B - 0) = p := by unfold wr; rw [if_neg (by omega)]; omega
    rw [e] at this
    unfold f_X12_stepsTo f_X12_stepsTo_b0
    rw [if_pos oM]
    exact this
  · rw [hs_X12_stepsTo_h6]
    obtain ⟨s1, s2, s3⟩ := step (f_X12_stepsTo_h6 n) (wU B q p) (Nat.le_refl _)
    by_cases r : stn B (wr (nP B) (p + nP B - wU B q p)) = true
    · exact ⟨fun _ => s2 r rfl, fun z => absurd (fun j h1 h2 => by rw [show j = wU B q p by omega]; exact r) z⟩
    · exact ⟨fun z => absurd (z _ (Nat.le_refl _) (Nat.le_refl _)) r, fun _ => s1 r⟩
  · rw [hs_X12_stepsTo_h6]
    obtain ⟨s1, s2, s3⟩ := step (f_X12_stepsTo_h6 n) i (by omega)
    by_cases r : stn B (wr (nP B) (p + nP B - i)) = true
    · rw [s3 r hi]
      have e : rowD B p i (wU B q p) ↔ rowD B p (i + 1) (wU B q p) := ⟨fun r j h1 h2 => r j (by omega) h2, fun r' j h1 h2 => by
        by_cases t : j = i
        · rw [t]; exact r
        · exact r' j (by omega) h2⟩
      rw [e]
      exact ih
    · exact ⟨fun z => absurd (z i (Nat.le_refl _) (by omega)) r, fun _ => s1 r⟩
theorem rowDU {p q : Nat} (hp : p < nP B) (hq : q < nP B) : rowD B p 0 (wU B q p) ↔ rowU B q 0 (wU B q p) := by
  have key : ∀ j, j ≤ wU B q p → wr (nP B) (p + nP B - j) = wr (nP B) (q + (wU B q p - j)) := by
    intro j hj
    unfold wU wr at hj ⊢
    split at hj <;> split <;> split <;> omega
  constructor
  · intro r j h1 h2
    have := r (wU B q p - j) (by omega) (by omega)
    rw [key _ (by omega), show wU B q p - (wU B q p - j) = j by omega] at this
    exact this
  · intro r j h1 h2
    rw [key j h2]
    exact r _ (by omega) (by omega)
theorem m_walkOf {p q : Nat} (h : MH τ B) (hp : p < nP B) (hq : q < nP B) : (T1 B p q → f_X12_walkOf 113 p q τ = some (((wU B p q : Nat) : Int), upm τ 113 32 1)) ∧ (T2 B p q → f_X12_walkOf 113 p q τ = some (((wU B q p : Nat) : Int), upm τ 113 32 (-1))) ∧ (T3 B p q → f_X12_walkOf 113 p q τ = some (-1, upm τ 113 32 (-1))) := by
  obtain ⟨a1, a2⟩ := m_stepsU h hp hq
  obtain ⟨b1, b2⟩ := m_stepsD h hp hq
  rw [rowDU hp hq] at b1 b2
  unfold f_X12_walkOf f_X12_walkOf_b0 f_X12_walkOf_b33 f_X12_walkOf_b37 f_X12_walkOf_b38
  simp only [oM, if_true, gM, pM, obs, upm_same]
  refine ⟨fun t => ?_, fun t => ?_, fun t => ?_⟩
  · rw [a1 t.1, obs]
    by_cases r : rowU B q 0 (wU B q p)
    · rw [b1 r, obs, if_neg (by omega), if_neg (by omega), if_pos (by have := t.2.resolve_right (fun z => z r); omega)]
    · rw [b2 r, obs, if_neg (by omega), if_pos (by omega)]
  · rw [b1 t.2]
    by_cases r : rowU B p 0 (wU B p q)
    · rw [a1 r, obs, obs, if_neg (by omega), if_neg (by omega), if_neg (fun z => t.1 ⟨r, .inl (by omega)⟩), if_neg (by omega)]
    · rw [a2 r, obs, obs, if_pos (by omega), if_neg (by omega)]
  · rw [a2 t.1, b2 t.2, obs, obs, if_pos (by omega), if_neg (by omega)]
/-! walk -/
theorem x_walkWhy {p q : Nat} {k : Int} (h : XH σ B D) (hp : p < nP B) (hq : q < nP B) : (T1 B p q → f_X11_walkWhy 0 p q k σ = some (if 0 ≤ k ∧ k ≤ ((wU B p q : Nat) : Int) then 0 else 8)) ∧ (T2 B p q → f_X11_walkWhy 0 p q k σ = some (if 0 ≤ k ∧ k ≤ ((wU B q p : Nat) : Int) then 0 else 8)) ∧ (T3 B p q → f_X11_walkWhy 0 p q k σ = some 8) := by
  have hB := h.2.2.nP_le
  have l1 : wU B p q < nP B := wr_lt (by omega)
  have l2 : wU B q p < nP B := wr_lt (by omega)
  obtain ⟨a1, a2, a3⟩ := x_walkTo h hp hq
  unfold f_X11_walkWhy f_X11_walkWhy_b0 f_X11_walkWhy_b42
  simp only [oX, if_true, gX, obs, x_twoPlacesWhy h, h.1.at 0 3 5 rfl, show yTwo B p q = 0 by unfold yTwo; rw [if_pos (by unfold isP; omega)]]
  refine ⟨fun t => ?_, fun t => ?_, fun t => ?_⟩
  · rw [a1 t, obs, if_neg (by omega), iabs_in (by omega) (by omega)]
    unfold ab
    grind
  · rw [a2 t, obs, if_neg (by omega), iabs_in (by omega) (by omega)]
    unfold ab
    grind
  · rw [a3 t, obs, if_pos rfl]
theorem T2_pos {p q : Nat} (hp : p < nP B) (hq : q < nP B) (t : T2 B p q) : 0 < wU B q p := by
  apply Classical.byContradiction
  intro z
  have e : p = q := by
    unfold wU wr at z
    split at z <;> omega
  subst e
  exact t.1 ⟨t.2, .inl (Nat.le_refl _)⟩
theorem ok_walk2 {p q : Int} (h : Rel σ) (hz : ¬ (isP (σ 118) p ∧ isP (σ 118) q)) : Ok (f_X11_walk 0 p q) (f_X12_walk 113 p q) σ := by
  have hx := h.xh
  refine Ok.mk (r := -1) (y := 2) h (XO.mk ?_) fun τ ht _ => MO.mkr ?_
  · unfold f_X11_walk f_X11_walk_b0 f_X11_walkWhy f_X11_walkWhy_b0
    simp only [oX, if_true, obs, x_twoPlacesWhy hx, show yTwo (σ 118) p q = 2 by unfold yTwo; rw [if_neg hz]]
    rw [if_neg (by decide), obs, s_refn (by decide), obs]
    rfl
  · unfold f_X12_walk f_X12_walk_b0 f_X12_walk_b28
    simp only [oM, if_true, pM, obs, rf2_e, m_isPlaceAt ht.rf.1 ht.rf.2.1 ht.rf.2.2, s_refuse]
    unfold isP at hz
    grind
theorem fr_rf32 {b : Int} : Fr [11, 20] τ (upm (rf2 τ) 113 32 b) := Fr.then fr_rf (by decide)
theorem fr_rf33 {b y : Int} : Fr [11, 20] τ (upm (upm (rf2 τ) 113 32 b) 113 0 y) := Fr.then fr_rf32 (by decide)
theorem m_walk {p q : Nat} (h : MH τ B) (hp : p < nP B) (hq : q < nP B) : (T1 B p q → MO (f_X12_walk 113 p q) τ ((wU B p q : Nat) : Int) 0) ∧ (T2 B p q → MO (f_X12_walk 113 p q) τ ((wU B q p : Nat) : Int) 0) ∧ (T3 B p q → MO (f_X12_walk 113 p q) τ (-1) 8) := by
  have hB := h.2.2.nP_le
  obtain ⟨a1, a2, a3⟩ := m_walkOf h.rf hp hq
  unfold MO f_X12_walk f_X12_walk_b0
  simp only [oM, if_true, pM, obs, rf2_e, m_isPlaceAt h.rf.1 h.rf.2.1 h.rf.2.2, s_refuse]
  rw [if_pos (show 0 ≤ (p : Int) ∧ (p : Int) < B 0 by omega), if_pos (show 0 ≤ (q : Int) ∧ (q : Int) < B 0 by omega), if_neg (by decide), if_neg (by decide)]
  refine ⟨fun t => ?_, fun t => ?_, fun t => ?_⟩
  · rw [a1 t, obs, if_pos (by omega)]
    exact ⟨_, rfl, fr_rf32, rfl⟩
  · rw [a2 t, obs, if_pos (by omega)]
    exact ⟨_, rfl, fr_rf32, rfl⟩
  · rw [a3 t, obs, if_neg (by omega)]
    exact ⟨_, rfl, fr_rf33, upm_same⟩
theorem ok_walk {p q : Int} (h : Rel σ) : Ok (f_X11_walk 0 p q) (f_X12_walk 113 p q) σ := by
  have hx := h.xh
  have hB := hx.2.2.nP_le
  by_cases hz : isP (σ 118) p ∧ isP (σ 118) q
  · obtain ⟨k, rfl, hk, h10⟩ := isP_nat hz.1 hx.2.2
    obtain ⟨j, rfl, hj, hj10⟩ := isP_nat hz.2 hx.2.2
    have l1 : wU (σ 118) k j < nP (σ 118) := wr_lt (by omega)
    have l2 : wU (σ 118) j k < nP (σ 118) := wr_lt (by omega)
    obtain ⟨a1, a2, a3⟩ := x_walkWhy (k := 0) hx hk hj
    obtain ⟨c1, c2, c3⟩ := x_walkTo (hx.st (v := 0)) hk hj
    rcases T_all (B := σ 118) k j with t | t | t
    · refine Ok.mk (r := ((wU (σ 118) k j : Nat) : Int)) (y := 0) h (XO.mk ?_) fun τ ht _ => (m_walk ht hk hj).1 t
      unfold f_X11_walk f_X11_walk_b0
      simp only [oX, if_true, obs, a1 t]
      rw [if_pos (by omega), s_ref0, obs]
      dsimp only
      rw [if_pos rfl, gX, obs, hx.st.1.at 0 3 5 rfl, c1 t, obs, iabs_in (by omega) (by omega)]
      unfold ab
      rw [if_pos (by omega)]
    · refine Ok.mk (r := ((wU (σ 118) j k : Nat) : Int)) (y := 0) h (XO.mk ?_) fun τ ht _ => (m_walk ht hk hj).2.1 t
      have := T2_pos hk hj t
      unfold f_X11_walk f_X11_walk_b0
      simp only [oX, if_true, obs, a2 t]
      rw [if_pos (by omega), s_ref0, obs]
      dsimp only
      rw [if_pos rfl, gX, obs, hx.st.1.at 0 3 5 rfl, c2 t, obs, iabs_in (by omega) (by omega)]
      unfold ab
      rw [if_neg (by omega), Int.neg_neg]
    · refine Ok.mk (r := -1) (y := 8) h (XO.mk ?_) fun τ ht _ => (m_walk ht hk hj).2.2 t
      unfold f_X11_walk f_X11_walk_b0
      simp only [oX, if_true, obs, a3 t]
      rw [s_refn (by decide), obs]
      rfl
  · exact ok_walk2 h hz
/-! walkAt -/
theorem m_walkAt {p q : Nat} {k : Int} (h : MH τ B) (hp : p < nP B) (hq : q < nP B) : (T1 B p q → MO (f_X12_walkAt 113 p q k) τ (if 0 ≤ k ∧ k ≤ ((wU B p q : Nat) : Int) then ((wr (nP B) (p + k.toNat) : Nat) : Int) else -1) (if 0 ≤ k ∧ k ≤ ((wU B p q : Nat) : Int) then 0 else 8)) ∧ (T2 B p q → MO (f_X12_walkAt 113 p q k) τ (if 0 ≤ k ∧ k ≤ ((wU B q p : Nat) : Int) then ((wr (nP B) (p + nP B - k.toNat) : Nat) : Int) else -1) (if 0 ≤ k ∧ k ≤ ((wU B q p : Nat) : Int) then 0 else 8)) ∧ (T3 B p q → MO (f_X12_walkAt 113 p q k) τ (-1) 8) := by
  have hB := h.2.2.nP_le
  have l1 : wU B p q < nP B := wr_lt (by omega)
  have l2 : wU B q p < nP B := wr_lt (by omega)
  obtain ⟨a1, a2, a3⟩ := m_walkOf h.rf hp hq
  unfold MO f_X12_walkAt f_X12_walkAt_b0 f_X12_walkAt_b59
  simp only [oM, if_true, pM, obs, rf2_e, m_isPlaceAt h.rf.1 h.rf.2.1 h.rf.2.2, s_refuse, s_isIn]
  rw [if_pos (show 0 ≤ (p : Int) ∧ (p : Int) < B 0 by omega), if_pos (show 0 ≤ (q : Int) ∧ (q : Int) < B 0 by omega), if_neg (by decide), if_neg (by decide)]
  have hb : ∀ b, MH (upm (rf2 τ) 113 32 b) B := fun b => ⟨h.rf.1.up rfl, by rw [upm_ne (by decide)]; exact h.rf.2.1, h.2.2⟩
  refine ⟨fun t => ?_, fun t => ?_, fun t => ?_⟩
  · rw [a1 t, obs]
    simp only [gM, obs, (hb 1).1.at 113 20 118 rfl, m_c0 (hb 1), upm_same]
    rw [if_neg (by omega)]
    by_cases r : 0 ≤ k ∧ k ≤ ((wU B p q : Nat) : Int)
    · simp only [if_pos r]
      have e1 : w32 (((p : Int) + k + nP B).tmod (nP B)) = ((wr (nP B) (p + k.toNat) : Nat) : Int) := by
        rw [tm3 (by omega) hB.1 (by omega) (by omega)]
        unfold wr
        rw [w32_in (by split <;> (try split) <;> omega) (by split <;> (try split) <;> omega)]
        split <;> (try split) <;> (try split) <;> omega
      rw [if_neg (by decide), nzp (by omega), obs, Int.one_mul, w32_in (z := k) (by omega) (by omega), w32_in (z := (p : Int) + k) (by omega) (by omega), w32_in (z := (p : Int) + k + nP B) (by omega) (by omega), e1]
      exact ⟨_, rfl, fr_rf32, rfl⟩
    · simp only [if_neg r]
      exact ⟨_, rfl, fr_rf33, upm_same⟩
  · rw [a2 t, obs]
    simp only [gM, obs, (hb (-1)).1.at 113 20 118 rfl, m_c0 (hb (-1)), upm_same]
    rw [if_neg (by omega)]
    by_cases r : 0 ≤ k ∧ k ≤ ((wU B q p : Nat) : Int)
    · simp only [if_pos r]
      have e1 : w32 (((p : Int) + -k + nP B).tmod (nP B)) = ((wr (nP B) (p + nP B - k.toNat) : Nat) : Int) := by
        rw [tm3 (by omega) hB.1 (by omega) (by omega)]
        unfold wr
        rw [w32_in (by split <;> (try split) <;> omega) (by split <;> (try split) <;> omega)]
        split <;> (try split) <;> (try split) <;> omega
      rw [if_neg (by decide), nzp (by omega), obs, show (-1 : Int) * k = -k by omega, w32_in (z := -k) (by omega) (by omega), w32_in (z := (p : Int) + -k) (by omega) (by omega), w32_in (z := (p : Int) + -k + nP B) (by omega) (by omega), e1]
      exact ⟨_, rfl, fr_rf32, rfl⟩
    · simp only [if_neg r]
      exact ⟨_, rfl, fr_rf33, upm_same⟩
  · rw [a3 t, obs, if_pos (by omega)]
    exact ⟨_, rfl, fr_rf33, upm_same⟩
theorem ok_walkAt {p q k : Int} (h : Rel σ) : Ok (f_X11_walkAt 0 p q k) (f_X12_walkAt 113 p q k) σ := by
  have hx := h.xh
  have hB := hx.2.2.nP_le
  by_cases hz : isP (σ 118) p ∧ isP (σ 118) q
  · obtain ⟨a, rfl, ha, h10⟩ := isP_nat hz.1 hx.2.2
    obtain ⟨b, rfl, hb, hj10⟩ := isP_nat hz.2 hx.2.2
    have l1 : wU (σ 118) a b < nP (σ 118) := wr_lt (by omega)
    have l2 : wU (σ 118) b a < nP (σ 118) := wr_lt (by omega)
    obtain ⟨a1, a2, a3⟩ := x_walkWhy (k := k) hx ha hb
    obtain ⟨c1, c2, c3⟩ := x_walkTo (hx.st (v := 0)) ha hb
    rcases T_all (B := σ 118) a b with t | t | t
    · refine Ok.mk h (XO.mk ?_) fun τ ht _ => (m_walkAt ht ha hb).1 t
      unfold f_X11_walkAt f_X11_walkAt_b0 f_X11_walkAt_b39
      simp only [oX, if_true, obs, a1 t]
      by_cases r : 0 ≤ k ∧ k ≤ ((wU (σ 118) a b : Nat) : Int)
      · rw [if_pos r, s_ref0, obs]
        dsimp only
        rw [if_pos rfl, gX, obs, hx.st.1.at 0 3 5 rfl, obs, c1 t, obs, if_pos (by omega), x_around hx.st (by omega) (by omega) (by omega), obs, if_pos r, show ((a : Int) + k).toNat = a + k.toNat by omega]
      · rw [if_neg r, s_refn (by decide), obs, if_neg r]
        rfl
    · refine Ok.mk h (XO.mk ?_) fun τ ht _ => (m_walkAt ht ha hb).2.1 t
      have := T2_pos ha hb t
      unfold f_X11_walkAt f_X11_walkAt_b0 f_X11_walkAt_b39
      simp only [oX, if_true, obs, a2 t]
      by_cases r : 0 ≤ k ∧ k ≤ ((wU (σ 118) b a : Nat) : Int)
      · rw [if_pos r, s_ref0, obs]
        dsimp only
        rw [if_pos rfl, gX, obs, hx.st.1.at 0 3 5 rfl, obs, c2 t, obs, if_neg (by omega), w32_in (by omega) (by omega), if_pos r]
        by_cases z : 0 ≤ (a : Int) + -k
        · rw [x_around hx.st (by omega) z (by omega), obs]
          congr 3
          unfold wr
          split <;> split <;> omega
        · rw [x_around_n hx.st (by omega) (by omega) (by omega), obs]
          congr 2
          unfold wr
          split <;> omega
      · rw [if_neg r, s_refn (by decide), obs, if_neg r]
        rfl
    · refine Ok.mk h (XO.mk ?_) fun τ ht _ => (m_walkAt ht ha hb).2.2 t
      unfold f_X11_walkAt f_X11_walkAt_b0
      simp only [oX, if_true, obs, a3 t]
      rw [s_refn (by decide), obs]
      rfl
  · refine Ok.mk (r := -1) (y := 2) h (XO.mk ?_) fun τ ht _ => MO.mkr ?_
    · unfold f_X11_walkAt f_X11_walkAt_b0 f_X11_walkWhy f_X11_walkWhy_b0
      simp only [oX, if_true, obs, x_twoPlacesWhy hx, show yTwo (σ 118) p q = 2 by unfold yTwo; rw [if_neg hz]]
      rw [if_neg (by decide), obs, s_refn (by decide), obs]
      rfl
    · unfold f_X12_walkAt f_X12_walkAt_b0 f_X12_walkAt_b28
      simp only [oM, if_true, pM, obs, rf2_e, m_isPlaceAt ht.rf.1 ht.rf.2.1 ht.rf.2.2, s_refuse]
      unfold isP at hz
      grind
/-! longest -/
def rA (B : Nat → Int) (e r : Nat) : Prop := r ≤ e ∧ ∀ j, e - r ≤ j → j < e → stn B (wr (nP B) j) = true
def rC (B : Nat → Int) (p r : Nat) : Prop := r ≤ nP B ∧ ∀ j, j < r → stn B (wr (nP B) (p + j)) = true
theorem x_longestRow (h : XH σ B D) : ∃ b : Nat, f_X9_longestRow 5 σ = some (mi b (nP B)) ∧ (∃ e, e ≤ 2 * nP B ∧ rA B e b) ∧ (∀ e r, e ≤ 2 * nP B → rA B e r → r ≤ b) := by
  have hB := h.2.2.nP_le
  unfold f_X9_longestRow f_X9_longestRow_b0
  rw [if_pos (show isO Sh 9 5 = true from rfl)]
  have := up_all (Q := fun n i => ∀ b w : Nat, (rA B i w ∧ (∀ r, rA B i r → r ≤ w) ∧ (∃ e, e ≤ i ∧ rA B e b) ∧ (∀ e r, e ≤ i → rA B e r → r ≤ b)) → ∃ b' : Nat, f_X9_longestRow_h6 n 5 (b : Nat) w i σ = some (mi b' (nP B)) ∧ (∃ e, e ≤ 2 * nP B ∧ rA B e b') ∧ (∀ e r, e ≤ 2 * nP B → rA B e r → r ≤ b')) (2 * nP B) (fun n b w q => ?_) (fun n i hi ih b w q => ?_) (by unfold FU; omega)
  · exact this 0 0 ⟨⟨Nat.le_refl _, fun j h1 h2 => by omega⟩, fun r hr => hr.1, ⟨0, Nat.le_refl _, Nat.le_refl _, fun j h1 h2 => by omega⟩, fun e r he hr => by have := hr.1; omega⟩
  · rw [hs_X9_longestRow_h6]
    unfold f_X9_longestRow_b6
    simp only [w_g, obs, h.2.1.1.1, ← hB.2]
    rw [w32_in (by omega) (by omega), if_pos (by omega)]
    exact ⟨b, rfl, q.2.2.1, q.2.2.2⟩
  · obtain ⟨q1, q2, ⟨e, q3, q4⟩, q5⟩ := q
    rw [hs_X9_longestRow_h6]
    unfold f_X9_longestRow_b6 f_X9_longestRow_b37
    simp only [w_g, obs, h.2.1.1.1, ← hB.2]
    have hw := q1.1
    have hb := q4.1
    rw [w32_in (by omega) (by omega), if_neg (by omega), x_around h (by omega) (by omega) (by omega), obs, w_isStone' h (wr_lt (by omega)), obs, w32_in (z := (i : Int) + 1) (by omega) (by omega), w32_in (z := (w : Int) + 1) (by omega) (by omega), show ((0 : Int) + i).toNat = i by omega]
    by_cases s : stn B (wr (nP B) i) = true
    · rw [if_pos s, if_neg (by decide)]
      have e1 : imax (b : Int) ((w : Int) + 1) = ((max b (w + 1) : Nat) : Int) := by unfold imax; split <;> omega
      rw [e1]
      refine ih (max b (w + 1)) (w + 1) ⟨⟨by omega, fun j h1 h2 => ?_⟩, fun r hr => ?_, ?_, fun e' r he hr => ?_⟩
      · by_cases t : j = i
        · rw [t]; exact s
        · exact q1.2 j (by omega) (by omega)
      · have h1 := hr.1
        by_cases t : r = 0
        · omega
        · have := q2 (r - 1) ⟨by omega, fun j h1 h2 => hr.2 j (by omega) (by omega)⟩
          omega
      · by_cases t : b < w + 1
        · rw [show max b (w + 1) = w + 1 by omega]
          refine ⟨i + 1, Nat.le_refl _, by omega, fun j h1 h2 => ?_⟩
          by_cases t : j = i
          · rw [t]; exact s
          · exact q1.2 j (by omega) (by omega)
        · rw [show max b (w + 1) = b by omega]
          exact ⟨e, by omega, q4⟩
      · by_cases t : e' ≤ i
        · have := q5 e' r t hr
          omega
        · have h1 := hr.1
          by_cases t2 : r = 0
          · omega
          · have := q2 (r - 1) ⟨by omega, fun j h1 h2 => hr.2 j (by omega) (by omega)⟩
            omega
    · rw [if_neg s, if_pos rfl]
      have e1 : imax (b : Int) 0 = (b : Int) := by unfold imax; rw [if_neg (by omega)]
      rw [e1]
      have z : ∀ r, rA B (i + 1) r → r = 0 := fun r hr => by
        have h1 := hr.1
        apply Classical.byContradiction
        intro t
        exact s (hr.2 i (by omega) (by omega))
      refine ih b 0 ⟨⟨by omega, fun j h1 h2 => by omega⟩, fun r hr => ?_, ⟨e, by omega, q4⟩, fun e' r he hr => ?_⟩
      · have := z r hr; omega
      · by_cases t : e' ≤ i
        · exact q5 e' r t hr
        · rw [show e' = i + 1 by omega] at hr
          have := z r hr
          omega
theorem m_longest_i {k14 : Int → Int → Int → Mem → Option (Int × Mem)} {p b : Nat} (h : MH τ B) (hp : p < nP B) (hb : b ≤ 10) : ∃ L : Nat, f_X12_longest_h26 k14 FU 113 b p 0 τ = k14 113 ((max b L : Nat) : Int) ((p + 1 : Nat) : Int) τ ∧ rC B p L ∧ ∀ r, rC B p r → r ≤ L := by
  have hB := h.2.2.nP_le
  have e0 : ∀ L : Nat, imax (b : Int) L = ((max b L : Nat) : Int) := fun L => by unfold imax; split <;> omega
  have := up_all (Q := fun n i => (∀ j, j < i → stn B (wr (nP B) (p + j)) = true) → ∃ L : Nat, f_X12_longest_h26 k14 n 113 b p i τ = k14 113 ((max b L : Nat) : Int) ((p + 1 : Nat) : Int) τ ∧ rC B p L ∧ ∀ r, rC B p r → r ≤ L) (nP B) (fun n q => ?_) (fun n i hi ih q => ?_) (by unfold FU; omega)
  · exact this fun j hj => by omega
  · rw [hs_X12_longest_h26]
    unfold f_X12_longest_b26 f_X12_longest_b59
    simp only [gM, obs, h.1.at 113 20 118 rfl, m_c0 h]
    rw [if_pos (by omega), w32_in (by omega) (by omega), e0]
    exact ⟨nP B, rfl, ⟨Nat.le_refl _, q⟩, fun r hr => hr.1⟩
  · rw [hs_X12_longest_h26]
    unfold f_X12_longest_b26 f_X12_longest_b59
    simp only [gM, obs, h.1.at 113 20 118 rfl, m_c0 h]
    have e1 : w32 ((w32 ((p : Int) + i)).tmod (nP B)) = ((wr (nP B) (p + i) : Nat) : Int) := by
      rw [w32_in (z := (p : Int) + i) (by omega) (by omega), tm3 (by omega) hB.1 (by omega) (by omega)]
      unfold wr
      rw [w32_in (by split <;> (try split) <;> omega) (by split <;> (try split) <;> omega)]
      split <;> (try split) <;> (try split) <;> omega
    rw [if_neg (by omega), nzp (by omega), obs, e1, m_stone' h (by have := @wr_lt (nP B) (p + i) (by omega); omega), obs, w32_in (z := (i : Int) + 1) (by omega) (by omega), w32_in (z := (p : Int) + 1) (by omega) (by omega), e0]
    by_cases s : stn B (wr (nP B) (p + i)) = true
    · rw [if_pos s, if_neg (by decide)]
      refine ih fun j hj => ?_
      by_cases t : j = i
      · rw [t]; exact s
      · exact q j (by omega)
    · rw [if_neg s, if_pos rfl]
      refine ⟨i, rfl, ⟨by omega, q⟩, fun r hr => ?_⟩
      apply Classical.byContradiction
      intro t
      exact s (hr.2 i (by omega))
theorem m_longest (h : MH τ B) : ∃ b : Nat, f_X12_longest 113 τ = some ((b : Int), rf2 τ) ∧ (b = 0 ∨ ∃ p, p < nP B ∧ rC B p b) ∧ (∀ p r, p < nP B → rC B p r → r ≤ b) := by
  have hB := h.2.2.nP_le
  unfold f_X12_longest f_X12_longest_b0
  simp only [oM, if_true, pM, obs, rf2_e]
  have := up_all (Q := fun n p => ∀ b : Nat, ((b = 0 ∨ ∃ p', p' < p ∧ rC B p' b) ∧ ∀ p' r, p' < p → rC B p' r → r ≤ b) → ∃ b' : Nat, f_X12_longest_h14 n 113 b p (rf2 τ) = some ((b' : Int), rf2 τ) ∧ (b' = 0 ∨ ∃ p, p < nP B ∧ rC B p b') ∧ (∀ p r, p < nP B → rC B p r → r ≤ b')) (nP B) (fun n b q => ?_) (fun n p hp ih b q => ?_) (by unfold FU; omega)
  · exact this 0 ⟨.inl rfl, fun p r hp => by omega⟩
  · rw [hs_X12_longest_h14]
    unfold f_X12_longest_b14
    simp only [gM, obs, h.rf.1.at 113 20 118 rfl, m_c0 h.rf]
    rw [if_pos (by omega)]
    exact ⟨b, rfl, q.1, q.2⟩
  · have hb : b ≤ 10 := by
      rcases q.1 with z | ⟨p', z1, z2⟩
      · omega
      · have := z2.1; omega
    rw [hs_X12_longest_h14]
    unfold f_X12_longest_b14
    simp only [gM, obs, h.rf.1.at 113 20 118 rfl, m_c0 h.rf]
    rw [if_neg (by omega)]
    obtain ⟨L, l1, l2, l3⟩ := m_longest_i (k14 := f_X12_longest_h14 n) h.rf hp hb
    rw [l1]
    refine ih (max b L) ⟨?_, fun p' r h1 h2 => ?_⟩
    · by_cases t : b ≤ L
      · rw [show max b L = L by omega]
        exact .inr ⟨p, by omega, l2⟩
      · rw [show max b L = b by omega]
        rcases q.1 with z | ⟨p', z1, z2⟩
        · exact .inl z
        · exact .inr ⟨p', by omega, z2⟩
    · by_cases t : p' = p
      · subst t
        have := l3 r h2
        omega
      · have := q.2 p' r (by omega) h2
        omega
theorem longest_eq {b b' : Nat} (h1 : ∃ e, e ≤ 2 * nP B ∧ rA B e b) (h2 : ∀ e r, e ≤ 2 * nP B → rA B e r → r ≤ b) (h3 : b' = 0 ∨ ∃ p, p < nP B ∧ rC B p b') (h4 : ∀ p r, p < nP B → rC B p r → r ≤ b') : mi b (nP B) = (b' : Int) := by
  have l1 : b' ≤ b ∧ b' ≤ nP B := by
    rcases h3 with z | ⟨p, z1, z2, z3⟩
    · omega
    · refine ⟨h2 (p + b') b' (by omega) ⟨by omega, fun j h1 h2 => ?_⟩, z2⟩
      have := z3 (j - p) (by omega)
      rw [show p + (j - p) = j by omega] at this
      exact this
  have l2 : min b (nP B) ≤ b' := by
    obtain ⟨e, e1, e2, e3⟩ := h1
    by_cases t : min b (nP B) = 0
    · omega
    · refine h4 (wr (nP B) (e - min b (nP B))) _ (wr_lt (by omega)) ⟨by omega, fun j hj => ?_⟩
      have := e3 (e - min b (nP B) + j) (by omega) (by omega)
      have e4 : wr (nP B) (wr (nP B) (e - min b (nP B)) + j) = wr (nP B) (e - min b (nP B) + j) := by
        unfold wr
        split <;> split <;> (try split) <;> omega
      rw [e4]
      exact this
  unfold mi
  split <;> omega
theorem ok_longest (h : Rel σ) : Ok (f_X11_longest 0) (f_X12_longest 113) σ := by
  have hx := h.xh
  obtain ⟨b, b1, b2, b3⟩ := x_longestRow (hx.st (v := 0))
  refine Ok.mk (r := mi b (nP (σ 118))) (y := 0) h (XO.mk ?_) fun τ ht _ => ?_
  · unfold f_X11_longest f_X11_longest_b0
    simp only [oX, if_true, s_ref0, obs, gX, hx.st.1.at 0 3 5 rfl, b1]
  · obtain ⟨c, c1, c2, c3⟩ := m_longest ht
    apply MO.mkr
    rw [c1, longest_eq b2 b3 c2 c3]
    rfl
end
