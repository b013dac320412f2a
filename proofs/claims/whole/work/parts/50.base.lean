/-! ===== the second part: what the methods do, over the cells' numbers alone ===== -/
/-- the references that never change: cell, place, what is there -/
def rfT : List (Nat × Nat × Int) := [(0, 0, 1), (0, 1, 2), (0, 2, 3), (0, 3, 5), (0, 4, 14), (0, 5, 20), (0, 6, 30), (0, 7, 38), (0, 8, 39), (0, 9, 40), (0, 10, 42), (0, 11, 51), (0, 12, 53), (0, 13, 54), (0, 14, 58), (0, 15, 59), (1, 0, 60), (1, 1, 62), (1, 2, 64), (1, 3, 66), (3, 0, 2), (3, 1, 4), (5, 2, 6), (5, 3, 7), (5, 4, 8), (5, 5, 9), (5, 6, 10), (5, 8, 11), (5, 9, 12), (5, 10, 13), (14, 3, 15), (14, 4, 16), (14, 5, 17), (14, 6, 18), (14, 7, 19), (20, 0, 3), (20, 1, 21), (21, 2, 22), (21, 3, 23), (21, 4, 24), (21, 5, 25), (21, 6, 26), (21, 8, 27), (21, 9, 28), (21, 10, 29), (30, 0, 3), (30, 1, 5), (30, 2, 31), (30, 3, 37), (31, 3, 32), (31, 4, 33), (31, 5, 34), (31, 6, 35), (31, 7, 36), (38, 0, 68), (38, 1, 83), (38, 2, 98), (39, 0, 77), (39, 1, 92), (39, 2, 107), (40, 0, 14), (40, 1, 5), (40, 2, 41), (42, 2, 43), (42, 3, 44), (42, 4, 45), (42, 5, 46), (42, 6, 47), (42, 8, 48), (42, 9, 49), (42, 10, 50), (51, 0, 14), (51, 1, 42), (51, 2, 52), (54, 0, 55), (54, 1, 56), (54, 2, 57), (58, 0, 5), (60, 0, 61), (62, 0, 63), (64, 0, 65), (66, 0, 67), (68, 2, 69), (68, 3, 70), (68, 4, 71), (68, 5, 72), (68, 6, 73), (68, 8, 74), (68, 9, 75), (68, 10, 76), (77, 3, 78), (77, 4, 79), (77, 5, 80), (77, 6, 81), (77, 7, 82), (83, 2, 84), (83, 3, 85), (83, 4, 86), (83, 5, 87), (83, 6, 88), (83, 8, 89), (83, 9, 90), (83, 10, 91), (92, 3, 93), (92, 4, 94), (92, 5, 95), (92, 6, 96), (92, 7, 97), (98, 2, 99), (98, 3, 100), (98, 4, 101), (98, 5, 102), (98, 6, 103), (98, 8, 104), (98, 9, 105), (98, 10, 106), (107, 3, 108), (107, 4, 109), (107, 5, 110), (107, 6, 111), (107, 7, 112), (113, 4, 114), (113, 5, 115), (113, 6, 116), (113, 7, 117), (113, 20, 118), (113, 21, 119), (113, 22, 120), (113, 26, 121), (113, 27, 122), (113, 29, 123), (113, 30, 124), (113, 31, 125), (113, 34, 126), (113, 35, 127)]
def isRf (a j : Nat) : Bool := rfT.any fun e => e.1 == a && e.2.1 == j
def Ref (σ : Mem) : Prop := ∀ e ∈ rfT, σ e.1 e.2.1 = e.2.2
theorem Ref.at {σ : Mem} (h : Ref σ) (a j : Nat) (v : Int) (hm : rfT.contains (a, j, v) = true) : σ a j = v := h (a, j, v) (by simpa using hm)
theorem Ref.up {σ : Mem} (h : Ref σ) {a j : Nat} {v : Int} (hn : isRf a j = false) : Ref (upm σ a j v) := by
  intro e he
  unfold upm
  rw [if_neg, h e he]
  rintro ⟨h1, h2⟩
  have : isRf a j = true := List.any_eq_true.mpr ⟨e, he, by simp [h1, h2]⟩
  rw [hn] at this
  cases this
/-- a whole cell without references may change -/
theorem Ref.cell {σ σ' : Mem} (h : Ref σ) (hc : ∀ e ∈ rfT, σ' e.1 e.2.1 = σ e.1 e.2.1) : Ref σ' := fun e he => (hc e he).trans (h e he)
theorem isO_at {k a : Nat} (h : Sh[a]? = some (k, nf k)) : isO Sh k (a : Int) = true := isO_iff.mpr ⟨by omega, by rw [Int.toNat_natCast]; exact h⟩
theorem isA_at {k a n : Nat} {i : Int} (h : Sh[a]? = some (k, n)) (h0 : 0 ≤ i) (h1 : i < n) : isA Sh k (a : Int) i = true := isA_iff.mpr ⟨by omega, n, by rw [Int.toNat_natCast]; exact h, h0, h1⟩
theorem gf_at {σ : Mem} {k j : Nat} {a : Int} (h : isO Sh k a = true) : gf Sh σ k a j = some (σ a.toNat j) := by simp [gf, h]
theorem pf_at {σ : Mem} {k j : Nat} {a v : Int} (h : isO Sh k a = true) : pf Sh σ k a j v = some (upm σ a.toNat j v) := by simp [pf, h]
theorem al_at {σ : Mem} {k : Nat} {a i : Int} (h : isA Sh k a i = true) : al Sh σ k a i = some (σ a.toNat i.toNat) := by simp [al, h]
theorem st_at {σ : Mem} {k : Nat} {a i v : Int} (h : isA Sh k a i = true) : st_ Sh σ k a i v = some (upm σ a.toNat i.toNat v) := by simp [st_, h]
theorem upm_same {σ : Mem} {a j : Nat} {v : Int} : upm σ a j v a j = v := by simp [upm]
theorem upm_cell {σ : Mem} {a j b i : Nat} {v : Int} (h : b ≠ a) : upm σ a j v b i = σ b i := by simp [upm, h]
theorem upm_slot {σ : Mem} {a j b i : Nat} {v : Int} (h : i ≠ j) : upm σ a j v b i = σ b i := by simp [upm, h]
/-- a row of one cell filled with a number -/
def fil (σ : Mem) (a lo hi : Nat) (v : Int) : Mem := fun b j => if b = a ∧ lo ≤ j ∧ j < hi then v else σ b j
theorem fil_0 {σ : Mem} {a lo : Nat} {v : Int} : fil σ a lo lo v = σ := by
  funext b j
  unfold fil
  rw [if_neg (by omega)]
theorem fil_s {σ : Mem} {a lo hi : Nat} {v : Int} (h : lo ≤ hi) : upm (fil σ a lo hi v) a hi v = fil σ a lo (hi + 1) v := by
  funext b j
  unfold fil upm
  by_cases h1 : b = a ∧ j = hi
  · rw [if_pos h1, if_pos ⟨h1.1, by omega, by omega⟩]
  · rw [if_neg h1]
    dsimp only
    by_cases h2 : b = a ∧ lo ≤ j ∧ j < hi
    · rw [if_pos h2, if_pos ⟨h2.1, h2.2.1, by omega⟩]
    · rw [if_neg h2, if_neg (fun q => h1 ⟨q.1, by have := q.2; have h3 : ¬ (lo ≤ j ∧ j < hi) := fun r => h2 ⟨q.1, r⟩; omega⟩)]
theorem fil_cell {σ : Mem} {a lo hi b : Nat} {v : Int} (h : b ≠ a) : fil σ a lo hi v b = σ b := by
  funext j
  simp [fil, h]
theorem Ref.fil {σ : Mem} (h : Ref σ) {a lo hi : Nat} {v : Int} (hn : (rfT.any fun e => e.1 == a) = false) : Ref (fil σ a lo hi v) := by
  refine h.cell fun e he => ?_
  have : ¬ e.1 = a := fun q => by
    have h2 : (rfT.any fun e => e.1 == a) = true := List.any_eq_true.mpr ⟨e, he, by simp [q]⟩
    rw [hn] at h2
    cases h2
  rw [fil_cell this]
theorem FU_lt {n : Nat} (h : n ≤ 150000) : ∃ k, FU = n + 1 + k := ⟨FU - n - 1, by unfold FU; omega⟩
theorem oM : isO Sh 12 113 = true := rfl
theorem oX : isO Sh 11 0 = true := rfl
theorem aC {i : Int} (h0 : 0 ≤ i) (h1 : i < 1635) : isA Sh 20 118 i = true := isA_at (a := 118) rfl h0 h1
theorem aW {i : Int} (h0 : 0 ≤ i) (h1 : i < 70) : isA Sh 21 120 i = true := isA_at (a := 120) rfl h0 h1
/-! the reference's block emptied -/
def emM (σ : Mem) (b : Nat) : Mem := upm (fil (fil σ 118 (327 * b) (327 * b + 327) 0) 120 (14 * b) (14 * b + 14) 0) 118 (327 * b + 2) 8
theorem s_empties_h30 {b : Nat} (hb : b ≤ 4) : ∀ (m i : Nat) (σ : Mem), i + m = 14 → Ref σ → ∀ n, m < n → f_X12_empties_h30 n 113 b i (fil σ 120 (14 * b) (14 * b + i) 0) = some (upm (fil σ 120 (14 * b) (14 * b + 14) 0) 118 (327 * b + 2) 8) := by
  intro m
  induction m with
  | zero =>
    intro i σ hi hR n hn
    obtain ⟨n, rfl⟩ : ∃ k, n = k + 1 := ⟨n - 1, by omega⟩
    have hi : i = 14 := by omega
    subst hi
    have h118 := hR.at 113 20 118 rfl
    have hR' : Ref (fil σ 120 (14 * b) (14 * b + 14) 0) := hR.fil rfl
    show f_X12_empties_b30 (f_X12_empties_h30 n) 113 b 14 _ = _
    unfold f_X12_empties_b30
    rw [if_pos (by omega), gf_at oM]
    simp only [Option.bind_some]
    rw [show (113 : Int).toNat = 113 from rfl, hR'.at 113 20 118 rfl, w32_in (z := 327 * (b : Int)) (by omega) (by omega), w32_in (by omega) (by omega), st_at (aC (by omega) (by omega))]
    simp only [Option.bind_some]
    congr 2
    all_goals omega
  | succ m ih =>
    intro i σ hi hR n hn
    obtain ⟨n, rfl⟩ : ∃ k, n = k + 1 := ⟨n - 1, by omega⟩
    have hR' : Ref (fil σ 120 (14 * b) (14 * b + i) 0) := hR.fil rfl
    show f_X12_empties_b30 (f_X12_empties_h30 n) 113 b i _ = _
    unfold f_X12_empties_b30
    rw [if_neg (by omega), gf_at oM]
    simp only [Option.bind_some]
    rw [show (113 : Int).toNat = 113 from rfl, hR'.at 113 22 120 rfl, w32_in (z := 14 * (b : Int)) (by omega) (by omega), w32_in (by omega) (by omega), st_at (aW (by omega) (by omega)), w32_in (by omega) (by omega)]
    simp only [Option.bind_some]
    have e1 : (14 * (b : Int) + (i : Int)).toNat = 14 * b + i := by omega
    rw [show (120 : Int).toNat = 120 from rfl, e1, fil_s (by omega)]
    have := ih (i + 1) σ (by omega) hR n (by omega)
    rw [show ((i + 1 : Nat) : Int) = (i : Int) + 1 by omega] at this
    exact this
theorem s_empties_h2 {b : Nat} (hb : b ≤ 4) : ∀ (m i : Nat) (σ : Mem), i + m = 327 → Ref σ → ∀ n, m < n → f_X12_empties_h2 n 113 b i (fil σ 118 (327 * b) (327 * b + i) 0) = some (emM σ b) := by
  intro m
  induction m with
  | zero =>
    intro i σ hi hR n hn
    obtain ⟨n, rfl⟩ : ∃ k, n = k + 1 := ⟨n - 1, by omega⟩
    have hi : i = 327 := by omega
    subst hi
    show f_X12_empties_b2 (f_X12_empties_h2 n) 113 b 327 _ = _
    unfold f_X12_empties_b2
    rw [if_pos (by omega)]
    have := s_empties_h30 hb 14 0 (fil σ 118 (327 * b) (327 * b + 327) 0) rfl (hR.fil rfl) FU (by unfold FU; omega)
    simp only [Nat.add_zero, fil_0] at this
    exact this
  | succ m ih =>
    intro i σ hi hR n hn
    obtain ⟨n, rfl⟩ : ∃ k, n = k + 1 := ⟨n - 1, by omega⟩
    have hR' : Ref (fil σ 118 (327 * b) (327 * b + i) 0) := hR.fil rfl
    show f_X12_empties_b2 (f_X12_empties_h2 n) 113 b i _ = _
    unfold f_X12_empties_b2
    rw [if_neg (by omega), gf_at oM]
    simp only [Option.bind_some]
    rw [show (113 : Int).toNat = 113 from rfl, hR'.at 113 20 118 rfl, w32_in (z := 327 * (b : Int)) (by omega) (by omega), w32_in (by omega) (by omega), st_at (aC (by omega) (by omega)), w32_in (by omega) (by omega)]
    simp only [Option.bind_some]
    have e1 : (327 * (b : Int) + (i : Int)).toNat = 327 * b + i := by omega
    rw [show (118 : Int).toNat = 118 from rfl, e1, fil_s (by omega)]
    have := ih (i + 1) σ (by omega) hR n (by omega)
    rw [show ((i + 1 : Nat) : Int) = (i : Int) + 1 by omega] at this
    exact this
theorem s_empties {σ : Mem} {b : Nat} (hb : b ≤ 4) (hR : Ref σ) : f_X12_empties 113 b σ = some (emM σ b) := by
  unfold f_X12_empties f_X12_empties_b0
  rw [if_pos oM]
  have := s_empties_h2 hb 327 0 σ rfl hR FU (by unfold FU; omega)
  simp only [Nat.add_zero, fil_0] at this
  exact this
