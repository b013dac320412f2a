/-! ===== terms read: a STEP's word in the court; a comparison ===== -/
section
variable {σ σ' τ τ' : Mem} {V t : Nat → Int} {N : Nat}
theorem x_isStepWord (h : TKk (σ 3) (τ 113)) : f_X7_isStepWord 3 σ = some (if 0 ≤ stW (σ 3) then 1 else 0) := by
  unfold f_X7_isStepWord f_X7_isStepWord_b0
  simp only [oTxt, if_true, gTx, obs]
  rcases stW_or (σ 3) with ⟨h1, h2⟩ | ⟨s, h1, h2, h3⟩
  · rw [h1, if_neg (show ¬ (0 : Int) ≤ -1 by decide)]
    by_cases z : σ 3 4 = 2
    · have hk : σ 3 7 = ky (σ 3 6) := by
        rcases h with h | h | h | h | h
        · omega
        · omega
        · omega
        · omega
        · exact h.2.2.1
      have n : ∀ s, s ≤ 9 → ¬ σ 3 7 = ((kOf s : Nat) : Int) := fun s hs q => by
        have := h2 s hs
        unfold isK at this
        rw [decide_eq_false_iff_not] at this
        exact this ⟨z, q⟩
      have n0 := n 0 (by omega)
      have n1 := n 1 (by omega)
      have n2 := n 2 (by omega)
      have n3 := n 3 (by omega)
      have n4 := n 4 (by omega)
      have n5 := n 5 (by omega)
      have n6 := n 6 (by omega)
      have n7 := n 7 (by omega)
      have n8 := n 8 (by omega)
      have n9 := n 9 (by omega)
      simp only [kOf] at n0 n1 n2 n3 n4 n5 n6 n7 n8 n9
      have r : σ 3 7 < 23 := by rcases ky_or (σ 3 6) with ⟨k1, _⟩ | ⟨i, k1, k2, _⟩ <;> omega
      rw [if_pos z]
      by_cases a : σ 3 7 < 10
      · rw [if_pos a]
      · rw [if_neg a]
        rcases (show σ 3 7 = 18 ∨ σ 3 7 = 19 ∨ σ 3 7 = 21 by simp at n0 n1 n2 n3 n4 n5 n6 n7 n8 n9; omega) with q | q | q <;> rw [q] <;> rfl
    · rw [if_neg z]
  · unfold isK at h3
    rw [decide_eq_true_iff] at h3
    rw [h2, if_pos h3.1, if_pos (show 0 ≤ (s : Int) by omega), h3.2]
    rcases (show s = 0 ∨ s = 1 ∨ s = 2 ∨ s = 3 ∨ s = 4 ∨ s = 5 ∨ s = 6 ∨ s = 7 ∨ s = 8 ∨ s = 9 by omega) with rfl | rfl | rfl | rfl | rfl | rfl | rfl | rfl | rfl | rfl <;> rfl
end
