/-! ===== terms read: the words of STEPS ===== -/
section
variable {σ σ' τ τ' : Mem} {V t : Nat → Int} {N : Nat}
/-- a STEP's word: the court's key from the reference's number -/
def kOf (s : Nat) : Nat := if s ≤ 7 then 10 + s else if s = 8 then 20 else 22
theorem stW_or (V : Nat → Int) : (stW V = -1 ∧ ∀ s, s ≤ 9 → isK V (kOf s) = false) ∨ ∃ s : Nat, s ≤ 9 ∧ stW V = s ∧ isK V (kOf s) = true := by
  by_cases h : ∃ s : Nat, s ≤ 9 ∧ isK V (kOf s) = true
  · obtain ⟨s, h1, h2⟩ := h
    refine .inr ⟨s, h1, ?_, h2⟩
    have e := fun j => isK_1 (j := j) h2
    unfold stW
    simp only [e]
    rcases (show s = 0 ∨ s = 1 ∨ s = 2 ∨ s = 3 ∨ s = 4 ∨ s = 5 ∨ s = 6 ∨ s = 7 ∨ s = 8 ∨ s = 9 by omega) with rfl | rfl | rfl | rfl | rfl | rfl | rfl | rfl | rfl | rfl <;> rfl
  · have e : ∀ s, s ≤ 9 → isK V (kOf s) = false := fun s hs => by
      cases q : isK V (kOf s) with
      | false => rfl
      | true => exact absurd ⟨s, hs, q⟩ h
    refine .inl ⟨?_, e⟩
    unfold stW
    rw [show isK V 10 = false from e 0 (by omega), show isK V 11 = false from e 1 (by omega), show isK V 12 = false from e 2 (by omega), show isK V 13 = false from e 3 (by omega), show isK V 14 = false from e 4 (by omega), show isK V 15 = false from e 5 (by omega), show isK V 16 = false from e 6 (by omega), show isK V 17 = false from e 7 (by omega), show isK V 20 = false from e 8 (by omega), show isK V 22 = false from e 9 (by omega)]
    rfl
end
