/-! ===== the relation at the start ===== -/
section
theorem SG_118 {j : Nat} (hj : j < 327) : SG 118 j = if j = 2 then 8 else 0 := by
  unfold SG emM
  rw [upm_app, fil_cell (by decide), fil_app]
  by_cases q : j = 2
  · rw [if_pos ⟨rfl, by omega⟩, if_pos q]
  · rw [if_neg (by omega), if_neg q, if_pos ⟨rfl, by omega, by omega⟩]
set_option maxRecDepth 20000 in
theorem SG_2 {k : Nat} : SG 2 k = 0 := rfl
set_option maxRecDepth 20000 in
theorem SG_117 {k : Nat} : SG 117 k = 0 := rfl
set_option maxRecDepth 20000 in
theorem SG_rel : Rel SG := by
  have e : ∀ j, j < 327 → ¬ j = 2 → SG 118 j = 0 := fun j q1 q2 => by rw [SG_118 q1, if_neg q2]
  have n0 : nP (SG 118) = 0 := by unfold nP; rw [e 0 (by omega) (by omega)]; rfl
  have k0 : nK (SG 118) = 0 := by unfold nK; rw [e 1 (by omega) (by omega)]; rfl
  refine ⟨SG_ref, rfl, ⟨rfl, rfl⟩, ?_, ⟨⟨rfl, by decide +kernel, by decide +kernel⟩, fun k _ => ⟨by rw [SG_2, SG_117], by rw [SG_117]; decide, by rw [SG_117]; decide⟩⟩, ⟨rfl, rfl⟩, ⟨⟨⟨?_, ?_, ?_, ?_, ?_, ?_, ?_, ?_⟩, fun p hp => by omega, fun w hw => by omega, fun p hp => by omega, fun w hw => by omega⟩, ?_, ?_⟩, ?_, ⟨⟨rfl, by decide +kernel, by decide +kernel⟩, fun i hi => ?_⟩, ⟨⟨rfl, .inl rfl⟩, fun q => ?_⟩, rfl⟩
  · intro t ht
    rcases (show t = 0 ∨ t = 1 ∨ t = 2 ∨ t = 3 by omega) with rfl | rfl | rfl | rfl <;> exact .inl ⟨rfl, rfl⟩
  · rw [e _ (by omega) (by omega)]; rfl
  · unfold aS; rw [n0]; rfl
  · rw [e _ (by omega) (by omega)]; rfl
  · rw [SG_118 (by omega)]; rfl
  · rw [e _ (by omega) (by omega)]; rfl
  · rw [e _ (by omega) (by omega)]; rfl
  · rw [e _ (by omega) (by omega)]; rfl
  · rw [e _ (by omega) (by omega)]; rfl
  · refine ⟨by rw [e 0 (by omega) (by omega)]; omega, by rw [e 1 (by omega) (by omega)]; omega, by rw [SG_118 (by omega), e 5 (by omega) (by omega)]; exact ⟨by decide, by unfold R32; omega⟩, by rw [e 3 (by omega) (by omega)]; omega, fun p hp => ?_, fun w hw => by omega⟩
    rw [e (7 + p) (by omega) (by omega), e (17 + p) (by omega) (by omega), e (27 + p) (by omega) (by omega), e (37 + p) (by omega) (by omega)]
    omega
  · rw [e 3 (by omega) (by omega)]; decide
  · have e0 : SG 14 0 = 0 := rfl
    have e1 : SG 14 1 = 0 := rfl
    have e2 : SG 14 2 = 0 := rfl
    have e5 := e 55 (by omega) (by omega)
    have e6 := e 56 (by omega) (by omega)
    refine ⟨by rw [e0, e5], .inl e5, by rw [e1, e6], by rw [e6]; decide, by rw [e2]; decide, 0, ?_⟩
    rw [e6, e2]
    exact ⟨rfl, rfl⟩
  · have : SG 113 23 = 0 := rfl
    omega
  · have : SG 113 36 = 0 := rfl
    omega
/-- the law's loop -/
theorem law_all {sc : Nat × (Nat → Int32)} (hL : sc.1 ≤ 3072) : ∀ (n i : Nat) (σ : Mem), Rel σ → i ≤ sc.1 → sc.1 < 6 * n + i → f_L_law sc n 0 113 (i : Int) σ = some 1 := by
  intro n
  induction n with
  | zero => intro i σ _ h1 h2; omega
  | succ n ih =>
    intro i σ h h1 h2
    show f_L_law_b18 sc (f_L_law sc n) 0 113 (i : Int) σ = some 1
    have w6 : w32 ((sc.1 : Int) - 6) = (sc.1 : Int) - 6 := w32_in (by omega) (by omega)
    by_cases q : w32 ((sc.1 : Int) - 6) < (i : Int)
    · unfold f_L_law_b18
      rw [if_pos q]
    · have hi : i + 6 ≤ sc.1 := by omega
      have s_ : ∀ j : Nat, j < sc.1 → ∃ x, sl sc (j : Int) = some x ∧ R32 x := fun j hj => by
        unfold sl
        rw [if_pos ⟨by omega, by omega⟩]
        exact ⟨_, rfl, i32_R _⟩
      obtain ⟨x, hx, _⟩ := s_ i (by omega)
      refine ca_all h ⟨fun j hj => ?_, fun σ' h' => ?_⟩ hx q
      · rw [w32_in (by omega) (by omega), show (i : Int) + (j : Int) = ((i + j : Nat) : Int) by omega]
        exact s_ (i + j) (by omega)
      · unfold f_L_law_b1890
        rw [w32_in (by omega) (by omega), show (i : Int) + 6 = ((i + 6 : Nat) : Int) by omega]
        exact ih (i + 6) σ' h' (by omega) (by omega)
end
