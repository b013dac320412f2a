/-! ===== a wall read: from the start to the end ===== -/
section
variable {σ σ' τ τ' s : Mem} {t : Nat → Int} {N : Nat}
theorem fr_x3 {V : Nat → Int} (h : ∀ j, j < 2 ∨ 11 < j → V j = s 3 j) : Fr [0, 5] s (setc s 3 V) := by
  refine fr_setcA (a := 3) fun j hj => ?_
  have : 2 ≤ j ∧ j ≤ 11 := by
    refine Classical.byContradiction fun q => hj (h j (by omega))
  rcases (show j = 2 ∨ j = 3 ∨ j = 4 ∨ j = 5 ∨ j = 6 ∨ j = 7 ∨ j = 8 ∨ j = 9 ∨ j = 10 ∨ j = 11 by omega) with rfl | rfl | rfl | rfl | rfl | rfl | rfl | rfl | rfl | rfl <;> decide
theorem fr_m113 {W : Nat → Int} (h : ∀ j, j < 8 ∨ 19 < j ∨ j = 10 ∨ j = 11 → W j = τ 113 j) : Fr [14, 20] τ (setc τ 113 W) := by
  refine fr_setcA (a := 113) fun j hj => ?_
  have : j = 8 ∨ j = 9 ∨ (12 ≤ j ∧ j ≤ 19) := by
    refine Classical.byContradiction fun q => hj (h j (by omega))
  rcases (show j = 8 ∨ j = 9 ∨ j = 12 ∨ j = 13 ∨ j = 14 ∨ j = 15 ∨ j = 16 ∨ j = 17 ∨ j = 18 ∨ j = 19 by omega) with rfl | rfl | rfl | rfl | rfl | rfl | rfl | rfl | rfl | rfl <;> decide
noncomputable def mWall (τ : Mem) (n : Int) : Option (Int × Mem) := (f_X12_advance 113 (st4 τ n)).bind fun r => (f_X12_empties 113 4 r).bind fun r5 => (pf Sh r5 12 113 24 0).bind fun σ7 => f_X12_wall_h33 FU 113 σ7
theorem j_wall {n : Nat} (h1 : Ref s) (h2 : Ref τ) (h4 : s 4 = SG 4) (hb : ∀ i, i < 900 → s 2 i = τ 117 i ∧ -128 ≤ τ 117 i ∧ τ 117 i ≤ 127) (hn : n ≤ 900) :
    (∃ σ' τ', (f_X7_begin 3 n s).bind (f_X10_reads 20) = some (1, σ') ∧ mWall τ n = f_X12_wall_b64 113 τ' ∧ Co σ' τ' (s 2) n ∧ Dw σ' τ' ∧ Fr [0, 5] s σ' ∧ Fr [14, 20] τ τ' ∧ τ' 113 8 = 0 ∧ τ' 117 = τ 117) ∨
    (∃ σ' τ', (f_X7_begin 3 n s).bind (f_X10_reads 20) = some (0, σ') ∧ mWall τ n = f_X12_wall_b64 113 τ' ∧ Bd σ' τ' ∧ Fr [0, 5] s σ' ∧ Fr [14, 20] τ τ' ∧ τ' 113 8 = 0 ∧ τ' 117 = τ 117) := by
  obtain ⟨V, W, a1, a2, a3, a4, a5, a6⟩ := j_start h1 h2 h4 hb hn
  have fx := fr_x3 a4
  have fm := fr_m113 a5
  have R1 := fx.ref (by decide) h1
  have R2 := fm.ref (by decide) h2
  obtain ⟨b1, b2, b3⟩ := j_empty a3 R1 R2
  have ex : (f_X7_begin 3 n s).bind (f_X10_reads 20) = f_X10_reads_h16 FU 20 1 0 (emX (setc s 3 V)) := by
    rw [a1, obs]
    unfold f_X10_reads f_X10_reads_b0
    rw [if_pos oWr, gWr, obs, R1.at 20 1 21 rfl]
    have := @x_empty21 (setc s 3 V)
    cases q : f_X9_empty 21 (setc s 3 V) with
    | none => rw [q] at this; cases this
    | some r => rw [q, obs] at this; rw [obs, this, obs]
  have em : mWall τ n = f_X12_wall_h33 FU 113 (emT (setc τ 113 W)) := by
    unfold mWall
    rw [a2, obs, show f_X12_empties 113 4 (setc τ 113 W) = some (emM (setc τ 113 W) 4) from s_empties (b := 4) (by omega) R2, obs, pM, obs]
    rfl
  have e8 : ∀ τ', Fr [20] (emT (setc τ 113 W)) τ' → τ' 113 8 = 0 := fun τ' f => by
    rw [f 113 8 (by unfold gs; decide), b3.2 113 8 (by unfold gs; decide), setc_same, a6]
  have e7 : ∀ τ', Fr [20] (emT (setc τ 113 W)) τ' → τ' 117 = τ 117 := fun τ' f => by
    funext k
    have g : ¬ gs [20] 117 k := by
      unfold gs
      rw [show gid 117 k = 14 by unfold gid; rw [show isRf 117 k = false from isRf_cell rfl]; rfl]
      decide
    rw [f 117 k g, b3.2 117 k g, setc_ne (by decide)]
  rw [ex, em]
  obtain ⟨a, e, k1, _⟩ := b1.2.1
  rcases j_parts (n + 1) 0 a FU FU _ _ b1 b2 k1 (by omega) (by omega) (by unfold FU; omega) (by unfold FU; omega) with ⟨σ3, τ3, c1, c2, c3, c4, c5⟩ | ⟨σ3, τ3, c1, c2, c3, c4⟩
  · exact .inl ⟨σ3, τ3, c1, c2, c3, c4, (fx.trans b3.1).trans c5.1, (fm.trans (b3.2.mono (by decide))).trans (c5.2.mono (by decide)), e8 _ c5.2, e7 _ c5.2⟩
  · exact .inr ⟨σ3, τ3, c1, c2, c3, (fx.trans b3.1).trans c4.1, (fm.trans (b3.2.mono (by decide))).trans (c4.2.mono (by decide)), e8 _ c4.2, e7 _ c4.2⟩
theorem m_isWell0 (h : τ 113 12 = 0) : f_X12_isWell 113 τ = some (1, upm (upm τ 113 10 0) 113 11 (-1)) := by
  unfold f_X12_isWell f_X12_isWell_b0 f_X12_isWell_b24 f_X12_isWell_b43
  simp only [oM, if_true, gM, pM, obs, h]
  rw [show upm τ 113 10 0 113 12 = 0 by rw [upm_app, if_neg (by decide)]; exact h, if_pos rfl, show upm (upm τ 113 10 0) 113 11 (-1) 113 12 = 0 by rw [upm_app, if_neg (by decide), upm_app, if_neg (by decide)]; exact h, if_pos rfl]
theorem m_isWell1 (h : 0 < τ 113 12) : f_X12_isWell 113 τ = some (0, upm (upm (upm τ 113 10 (τ 113 12)) 113 11 (τ 113 13)) 113 0 10) := by
  unfold f_X12_isWell f_X12_isWell_b0 f_X12_isWell_b24 f_X12_isWell_b43
  simp only [oM, if_true, gM, pM, obs, s_no]
  have e1 : upm τ 113 10 (τ 113 12) 113 12 = τ 113 12 := by rw [upm_app, if_neg (by decide)]
  have e2 : upm τ 113 10 (τ 113 12) 113 13 = τ 113 13 := by rw [upm_app, if_neg (by decide)]
  rw [e1, if_neg (by omega), e2, show upm (upm τ 113 10 (τ 113 12)) 113 11 (τ 113 13) 113 12 = τ 113 12 by rw [upm_app, if_neg (by decide), e1], if_neg (by omega)]
end
