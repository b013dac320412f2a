/-! ===== a wall read: all its parts ===== -/
section
variable {σ σ' σ1 τ τ' τ1 : Mem} {t : Nat → Int} {N : Nat}
/-- the court's choice of a part -/
noncomputable def xPart (σ : Mem) : Option (Int × Mem) := if isK (σ 3) 0 = true then f_X10_readOdds 20 σ else if isK (σ 3) 1 = true then f_X10_readStone 20 σ else if isK (σ 3) 5 = true then f_X10_readGap 20 σ else if isK (σ 3) 6 = true then f_X10_readCrow 20 σ else f_X7_refuse 3 2 σ
theorem isK_w {V : Nat → Int} {k : Nat} (h : isK V k = true) : V 4 = 2 := by unfold isK at h; rw [decide_eq_true_iff] at h; exact h.1
theorem j_part (h : Co σ τ t N) (hd : Dw σ τ) : PO t N σ τ (xPart σ) ((f_X12_readPart 113 τ).bind endM) := by
  have tk := h.2.1.kk
  unfold xPart f_X12_readPart f_X12_readPart_b0
  simp only [oM, if_true, m_isOdds tk, m_isStone tk, m_isGap tk, m_isCrow tk, obs, ifb, o_eta]
  by_cases k0 : isK (σ 3) 0 = true
  · rw [if_pos k0, if_pos k0]; exact j_odds h hd (isK_w k0)
  · rw [if_neg k0, if_neg k0]
    by_cases k1 : isK (σ 3) 1 = true
    · rw [if_pos k1, if_pos k1]; exact j_stone h hd (isK_w k1)
    · rw [if_neg k1, if_neg k1]
      by_cases k5 : isK (σ 3) 5 = true
      · rw [if_pos k5, if_pos k5]; exact j_gap h hd (isK_w k5)
      · rw [if_neg k5, if_neg k5]
        by_cases k6 : isK (σ 3) 6 = true
        · rw [if_pos k6, if_pos k6]; exact j_crow h hd (isK_w k6)
        · rw [if_neg k6, if_neg k6]
          obtain ⟨σ2, τ2, a1, a2, a3, a4⟩ := j_amiss h
          rw [a1, a2, obs, endM_bad a4.2.2]
          exact .inr ⟨σ2, τ2, rfl, rfl, a4, a3.fw⟩
theorem x_reads_b {k16 : Int → Int → Int → Mem → Option (Int × Mem)} {p : Int} (hR : Ref σ) (hp : p ≤ 900) : f_X10_reads_b16 k16 20 1 p σ = if σ 3 4 = 0 then some (1, σ) else (xPart σ).bind fun r => k16 20 r.1 (w32 (p + 1)) r.2 := by
  unfold f_X10_reads_b16 f_X10_reads_b121 f_X10_reads_b122 xPart f_X7_isAtEnd f_X7_isAtEnd_b0
  simp only [gWr, obs, hR.at 20 0 3 rfl, oTxt, if_true, gTx]
  rw [if_neg (by omega), if_neg (by decide), show f_X7_isWord 3 0 σ = _ from x_isWord (k := 0), show f_X7_isWord 3 1 σ = _ from x_isWord (k := 1), show f_X7_isWord 3 5 σ = _ from x_isWord (k := 5), show f_X7_isWord 3 6 σ = _ from x_isWord (k := 6)]
  simp only [obs, ifb]
  by_cases q : σ 3 4 = 0
  · rw [if_pos q, if_pos q]; rfl
  · rw [if_neg q, if_neg q]
    simp only [obs, if_true]
    split
    · rfl
    · split
      · rfl
      · split
        · rfl
        · split <;> rfl
theorem x_reads_0 {k16 : Int → Int → Int → Mem → Option (Int × Mem)} {p : Int} : f_X10_reads_b16 k16 20 0 p σ = some (0, σ) := by
  unfold f_X10_reads_b16
  by_cases q : 900 < p
  · rw [if_pos q]; rfl
  · rw [if_neg q, if_pos rfl]; rfl
theorem m_wall_b {k33 : Int → Mem → Option (Int × Mem)} : f_X12_wall_b33 k33 113 τ = if τ 113 12 = 0 then (if τ 113 14 = 0 then f_X12_wall_b64 113 τ else ((f_X12_readPart 113 τ).bind endM).bind (k33 113)) else f_X12_wall_b64 113 τ := by
  unfold f_X12_wall_b33 endM
  simp only [gM, obs]
  by_cases q : τ 113 12 = 0
  · rw [if_pos q, if_pos q]
    by_cases z : τ 113 14 = 0
    · rw [if_pos z, if_pos z]
    · rw [if_neg z, if_neg z]
      cases f_X12_readPart 113 τ with
      | none => rfl
      | some r =>
        rw [obs, obs]
        cases f_X12_isSign 113 59 r with
        | none => rfl
        | some s => rw [obs, obs]
  · rw [if_neg q, if_neg q]
/-- all the parts -/
theorem j_parts : ∀ (n p a F G : Nat) (σ τ : Mem), Co σ τ t N → Dw σ τ → σ 3 5 = a → p ≤ a → N + 1 - a ≤ n → n < F → n < G →
    (∃ σ' τ', f_X10_reads_h16 F 20 1 p σ = some (1, σ') ∧ f_X12_wall_h33 G 113 τ = f_X12_wall_b64 113 τ' ∧ Co σ' τ' t N ∧ Dw σ' τ' ∧ Fw σ σ' τ τ') ∨ (∃ σ' τ', f_X10_reads_h16 F 20 1 p σ = some (0, σ') ∧ f_X12_wall_h33 G 113 τ = f_X12_wall_b64 113 τ' ∧ Bd σ' τ' ∧ Fw σ σ' τ τ') := by
  intro n
  induction n with
  | zero =>
    intro p a F G σ τ h hd ha hp hn _ _
    obtain ⟨a', e, k1, _, _, _, k5, k6, _⟩ := h.2.1
    omega
  | succ n ih =>
    intro p a F G σ τ h hd ha hp hn hF hG
    obtain ⟨F, rfl⟩ : ∃ x, F = x + 1 := ⟨F - 1, by omega⟩
    obtain ⟨G, rfl⟩ : ∃ x, G = x + 1 := ⟨G - 1, by omega⟩
    have hN : N ≤ 900 := h.1.1.2.2.2.1
    have haN : a ≤ N := by obtain ⟨a', e, k1, _, _, _, k5, k6, _⟩ := h.2.1; omega
    rw [hs_X10_reads_h16, hs_X12_wall_h33, x_reads_b hd.1 (by omega), m_wall_b, if_pos h.2.2]
    have ee := h.2.1.kk.end_
    by_cases z : σ 3 4 = 0
    · rw [if_pos z, if_pos (ee.mp z)]
      exact .inl ⟨σ, τ, rfl, rfl, h, hd, Fw.refl⟩
    · rw [if_neg z, if_neg (fun w => z (ee.mpr w))]
      rcases j_part h hd with ⟨σ2, τ2, a1, a2, a3, a4, a5, a6⟩ | ⟨σ2, τ2, a1, a2, a3, a4⟩
      · rw [a1, a2, obs, obs, wkk1 (by omega)]
        dsimp only
        obtain ⟨a', e, k1, _⟩ := a3.2.1
        rcases ih (p + 1) a' F G σ2 τ2 a3 a4 k1 (by omega) (by omega) (by omega) (by omega) with ⟨σ3, τ3, b1, b2, b3, b4, b5⟩ | ⟨σ3, τ3, b1, b2, b3, b4⟩
        · exact .inl ⟨σ3, τ3, b1, b2, b3, b4, a5.trans b5⟩
        · exact .inr ⟨σ3, τ3, b1, b2, b3, a5.trans b4⟩
      · rw [a1, a2, obs, obs]
        dsimp only
        obtain ⟨F, rfl⟩ : ∃ x, F = x + 1 := ⟨F - 1, by omega⟩
        obtain ⟨G, rfl⟩ : ∃ x, G = x + 1 := ⟨G - 1, by omega⟩
        rw [hs_X10_reads_h16, x_reads_0, hs_X12_wall_h33, m_wall_b, if_neg (by have := a3.2.2; omega)]
        exact .inr ⟨σ2, τ2, rfl, rfl, a3, a4⟩
end
