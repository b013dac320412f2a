/-! ===== terms read: a STEP's line ===== -/
section
variable {σ σ' σ1 τ τ' τ1 : Mem} {t V : Nat → Int} {N k S w : Nat}
/-- the court's rest of a STEP -/
noncomputable def xRest (s : Nat) (σ : Mem) : Option (Int × Mem) := if s = 0 then f_X6_readCount 30 10 20 σ else if s = 1 then f_X6_readTry 30 σ else if s = 5 then f_X6_readFly 30 σ else if s = 6 then (f_X5_add 31 16 0 0 0 σ).bind fun r => some (1, r) else if s = 7 then f_X6_readTest 30 σ else if s = 8 then f_X6_readCount 30 20 99 σ else if s = 9 then (f_X5_add 31 22 0 0 0 σ).bind fun r => some (1, r) else f_X6_readStone 30 ((10 + s : Nat) : Int) σ
theorem x_130 {v : Int} (hR : Ref σ) : f_X6_readStep_b130 30 v σ = ((f_X5_add 31 v 0 0 0 σ).bind fun r => some ((1 : Int), r)).bind fun r => f_X6_readStep_b152 30 r.1 r.2 := by
  unfold f_X6_readStep_b130
  rw [gTr, obs, hR.at 30 2 31 rfl]
  cases f_X5_add 31 v 0 0 0 σ with
  | none => rfl
  | some r => rfl
theorem x_readStep {s : Nat} (hs : s ≤ 9) (h : isK (σ 3) (kOf s) = true) (hR : Ref σ) (hst : f_X7_step 3 σ = some σ1) (hR1 : Ref σ1) : f_X6_readStep 30 σ = (xRest s σ1).bind fun r => f_X6_readStep_b152 30 r.1 r.2 := by
  have k7 : σ 3 7 = ((kOf s : Nat) : Int) := by unfold isK at h; rw [decide_eq_true_iff] at h; exact h.2
  unfold f_X6_readStep f_X6_readStep_b0
  rw [if_pos oTr, gTr, obs, hR.at 30 0 3 rfl, gTx, obs, k7, obs, hst, obs]
  unfold xRest
  rcases (show s = 0 ∨ s = 1 ∨ s = 2 ∨ s = 3 ∨ s = 4 ∨ s = 5 ∨ s = 6 ∨ s = 7 ∨ s = 8 ∨ s = 9 by omega) with rfl | rfl | rfl | rfl | rfl | rfl | rfl | rfl | rfl | rfl
  · rw [show ((kOf 0 : Nat) : Int) = 10 from rfl, if_pos rfl, if_pos rfl]
  · rw [show ((kOf 1 : Nat) : Int) = 11 from rfl, if_neg (by decide), if_pos rfl, if_neg (by decide), if_pos rfl]
  · rw [show ((kOf 2 : Nat) : Int) = 12 from rfl, if_neg (by decide), if_neg (by decide), if_neg (by decide), if_neg (by decide), if_neg (by decide), if_neg (by decide), if_neg (by decide), if_neg (by decide), if_neg (by decide), if_neg (by decide), if_neg (by decide), if_neg (by decide), if_neg (by decide), if_neg (by decide)]; rfl
  · rw [show ((kOf 3 : Nat) : Int) = 13 from rfl, if_neg (by decide), if_neg (by decide), if_neg (by decide), if_neg (by decide), if_neg (by decide), if_neg (by decide), if_neg (by decide), if_neg (by decide), if_neg (by decide), if_neg (by decide), if_neg (by decide), if_neg (by decide), if_neg (by decide), if_neg (by decide)]; rfl
  · rw [show ((kOf 4 : Nat) : Int) = 14 from rfl, if_neg (by decide), if_neg (by decide), if_neg (by decide), if_neg (by decide), if_neg (by decide), if_neg (by decide), if_neg (by decide), if_neg (by decide), if_neg (by decide), if_neg (by decide), if_neg (by decide), if_neg (by decide), if_neg (by decide), if_neg (by decide)]; rfl
  · rw [show ((kOf 5 : Nat) : Int) = 15 from rfl, if_neg (by decide), if_neg (by decide), if_pos rfl, if_neg (by decide), if_neg (by decide), if_pos rfl]
  · rw [show ((kOf 6 : Nat) : Int) = 16 from rfl, if_neg (by decide), if_neg (by decide), if_neg (by decide), if_pos rfl, if_neg (by decide), if_neg (by decide), if_neg (by decide), if_pos rfl, x_130 hR1]
  · rw [show ((kOf 7 : Nat) : Int) = 17 from rfl, if_neg (by decide), if_neg (by decide), if_neg (by decide), if_neg (by decide), if_pos rfl, if_neg (by decide), if_neg (by decide), if_neg (by decide), if_neg (by decide), if_pos rfl]
  · rw [show ((kOf 8 : Nat) : Int) = 20 from rfl, if_neg (by decide), if_neg (by decide), if_neg (by decide), if_neg (by decide), if_neg (by decide), if_pos rfl, if_neg (by decide), if_neg (by decide), if_neg (by decide), if_neg (by decide), if_neg (by decide), if_pos rfl]
  · rw [show ((kOf 9 : Nat) : Int) = 22 from rfl, if_neg (by decide), if_neg (by decide), if_neg (by decide), if_neg (by decide), if_neg (by decide), if_neg (by decide), if_pos rfl, if_neg (by decide), if_neg (by decide), if_neg (by decide), if_neg (by decide), if_neg (by decide), if_neg (by decide), if_pos rfl, x_130 hR1]
/-- what a STEP's row is -/
def PS (s k S : Nat) (σ τ : Mem) : Prop := (¬ (s = 7 ∨ s = 8) → Sm σ 31 k (Bt τ) S) ∧ ((s = 7 ∨ s = 8) → Op' σ 31 k (Bt τ) S)
theorem PS.s {s : Nat} (h : Sm σ 31 k (Bt τ) S) (hs : ¬ (s = 7 ∨ s = 8)) : PS s k S σ τ := ⟨fun _ => h, fun q => absurd q hs⟩
theorem PS.o {s : Nat} (h : Op' σ 31 k (Bt τ) S) (hs : s = 7 ∨ s = 8) : PS s k S σ τ := ⟨fun q => absurd hs q, fun _ => h⟩
theorem j_rest {s : Nat} (hs9 : s ≤ 9) (h : Co σ τ t N) (hd : Du σ τ) (h2 : σ 31 2 = k) (hk : k < 60) (h1 : σ 31 1 = S) (hS : S < 30) (hs : τ 118 (1365 + 9 * S) = s) : RO t N σ τ k S (PS s k S) (xRest s σ) (f_X12_readRest 113 ((1365 + 9 * S : Nat) : Int) τ) := by
  have e0 : al Sh τ 20 118 ((1365 + 9 * S : Nat) : Int) = some (s : Int) := by rw [alC (by omega) (by omega), Int.toNat_natCast, hs]
  unfold f_X12_readRest f_X12_readRest_b0
  rw [if_pos oM, gM, obs, hd.2.1.at 113 20 118 rfl, e0, obs]
  unfold xRest
  rcases (show s = 0 ∨ s = 1 ∨ s = 2 ∨ s = 3 ∨ s = 4 ∨ s = 5 ∨ s = 6 ∨ s = 7 ∨ s = 8 ∨ s = 9 by omega) with rfl | rfl | rfl | rfl | rfl | rfl | rfl | rfl | rfl | rfl
  · rw [if_pos (by decide), if_pos (by decide), obs]
    refine (j_count (op := 10) (hi := 20) (s := 0) h hd h2 hk h1 hS (by decide) hs).imp fun σ' τ' _ _ hP => PS.s (.inl ?_) (by omega)
    simp only [Bt_s, Bt_s0]
    exact hP
  · rw [if_neg (by decide), if_pos (by decide), if_neg (by decide), if_pos (by decide), obs]
    exact (j_try h hd h2 hk h1 hS hs).imp fun σ' τ' _ _ hP => PS.s hP (by omega)
  · rw [if_neg (by decide), if_neg (by decide), if_neg (by decide), if_neg (by decide), if_neg (by decide), if_neg (by decide), if_neg (by decide), if_neg (by decide), if_neg (by decide), if_neg (by decide), if_neg (by decide), if_neg (by decide), if_neg (by decide), obs]
    exact (j_named (op := 12) (s := 2) h hd h2 hk h1 hS rfl hs (by omega)).imp fun σ' τ' _ _ hP => PS.s hP (by omega)
  · rw [if_neg (by decide), if_neg (by decide), if_neg (by decide), if_neg (by decide), if_neg (by decide), if_neg (by decide), if_neg (by decide), if_neg (by decide), if_neg (by decide), if_neg (by decide), if_neg (by decide), if_neg (by decide), if_neg (by decide), obs]
    exact (j_named (op := 13) (s := 3) h hd h2 hk h1 hS rfl hs (by omega)).imp fun σ' τ' _ _ hP => PS.s hP (by omega)
  · rw [if_neg (by decide), if_neg (by decide), if_neg (by decide), if_neg (by decide), if_neg (by decide), if_neg (by decide), if_neg (by decide), if_neg (by decide), if_neg (by decide), if_neg (by decide), if_neg (by decide), if_neg (by decide), if_neg (by decide), obs]
    exact (j_named (op := 14) (s := 4) h hd h2 hk h1 hS rfl hs (by omega)).imp fun σ' τ' _ _ hP => PS.s hP (by omega)
  · rw [if_neg (by decide), if_neg (by decide), if_pos (by decide), if_neg (by decide), if_neg (by decide), if_neg (by decide), if_neg (by decide), if_pos (by decide), obs]
    exact (j_fly h hd h2 hk h1 hS hs).imp fun σ' τ' _ _ hP => PS.s hP (by omega)
  · rw [if_neg (by decide), if_neg (by decide), if_neg (by decide), if_pos (by decide), if_neg (by decide), if_neg (by decide), if_neg (by decide), if_neg (by decide), if_neg (by decide), if_pos (by decide)]
    exact (j_none (op := 16) (s := 6) h hd h2 hk h1 hS hs (.inl ⟨rfl, rfl⟩)).imp fun σ' τ' _ _ hP => PS.s hP (by omega)
  · rw [if_neg (by decide), if_neg (by decide), if_neg (by decide), if_neg (by decide), if_pos (by decide), if_neg (by decide), if_neg (by decide), if_neg (by decide), if_pos (by decide), o_eta]
    exact (j_test h hd h2 hk h1 hS hs).imp fun σ' τ' _ _ hP => PS.o hP (by omega)
  · rw [if_neg (by decide), if_neg (by decide), if_neg (by decide), if_neg (by decide), if_neg (by decide), if_pos (by decide), if_neg (by decide), if_neg (by decide), if_pos (by decide), obs]
    refine (j_count (op := 20) (hi := 99) (s := 8) h hd h2 hk h1 hS (by decide) hs).imp fun σ' τ' _ _ hP => PS.o (.inl ?_) (by omega)
    simp only [Bt_s, Bt_s0]
    exact hP
  · rw [if_neg (by decide), if_neg (by decide), if_neg (by decide), if_neg (by decide), if_neg (by decide), if_neg (by decide), if_pos (by decide), if_neg (by decide), if_neg (by decide), if_neg (by decide), if_neg (by decide), if_neg (by decide), if_pos (by decide)]
    exact (j_none (op := 22) (s := 9) h hd h2 hk h1 hS hs (.inr ⟨rfl, rfl⟩)).imp fun σ' τ' _ _ hP => PS.s hP (by omega)
theorem j_semi (h : Co σ τ t N) : (∃ σ' τ', f_X7_takeSign 3 59 σ = some (1, σ') ∧ endM τ = some τ' ∧ Dl σ σ' τ τ' ∧ Co σ' τ' t N ∧ σ 3 5 ≤ σ' 3 5) ∨ (∃ σ' τ', f_X7_takeSign 3 59 σ = some (0, σ') ∧ endM τ = some τ' ∧ Dl σ σ' τ τ' ∧ Bd σ' τ') := by
  have e : endM τ = f_X12_must 113 (if decide (σ 3 4 = 4 ∧ σ 3 8 = ((59 : Nat) : Int)) = true then 1 else 0) τ := by
    unfold endM
    rw [show f_X12_isSign 113 59 τ = _ from m_isSign (k := 59) h.2.1.kk, obs]
  rw [e]
  exact j_sign h rfl
theorem Bt_dl (d : Dl σ σ' τ τ') : Bt τ' = Bt τ := by
  unfold Bt blk
  rw [d.m (b := 118) (by decide)]
theorem PS.dl {s : Nat} (h : PS s k S σ τ) (d : Dl σ σ' τ τ') : PS s k S σ' τ' := by
  unfold PS
  rw [Bt_dl d]
  have e : ∀ b j, 31 ≤ b → b ≤ 31 + 5 → σ' b j = σ b j := fun b j q1 q2 => by rw [d.x (by omega)]
  exact ⟨fun q => (h.1 q).cg e rfl (Int.le_refl _) fun _ _ => rfl, fun q => (h.2 q).cg e rfl fun _ _ => rfl⟩
/-- the rest and its sign -/
theorem j_line {s : Nat} (hs9 : s ≤ 9) (h : Co σ τ t N) (hd : Du σ τ) (h2 : σ 31 2 = k) (hk : k < 60) (h1 : σ 31 1 = S) (hS : S < 30) (hs : τ 118 (1365 + 9 * S) = s) : RO t N σ τ k S (PS s k S) ((xRest s σ).bind fun r => f_X6_readStep_b152 30 r.1 r.2) ((f_X12_readRest 113 ((1365 + 9 * S : Nat) : Int) τ).bind endM) := by
  rcases j_rest hs9 h hd h2 hk h1 hS hs with ⟨σ2, τ2, a1, a2, a3, a4, a5, a6, a7, a8⟩ | ⟨σ2, τ2, a1, a2, a3, a4, a5⟩
  · have R2 : Ref σ2 := (hd.fp (w := 0) (RXq a4) (RMq a5)).1
    rw [a1, a2, obs, obs]
    dsimp only
    unfold f_X6_readStep_b152
    rw [if_neg (by decide), gTr, obs, R2.at 30 0 3 rfl]
    rcases j_semi a3 with ⟨σ3, τ3, b1, b2, b3, b4, b5⟩ | ⟨σ3, τ3, b1, b2, b3, b4⟩
    · refine .inl ⟨σ3, τ3, by rw [b1, obs]; rfl, b2, b4, a4.trans (X0r b3.fx), a5.trans (M0r b3.fm), by omega, ?_, a8.dl b3⟩
      rw [b3.x (by decide)]
      exact a7
    · exact .inr ⟨σ3, τ3, by rw [b1, obs]; rfl, b2, b4, a4.trans (X0r b3.fx), a5.trans (M0r b3.fm)⟩
  · rw [a1, a2, obs, obs]
    exact .inr ⟨σ2, τ2, rfl, endM_bad a3.2.2, a3, a4, a5⟩
end
