/-! ===== terms read: STEPS and blocks ===== -/
section
variable {σ σ' σ1 τ τ' τ1 : Mem} {t V : Nat → Int} {N k S w : Nat} {r : Int → Int → Mem → Option Mem}
theorem mb_83 {v s b : Int} (h : 0 < τ 113 12) : f_X12_readStep_b83 r 113 v s b τ = some τ := by
  unfold f_X12_readStep_b83
  rw [gM, obs, if_neg (by omega)]
theorem mb_57 {v s b : Int} (h : 0 < τ 113 12) : f_X12_readStep_b57 r 113 v s b τ = some τ := by
  unfold f_X12_readStep_b57
  rw [gM, obs, if_neg (by omega), mb_83 h]
theorem mb_31 {v s b : Int} (h : 0 < τ 113 12) : f_X12_readStep_b31 r 113 v s b τ = some τ := by
  unfold f_X12_readStep_b31
  rw [gM, obs, if_neg (by omega), mb_57 h]
/-- has it a block? -/
def bln (s : Int) : Int := if s = 7 ∨ s = 8 then 1 else 0
theorem m_stepHead {v : Int} (h : Co σ τ t N) : f_X12_readStep_body r 113 v τ = if 0 ≤ stW (σ 3) then f_X12_readStep_b31 r 113 v (stW (σ 3)) (bln (stW (σ 3))) τ else (f_X12_amiss 113 τ).bind fun r3 => f_X12_readStep_b31 r 113 v (stW (σ 3)) (bln (stW (σ 3))) r3 := by
  unfold f_X12_readStep_body f_X12_readStep_b0 f_X12_readStep_b17 f_X12_readStep_b22
  rw [if_pos oM, m_stepWord h.2.1.kk, obs]
  by_cases q7 : stW (σ 3) = 7
  · rw [if_pos q7, show bln (stW (σ 3)) = 1 by unfold bln; rw [if_pos (.inl q7)]]
  · rw [if_neg q7]
    by_cases q8 : stW (σ 3) = 8
    · rw [if_pos q8, show bln (stW (σ 3)) = 1 by unfold bln; rw [if_pos (.inr q8)]]
    · rw [if_neg q8, show bln (stW (σ 3)) = 0 by unfold bln; rw [if_neg (by omega)]]
/-- a step's first part in the reference -/
theorem m_stepGo {s v : Int} {b : Int} (h0 : τ 113 12 = 0) (h25 : τ 113 25 = S) (hS : S < 30) (hv : b = 0 ∨ ¬ v = 3) (hR : Ref τ) (ha : f_X12_advance 113 (upm τ 113 25 ((S + 1 : Nat) : Int)) = some τ1) (hR1 : Ref τ1) : f_X12_readStep_b31 r 113 v s b τ = ((f_X12_readRest 113 ((1365 + 9 * S : Nat) : Int) (upm τ1 118 (1365 + 9 * S) s)).bind endM).bind fun r26 => f_X12_readStep_h142 r FU 113 v b ((1365 + 9 * S : Nat) : Int) r26 := by
  have w1 : w32 (1365 + w32 (9 * (S : Int))) = ((1365 + 9 * S : Nat) : Int) := by
    rw [w32_in (z := 9 * (S : Int)) (by omega) (by omega), w32_in (by omega) (by omega)]; omega
  have e83 : f_X12_readStep_b83 r 113 v s b τ = ((f_X12_readRest 113 ((1365 + 9 * S : Nat) : Int) (upm τ1 118 (1365 + 9 * S) s)).bind endM).bind fun r26 => f_X12_readStep_h142 r FU 113 v b ((1365 + 9 * S : Nat) : Int) r26 := by
    unfold f_X12_readStep_b83
    rw [gM, obs, if_pos (by omega), gM, obs, obs, h25, wkk1 (by omega), pM, obs, ha, obs, gM, obs, hR1.at 113 20 118 rfl, w1, stC (by omega) (by omega), obs, Int.toNat_natCast]
    cases f_X12_readRest 113 ((1365 + 9 * S : Nat) : Int) (upm τ1 118 (1365 + 9 * S) s) with
    | none => rfl
    | some r22 =>
      rw [obs, obs]
      unfold endM
      cases f_X12_isSign 113 59 r22 with
      | none => rfl
      | some r24 => rw [obs, obs]
  unfold f_X12_readStep_b31 f_X12_readStep_b57
  rw [gM, obs, if_pos h0, gM, obs, h25, if_neg (by omega), obs, if_pos h0, e83]
  by_cases z : b = 0
  · rw [if_pos z]
  · rw [if_neg z, if_neg (by omega)]
/-- the court begins a STEP -/
theorem x_begins {s : Nat} (hd : Dt σ τ S k w) (hs : s ≤ 9) (hk : isK (σ 3) (kOf s) = true) (tk : TKk (σ 3) (τ 113)) (hst : stW (σ 3) = s) : f_X6_beginsStep 30 σ = if S < 30 then (if s = 7 ∨ s = 8 then (if w < 3 then some (1, upm (upm σ 37 w k) 30 4 ((w + 1 : Nat) : Int)) else (f_X7_refuse 3 7 σ).bind fun r29 => (bz r29.1).bind fun _ => some (r29.1, r29.2)) else some (1, σ)) else (f_X7_refuse 3 6 σ).bind fun r29 => (bz r29.1).bind fun _ => some (r29.1, r29.2) := by
  obtain ⟨hu, ⟨d1, d2, d3⟩, ⟨d4, d5⟩, d6, d7⟩ := hd
  have e65 : f_X6_beginsStep_b65 30 σ = if w < 3 then some (1, upm (upm σ 37 w k) 30 4 ((w + 1 : Nat) : Int)) else (f_X7_refuse 3 7 σ).bind fun r29 => (bz r29.1).bind fun _ => some (r29.1, r29.2) := by
    unfold f_X6_beginsStep_b65
    simp only [gTr, obs, hu.1.at 30 0 3 rfl, hu.1.at 30 2 31 rfl, hu.1.at 30 3 37 rfl, g31, d4, d6]
    by_cases q : w < 3
    · rw [if_pos (by omega), if_pos q, (a37 q).2, obs, pTr, obs, upm_o (by decide), d6, wkk1 (by omega)]
    · rw [if_neg (by omega), if_neg q]
  unfold f_X6_beginsStep f_X6_beginsStep_b0
  simp only [oTr, if_true, gTr, obs, hu.1.at 30 0 3 rfl, hu.1.at 30 2 31 rfl, g31, d1]
  rw [x_isStepWord tk, obs, hst, if_pos (show (0 : Int) ≤ (s : Int) by omega), if_neg (by decide)]
  by_cases q : S < 30
  · rw [if_pos (by omega), if_pos q, show f_X7_isWord 3 17 σ = _ from x_isWord (k := 17), obs, ifb, show f_X7_isWord 3 20 σ = _ from x_isWord (k := 20), obs, ifb, e65]
    by_cases q7 : s = 7
    · rw [if_pos (show s = 7 ∨ s = 8 from .inl q7), if_pos (by rw [q7] at hk; exact hk)]
    · rw [if_neg (show ¬ isK (σ 3) 17 = true by rw [isK_no (j := 17) hk (by unfold kOf; split <;> (try split) <;> omega)]; decide)]
      by_cases q8 : s = 8
      · rw [if_pos (show s = 7 ∨ s = 8 from .inr q8), if_pos (by rw [q8] at hk; exact hk)]
      · rw [if_neg (show ¬ isK (σ 3) 20 = true by rw [isK_no (j := 20) hk (by unfold kOf; split <;> (try split) <;> omega)]; decide), if_neg (by omega)]
  · rw [if_neg (by omega), if_neg q]
theorem Cd.le {a : Nat} {B : Nat → Int} : ∀ (n d lo hi k k1 : Nat), Cd σ a B n d lo hi k k1 → ∀ n', n ≤ n' → Cd σ a B n' d lo hi k k1 := by
  intro n
  induction n with
  | zero =>
    intro d lo hi k k1 h n' _
    cases n' with
    | zero => exact h
    | succ n' => unfold Cd; exact .inl h
  | succ n ih =>
    intro d lo hi k k1 h n' hn
    obtain ⟨m, rfl⟩ : ∃ m, n' = m + 1 := ⟨n' - 1, by omega⟩
    unfold Cd at h ⊢
    rcases h with h | ⟨g1, g2, g3⟩ | ⟨d1, q, e, g1, g2, g3, g4, g5, g6, g7, g8⟩
    · exact .inl h
    · exact .inr (.inl ⟨g1, g2, ih _ _ _ _ _ g3 m (by omega)⟩)
    · exact .inr (.inr ⟨d1, q, e, g1, g2, g3, ih _ _ _ _ _ g4 m (by omega), g5, g6, g7, ih _ _ _ _ _ g8 m (by omega)⟩)
theorem Cd.app {a : Nat} {B : Nat → Int} : ∀ (n d lo hi k k1 : Nat), Cd σ a B n d lo hi k k1 → ∀ (n2 hi2 k2 : Nat), Cd σ a B n2 d hi hi2 k1 k2 → Cd σ a B (n + n2) d lo hi2 k k2 := by
  intro n
  induction n with
  | zero =>
    intro d lo hi k k1 h n2 hi2 k2 g
    obtain ⟨rfl, rfl⟩ := h
    exact Cd.le _ _ _ _ _ _ g _ (by omega)
  | succ n ih =>
    intro d lo hi k k1 h n2 hi2 k2 g
    rw [show n + 1 + n2 = n + n2 + 1 by omega]
    unfold Cd at h
    rcases h with ⟨rfl, rfl⟩ | ⟨g1, g2, g3⟩ | ⟨d1, q, e, g1, g2, g3, g4, g5, g6, g7, g8⟩
    · exact Cd.le _ _ _ _ _ _ g _ (by omega)
    · unfold Cd
      exact .inr (.inl ⟨g1, g2, ih _ _ _ _ _ g3 _ _ _ g⟩)
    · unfold Cd
      exact .inr (.inr ⟨d1, q, e, g1, g2, g3, Cd.le _ _ _ _ _ _ g4 _ (by omega), g5, g6, g7, ih _ _ _ _ _ g8 _ _ _ g⟩)
/-- what is read stays -/
theorem Cd.st {k2 S2 m d S' k' : Nat} (h : Cd σ 31 (Bt τ) m d S S' k k') (f : Fp (QX k2 w) σ σ') (g : Fp (QM S2) τ τ') (hk : k' ≤ k2) (hS : S' ≤ S2) : Cd σ' 31 (Bt τ') m d S S' k k' := by
  refine Cd.mv (N := S') (M := k') (fun i j h1 h2 h3 => f _ _ (by unfold QX; omega)) ?_ ?_ (fun j h1 h2 => ?_) _ _ _ _ _ _ (Nat.le_refl _) (Nat.le_refl _) h
  · rw [Bt_0, Bt_0]; exact g _ _ (by unfold QM; omega)
  · rw [Bt_1, Bt_1]; exact g _ _ (by unfold QM; omega)
  · unfold Bt blk
    rw [if_neg (by omega), if_neg (by omega)]
    exact g _ _ (by unfold QM; omega)
/-- a run of STEPS read by both -/
def SO {α : Type} (t : Nat → Int) (N : Nat) (σ τ : Mem) (S k w d : Nat) (fm : Option α) (fin : Mem → Option α) (Q : Mem → Prop) : Prop :=
  (∃ (σ' τ' : Mem) (n S' k' m : Nat), Xgo σ σ' n ∧ fm = fin τ' ∧ Co σ' τ' t N ∧ Dt σ' τ' S' k' w ∧ Fp (QX k w) σ σ' ∧ Fp (QM S) τ τ' ∧ σ 3 5 + n ≤ σ' 3 5 ∧ Cd σ' 31 (Bt τ') m d S S' k k' ∧ Q σ') ∨
  (∃ (σ' τ' : Mem) (n : Nat), Xbad σ σ' n ∧ fm = fin τ' ∧ Bd σ' τ' ∧ Fp (QX k w) σ σ' ∧ Fp (QM S) τ τ' ∧ σ 3 5 + n ≤ N)
/-- STEPS one after the other -/
theorem j_loop {α : Type} {d G : Nat} {K : Nat → Mem → Option α} {fin : Mem → Option α} {stp : Mem → Bool} (hK0 : ∀ n τ, 0 < τ 113 12 → K (n + 1) τ = fin τ) (hK1 : ∀ n σ τ, Co σ τ t N → K (n + 1) τ = if stp σ = true then fin τ else (f_X12_readStep G 113 w τ).bind (K n))
    (hstep : ∀ (σ τ : Mem) (S k : Nat), Co σ τ t N → Dt σ τ S k w → stp σ = false → SO t N σ τ S k w d (f_X12_readStep G 113 w τ) some (fun σ' => σ 3 5 < σ' 3 5)) :
    ∀ (n a F : Nat) (σ τ : Mem) (S k : Nat), Co σ τ t N → Dt σ τ S k w → σ 3 5 = a → N + 1 - a ≤ n → n < F → SO t N σ τ S k w d (K F τ) fin (fun σ' => stp σ' = true) := by
  intro n
  induction n with
  | zero =>
    intro a F σ τ S k h hd ha hn _
    obtain ⟨a', e, k1, _, _, _, k5, k6, _⟩ := h.2.1
    omega
  | succ n ih =>
    intro a F σ τ S k h hd ha hn hF
    obtain ⟨F, rfl⟩ : ∃ x, F = x + 1 := ⟨F - 1, by omega⟩
    rw [hK1 F σ τ h]
    cases q : stp σ with
    | true =>
      rw [if_pos rfl]
      exact .inl ⟨σ, τ, 0, S, k, 0, Xgo.refl, rfl, h, hd, Fp.refl, Fp.refl, by omega, ⟨rfl, rfl⟩, q⟩
    | false =>
      rw [if_neg (by decide)]
      rcases hstep σ τ S k h hd q with ⟨σ2, τ2, n1, S2, k2, m1, a1, a2, a3, a4, a5, a6, a7, a8, a9⟩ | ⟨σ2, τ2, n1, a1, a2, a3, a4, a5, a6⟩
      · rw [a2, obs]
        obtain ⟨a', e, k1, _⟩ := a3.2.1
        have l1 := Cd.lim _ _ _ _ _ _ a8
        rcases ih a' F σ2 τ2 S2 k2 a3 a4 k1 (by omega) (by omega) with ⟨σ3, τ3, n2, S3, k3, m2, b1, b2, b3, b4, b5, b6, b7, b8, b9⟩ | ⟨σ3, τ3, n2, b1, b2, b3, b4, b5, b6⟩
        · exact .inl ⟨σ3, τ3, n1 + n2, S3, k3, m1 + m2, a1.trans b1, b2, b3, b4, a5.trans (QXm b5 l1.2 (Nat.le_refl _)), a6.trans (QMm b6 l1.1), by omega, Cd.app _ _ _ _ _ _ (a8.st b5 b6 (Nat.le_refl _) (Nat.le_refl _)) _ _ _ b8, b9⟩
        · exact .inr ⟨σ3, τ3, n1 + n2, a1.bad b1, b2, b3, a5.trans (QXm b4 l1.2 (Nat.le_refl _)), a6.trans (QMm b5 l1.1), by omega⟩
      · rw [a2, obs]
        obtain ⟨F, rfl⟩ : ∃ x, F = x + 1 := ⟨F - 1, by omega⟩
        rw [hK0 F τ2 a3.2.2]
        exact .inr ⟨σ2, τ2, n1, a1, rfl, a3, a4, a5, a6⟩
end
