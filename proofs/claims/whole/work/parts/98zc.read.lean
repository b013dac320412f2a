/-! ===== terms read: from the start to the end ===== -/
section
variable {σ σ' τ τ' s : Mem} {t : Nat → Int} {N S k : Nat}
theorem blk0 : blk τ 0 = τ 118 := by funext j; unfold blk; rw [show 327 * 0 + j = j by omega]
theorem wrd0 : wrd τ 0 = τ 120 := by funext j; unfold wrd; rw [show 14 * 0 + j = j by omega]
/-- the empty draft -/
def emR (σ : Mem) : Mem := upm (upm (upm (upm (upm σ 30 4 0) 31 0 0) 31 1 0) 31 2 0) 31 0 1
theorem x_readsStart (hR : Ref σ) : f_X6_reads 30 σ = f_X6_reads_h24 FU 30 1 0 (emR σ) := by
  have r30 : ∀ {ρ : Mem} {j : Nat} {v : Int}, upm ρ 31 j v 30 2 = ρ 30 2 := upm_o (by decide)
  have r2 : upm σ 30 4 0 30 2 = 31 := by rw [upm_app, if_neg (by decide)]; exact hR.at 30 2 31 rfl
  unfold f_X6_reads f_X6_reads_b0 f_X5_forget f_X5_forget_b0
  rw [if_pos oTr, pTr, obs, gTr, obs, r2, if_pos (show isO Sh 5 31 = true from rfl), p31, obs, p31, obs, p31, obs, obs, gTr, obs, r30, r30, r30, r2, p31, obs]
  rfl
noncomputable def mTerms (τ : Mem) (n : Int) : Option (Int × Mem) := (f_X12_advance 113 (st4 τ n)).bind fun r => (pf Sh r 12 113 25 0).bind fun σ5 => f_X12_terms_h28 FU 113 σ5
theorem j_terms {n : Nat} (h1 : Ref s) (h2 : Ref τ) (h4 : s 4 = SG 4) (hb : ∀ i, i < 900 → s 2 i = τ 117 i ∧ -128 ≤ τ 117 i ∧ τ 117 i ≤ 127) (hn : n ≤ 300) (hw : WR s 5 (τ 118) (τ 120)) (hB : BV (τ 118)) :
    (∃ (σ' τ' : Mem) (S k m : Nat), (f_X7_begin 3 n s).bind (f_X6_reads 30) = some (1, σ') ∧ mTerms τ n = f_X12_terms_b50 113 τ' ∧ Co σ' τ' (s 2) n ∧ Dt σ' τ' S k 0 ∧ Cd σ' 31 (Bt τ') m 3 0 S 0 k ∧ σ' 31 0 = 1 ∧ Fr [0, 5] s σ' ∧ Fr [14, 20] τ τ' ∧ τ' 113 8 = 0 ∧ τ' 117 = τ 117) ∨
    (∃ σ' τ', (f_X7_begin 3 n s).bind (f_X6_reads 30) = some (0, σ') ∧ mTerms τ n = f_X12_terms_b50 113 τ' ∧ Bd σ' τ' ∧ Fr [0, 5] s σ' ∧ Fr [14, 20] τ τ' ∧ τ' 113 8 = 0 ∧ τ' 117 = τ 117) := by
  obtain ⟨V, W, a1, a2, a3, a4, a5, a6⟩ := j_start h1 h2 h4 hb (show n ≤ 900 by omega)
  have fx := fr_x3 a4
  have fm := fr_m113 a5
  have R1 := fx.ref (by decide) h1
  have R2 := fm.ref (by decide) h2
  have ec : ∀ b, ¬ b = 30 → ¬ b = 31 → emR (setc s 3 V) b = setc s 3 V b := fun b q1 q2 => by
    unfold emR
    rw [upm_ne q2, upm_ne q2, upm_ne q2, upm_ne q2, upm_ne q1]
  have fe : Fr [0, 5] (setc s 3 V) (emR (setc s 3 V)) := by
    unfold emR
    exact ((((Fr.up (show gid 30 4 ∈ _ by decide)).then (by decide)).then (by decide)).then (by decide)).then (by decide)
  have fe2 : Fr [14, 20] (setc τ 113 W) (upm (setc τ 113 W) 113 25 0) := Fr.up (by decide)
  have R3 := fe.ref (by decide) R1
  have R4 := fe2.ref (by decide) R2
  have c0 : Co (emR (setc s 3 V)) (upm (setc τ 113 W) 113 25 0) (s 2) n := (a3.reg (by omega)).cell (ec 3 (by decide) (by decide)) (ec 2 (by decide) (by decide)) (ec 4 (by decide) (by decide)) rfl rfl
  have k8 : upm (setc τ 113 W) 113 25 0 118 = τ 118 := by rw [upm_ne (by decide), setc_ne (by decide)]
  have k0 : upm (setc τ 113 W) 113 25 0 120 = τ 120 := by rw [upm_ne (by decide), setc_ne (by decide)]
  have ev : emR (setc s 3 V) 30 4 = 0 ∧ emR (setc s 3 V) 31 0 = 1 ∧ emR (setc s 3 V) 31 1 = 0 ∧ emR (setc s 3 V) 31 2 = 0 := by
    unfold emR
    refine ⟨?_, ?_, ?_, ?_⟩ <;> simp [upm_app]
  have d0 : Dt (emR (setc s 3 V)) (upm (setc τ 113 W) 113 25 0) 0 0 0 := by
    refine ⟨⟨R3, R4, ?_, ?_⟩, ⟨ev.2.2.1, upm_same, by omega⟩, ⟨ev.2.2.2, by omega⟩, ev.1, by omega⟩
    · rw [blk0, wrd0, k8, k0]
      exact hw.cg (fun b j q1 q2 => by rw [ec b (by omega) (by omega), setc_ne (by omega)]) (fun _ _ => rfl) (fun _ _ => rfl) hB
    · rw [blk0, k8]
      exact hB
  have ex : (f_X7_begin 3 n s).bind (f_X6_reads 30) = f_X6_reads_h24 FU 30 1 0 (emR (setc s 3 V)) := by
    rw [a1, obs, x_readsStart R1]
  have em : mTerms τ n = f_X12_terms_h28 FU 113 (upm (setc τ 113 W) 113 25 0) := by
    unfold mTerms
    rw [a2, obs, pM, obs]
  generalize hX : emR (setc s 3 V) = σ0 at *
  generalize hY : upm (setc τ 113 W) 113 25 0 = τ0 at *
  have e8 : ∀ τ', Fr [20] τ0 τ' → τ' 113 8 = 0 := fun τ' f => by
    rw [f 113 8 (by unfold gs; decide), ← hY, upm_app, if_neg (by decide), setc_same, a6]
  have e7 : ∀ τ', Fr [20] τ0 τ' → τ' 117 = τ 117 := fun τ' f => by
    funext j
    rw [f 117 j (by
      unfold gs
      rw [show gid 117 j = 14 by unfold gid; rw [show isRf 117 j = false from isRf_cell rfl]; rfl]
      decide), ← hY, upm_o (by decide), setc_ne (by decide)]
  rw [ex, em]
  obtain ⟨a, _, ka, _⟩ := c0.2.1
  have L := j_loop (t := s 2) (N := n) (w := 0) (d := 3) (G := FR) (K := fun n τ => f_X12_terms_h28 n 113 τ) (fin := fun τ => f_X12_terms_b50 113 τ) (stp := fun σ => decide (σ 3 4 = 0)) (fun n τ hb => by
      show f_X12_terms_h28 (n + 1) 113 τ = f_X12_terms_b50 113 τ
      rw [hs_X12_terms_h28]
      unfold f_X12_terms_b28
      rw [gM, obs, if_neg (by omega)]) (fun n σ τ h => by
      show f_X12_terms_h28 (n + 1) 113 τ = if decide (σ 3 4 = 0) = true then f_X12_terms_b50 113 τ else (f_X12_readStep FR 113 0 τ).bind (fun τ => f_X12_terms_h28 n 113 τ)
      rw [hs_X12_terms_h28]
      unfold f_X12_terms_b28
      have ee := h.2.1.kk.end_
      rw [gM, obs, if_pos h.2.2, gM, obs]
      by_cases z : σ 3 4 = 0
      · rw [if_pos (ee.mp z), if_pos (decide_eq_true z)]
      · rw [if_neg (fun q => z (ee.mpr q)), if_neg (by rw [decide_eq_true_iff]; exact z)]) (fun σ τ S k h hd hz => j_readStep 3 0 FR rfl (by decide) σ τ S k h hd (fun _ => of_decide_eq_false hz) (fun q => absurd rfl q)) (n + 1) a FU σ0 τ0 0 0 c0 d0 ka (by omega) (by unfold FU; omega)
  rcases L with ⟨σ3, τ3, i, S3, k3, m, c1, c2, c3, c4, c5, c6, c7, c8, c9⟩ | ⟨σ3, τ3, i, c1, c2, c3, c4, c5, c6⟩
  · have z3 : σ3 3 4 = 0 := of_decide_eq_true c9
    have n3 := c3.at_
    have i3 : i ≤ 300 := by omega
    refine .inl ⟨σ3, τ3, S3, k3, m, ?_, c2, c3, c4, c8, ?_, (fx.trans fe).trans (QXf c5), (fm.trans fe2).trans ((QMf c6).mono (by decide)), e8 _ (QMf c6), e7 _ (QMf c6)⟩
    · have := c1 (199999 - i + 1) 0 (by omega)
      rw [show 199999 - i + 1 + i = FU by unfold FU; omega] at this
      rw [show (0 : Int) = ((0 : Nat) : Int) from rfl, this, hs_X6_reads_h24, x_itE c4.1.1 (by omega) z3, if_pos (show σ3 30 4 = 0 from c4.2.2.2.1)]
    · rw [c5 31 0 (by unfold QX; omega)]
      exact ev.2.1
  · refine .inr ⟨σ3, τ3, ?_, c2, c3, (fx.trans fe).trans (QXf c4), (fm.trans fe2).trans ((QMf c5).mono (by decide)), e8 _ (QMf c5), e7 _ (QMf c5)⟩
    have := c1 (199998 - i) 0 (by omega)
    rw [show 199998 - i + i + 2 = FU by unfold FU; omega] at this
    exact this
/-- the reference's copy of the steps -/
def cpT (g : Nat → Int) (i : Nat) : Nat → Int := fun j => if 57 ≤ j ∧ j < 57 + i then g (1308 + j) else g j
theorem cpT_0 {g : Nat → Int} : cpT g 0 = g := by funext j; unfold cpT; rw [if_neg (by omega)]
theorem cpT_s {g : Nat → Int} {i : Nat} : up1 (cpT g i) (57 + i) (g (1365 + i)) = cpT g (i + 1) := by
  funext j
  unfold up1 cpT
  by_cases q : j = 57 + i
  · rw [if_pos q, if_pos (by omega)]; congr 1; omega
  · rw [if_neg q]
    by_cases r : 57 ≤ j ∧ j < 57 + i
    · rw [if_pos r, if_pos (by omega)]
    · rw [if_neg r, if_neg (by omega)]
theorem m_tcopy (hR : Ref τ) (h25 : τ 113 25 = S) (hS : S ≤ 30) : f_X12_terms_h80 FU 113 0 τ = some ((S : Int), setc τ 118 (cpT (τ 118) (9 * S))) := by
  have := up_all (Q := fun n i => f_X12_terms_h80 n 113 (i : Int) (setc τ 118 (cpT (τ 118) i)) = some ((S : Int), setc τ 118 (cpT (τ 118) (9 * S)))) (9 * S) (fun n => ?_) (fun n i hi ih => ?_) (by unfold FU; omega)
  · rw [cpT_0, setc_id] at this
    exact this
  · rw [hs_X12_terms_h80]
    unfold f_X12_terms_b80
    rw [gM, obs, setc_ne (by decide), h25, w32_in (by omega) (by omega), if_pos (by omega), obs]
  · have hR' : Ref (setc τ 118 (cpT (τ 118) i)) := hR.setc rfl
    rw [hs_X12_terms_h80]
    unfold f_X12_terms_b80
    rw [gM, obs, setc_ne (by decide), h25, w32_in (z := 9 * (S : Int)) (by omega) (by omega), if_neg (by omega), gM, obs, obs, hR'.at 113 20 118 rfl, w32_in (z := 1365 + (i : Int)) (by omega) (by omega), alC (by omega) (by omega), obs, w32_in (z := 57 + (i : Int)) (by omega) (by omega), stC (by omega) (by omega), obs, w32_in (z := (i : Int) + 1) (by omega) (by omega), setc_same, setc_upm, show (1365 + (i : Int)).toNat = 1365 + i by omega, show (57 + (i : Int)).toNat = 57 + i by omega, show cpT (τ 118) i (1365 + i) = τ 118 (1365 + i) by unfold cpT; rw [if_neg (by omega)], cpT_s]
    exact ih
end
