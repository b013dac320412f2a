/-! ===== what the reference's wall answers ===== -/
theorem alC {σ : Mem} {i : Int} (h0 : 0 ≤ i) (h1 : i < 1635) : al Sh σ 20 118 i = some (σ 118 i.toNat) := by rw [al_at (aC h0 h1)]; rfl
theorem stC {σ : Mem} {i v : Int} (h0 : 0 ≤ i) (h1 : i < 1635) : st_ Sh σ 20 118 i v = some (upm σ 118 i.toNat v) := by rw [st_at (aC h0 h1)]; rfl
theorem alWd {σ : Mem} {i : Int} (h0 : 0 ≤ i) (h1 : i < 70) : al Sh σ 21 120 i = some (σ 120 i.toNat) := by rw [al_at (aW h0 h1)]; rfl
theorem stWd {σ : Mem} {i v : Int} (h0 : 0 ≤ i) (h1 : i < 70) : st_ Sh σ 21 120 i v = some (upm σ 120 i.toNat v) := by rw [st_at (aW h0 h1)]; rfl
theorem s_isIn {v x y : Int} {σ : Mem} : f_X12_isIn v x y σ = some (if x ≤ v ∧ v ≤ y then 1 else 0) := by
  unfold f_X12_isIn f_X12_isIn_b0
  simp only [lcmp_lt, lcmp_gt]
  grind
theorem bz01 {P : Prop} [Decidable P] : bz (if P then 1 else 0) = some (if P then 1 else 0) := by split <;> rfl
section
variable {σ : Mem} {B : Nat → Int}
theorem m_isPlaceAt {v : Int} (hR : Ref σ) (hC : σ 118 = B) (hB : BV B) : f_X12_isPlaceAt 113 v σ = some (if 0 ≤ v ∧ v < B 0 then 1 else 0) := by
  have hn := hB.nP_le
  unfold f_X12_isPlaceAt f_X12_isPlaceAt_b0
  simp only [oM, if_true, gM, obs, hR.at 113 20 118 rfl]
  rw [alC (by omega) (by omega)]
  simp only [obs, s_isIn, bz01, hC, Int.reduceToNat]
  rw [w32_in (by omega) (by omega)]
  grind
theorem m_isCrowAt {v : Int} (hR : Ref σ) (hC : σ 118 = B) (hB : BV B) : f_X12_isCrowAt 113 v σ = some (if 0 ≤ v ∧ v < B 1 then 1 else 0) := by
  have hn := hB.nK_le
  unfold f_X12_isCrowAt f_X12_isCrowAt_b0
  simp only [oM, if_true, gM, obs, hR.at 113 20 118 rfl]
  rw [alC (by omega) (by omega)]
  simp only [obs, s_isIn, bz01, hC, Int.reduceToNat]
  rw [w32_in (by omega) (by omega)]
  grind
theorem m_isStoneAt {p : Nat} (hR : Ref σ) (hC : σ 118 = B) (hp : p < 1000) : f_X12_isStoneAt 113 p σ = some (if stn B p = true then 1 else 0) := by
  unfold f_X12_isStoneAt f_X12_isStoneAt_b0
  simp only [oM, if_true, gM, obs, hR.at 113 20 118 rfl]
  rw [w32_in (by omega) (by omega), alC (by omega) (by omega)]
  simp only [obs, hC]
  rw [show (7 + (p : Int)).toNat = 7 + p by omega]
  unfold stn
  simp only [decide_eq_true_eq]
  split <;> rfl
theorem m_stones (hR : Ref σ) (hC : σ 118 = B) (hB : BV B) : f_X12_stones 113 σ = some ((aS B : Nat) : Int) := by
  have hn := hB.nP_le
  unfold f_X12_stones f_X12_stones_b0
  rw [if_pos oM]
  refine up_all (Q := fun n i => f_X12_stones_h4 n 113 ((setOf (stn B) i : Nat) : Int) (i : Int) σ = some ((aS B : Nat) : Int)) (nP B) (fun n => ?_) (fun n i hi ih => ?_) (by unfold FU; omega)
  · rw [hs_X12_stones_h4]
    unfold f_X12_stones_b4
    simp only [gM, obs, hR.at 113 20 118 rfl]
    rw [alC (by omega) (by omega)]
    simp only [obs, hC, Int.reduceToNat]
    rw [if_pos (by omega)]
    rfl
  · rw [hs_X12_stones_h4]
    unfold f_X12_stones_b4 f_X12_stones_b30
    simp only [gM, obs, hR.at 113 20 118 rfl]
    rw [alC (by omega) (by omega)]
    simp only [obs, hC, Int.reduceToNat, m_isStoneAt hR hC (show i < 1000 by omega)]
    rw [if_neg (by omega), w32_in (by omega) (by omega)]
    by_cases q : stn B i = true
    · rw [if_pos q, if_neg (by omega), ior_set (by omega) q]
      exact ih
    · rw [nor_set (by simpa using q)] at ih
      rw [if_neg q, if_pos rfl, ior_0 (by have := @setOf_lt' (stn B) i (by omega); omega)]
      exact ih
theorem m_crowsOn {p : Int} (hR : Ref σ) (hC : σ 118 = B) (hB : BV B) : f_X12_crowsOn 113 p σ = some ((setOf (cw B p) (nK B) : Nat) : Int) := by
  have hn := hB.nK_le
  unfold f_X12_crowsOn f_X12_crowsOn_b0
  rw [if_pos oM]
  refine up_all (Q := fun n i => f_X12_crowsOn_h4 n 113 p ((setOf (cw B p) i : Nat) : Int) (i : Int) σ = some ((setOf (cw B p) (nK B) : Nat) : Int)) (nK B) (fun n => ?_) (fun n i hi ih => ?_) (by unfold FU; omega)
  · rw [hs_X12_crowsOn_h4]
    unfold f_X12_crowsOn_b4
    simp only [gM, obs, hR.at 113 20 118 rfl]
    rw [alC (by omega) (by omega)]
    simp only [obs, hC, Int.reduceToNat]
    rw [if_pos (by omega)]
  · rw [hs_X12_crowsOn_h4]
    unfold f_X12_crowsOn_b4 f_X12_crowsOn_b35
    simp only [gM, obs, hR.at 113 20 118 rfl]
    rw [alC (by omega) (by omega), w32_in (z := 47 + (i : Int)) (by omega) (by omega), alC (by omega) (by omega)]
    simp only [obs, hC, Int.reduceToNat]
    rw [if_neg (by omega), w32_in (by omega) (by omega), show (47 + (i : Int)).toNat = 47 + i by omega]
    by_cases q : B (47 + i) = p
    · rw [if_pos q, ior_set (by omega) (by unfold cw; simpa using q)]
      exact ih
    · rw [nor_set (by unfold cw; simpa using q)] at ih
      rw [if_neg q, ior_0 (by have := @setOf_lt' (cw B p) i (by omega); omega)]
      exact ih
theorem m_mossAll (hR : Ref σ) (hC : σ 118 = B) (hB : BV B) : f_X12_mossAll 113 σ = some (ms B (nP B)) := by
  have hn := hB.nP_le
  unfold f_X12_mossAll f_X12_mossAll_b0
  rw [if_pos oM]
  refine up_all (Q := fun n i => f_X12_mossAll_h4 n 113 (ms B i) (i : Int) σ = some (ms B (nP B))) (nP B) (fun n => ?_) (fun n i hi ih => ?_) (by unfold FU; omega)
  · rw [hs_X12_mossAll_h4]
    unfold f_X12_mossAll_b4
    simp only [gM, obs, hR.at 113 20 118 rfl]
    rw [alC (by omega) (by omega)]
    simp only [obs, hC, Int.reduceToNat]
    rw [if_pos (by omega)]
  · rw [hs_X12_mossAll_h4]
    unfold f_X12_mossAll_b4 f_X12_mossAll_b36
    simp only [gM, obs, hR.at 113 20 118 rfl]
    rw [alC (by omega) (by omega), w32_in (z := 27 + (i : Int)) (by omega) (by omega), alC (by omega) (by omega)]
    simp only [obs, hC, Int.reduceToNat, m_isStoneAt hR hC (show i < 1000 by omega)]
    rw [if_neg (by omega), w32_in (z := (i : Int) + 1) (by omega) (by omega), show (27 + (i : Int)).toNat = 27 + i by omega]
    have l1 := @ms_le B i hB (by omega)
    have l2 := @ms_le B (i + 1) hB (by omega)
    rw [ms_s] at ih l2
    by_cases q : stn B i = true
    · simp only [q, if_true] at ih l2 ⊢
      rw [if_neg (by omega), w32_in (by omega) (by omega)]
      exact ih
    · simp only [q, if_true, if_false, Bool.false_eq_true] at ih l2 ⊢
      rw [w32_in (by omega) (by omega)]
      exact ih
theorem m_farOf {p q : Int} (hR : Ref σ) (hC : σ 118 = B) (hB : BV B) (hp : 0 ≤ p ∧ p < 10) (hq : 0 ≤ q ∧ q < 10) : f_X12_farOf 113 p q σ = some (ds (B 0) p q) := by
  have hn := hB.nP_le
  unfold f_X12_farOf f_X12_farOf_b0
  simp only [oM, if_true, gM, obs, hR.at 113 20 118 rfl]
  rw [alC (by omega) (by omega), w32_in (z := p - q) (by omega) (by omega), iabs_in (by omega) (by omega)]
  simp only [obs, hC, Int.reduceToNat]
  have h1 : 0 ≤ ab (p - q) ∧ ab (p - q) < 10 := by unfold ab; split <;> omega
  rw [w32_in (by omega) (by omega)]
  rfl
theorem ds_le {n p q : Int} (hn : 0 ≤ n ∧ n ≤ 10) (hp : 0 ≤ p ∧ p < 10) (hq : 0 ≤ q ∧ q < 10) : -10 ≤ ds n p q ∧ ds n p q ≤ 10 := by
  have h1 : 0 ≤ ab (p - q) ∧ ab (p - q) < 10 := by unfold ab; split <;> omega
  unfold ds mi
  split <;> omega
theorem m_mercyOf_l {p : Nat} {x : Int} (hR : Ref σ) (hC : σ 118 = B) (hB : BV B) (hx : -100 ≤ x ∧ x ≤ 100) : f_X12_mercyOf_h30 FU 113 p (x + cs B p 0) ((0 : Nat) : Int) σ = some (x + cs B p (nK B)) := by
  have hk := hB.nK_le
  refine up_all (Q := fun n i => f_X12_mercyOf_h30 n 113 p (x + cs B p i) (i : Int) σ = some (x + cs B p (nK B))) (nK B) (fun n => ?_) (fun n i hi ih => ?_) (by unfold FU; omega)
  · rw [hs_X12_mercyOf_h30]
    unfold f_X12_mercyOf_b30
    simp only [gM, obs, hR.at 113 20 118 rfl]
    rw [alC (by omega) (by omega)]
    simp only [obs, hC, Int.reduceToNat]
    rw [if_pos (by omega)]
  · rw [hs_X12_mercyOf_h30]
    unfold f_X12_mercyOf_b30 f_X12_mercyOf_b76 f_X12_mercyOf_b78
    simp only [gM, obs, hR.at 113 20 118 rfl]
    rw [alC (by omega) (by omega), w32_in (z := 47 + (i : Int)) (by omega) (by omega), w32_in (z := 51 + (i : Int)) (by omega) (by omega), alC (by omega) (by omega), alC (by omega) (by omega)]
    simp only [obs, hC, Int.reduceToNat]
    rw [if_neg (by omega), w32_in (z := (i : Int) + 1) (by omega) (by omega), show (47 + (i : Int)).toNat = 47 + i by omega, show (51 + (i : Int)).toNat = 51 + i by omega]
    have l1 := cs_le B p i
    rw [cs_s] at ih
    by_cases q : B (47 + i) = p
    · simp only [q, if_true] at ih ⊢
      by_cases q1 : B (51 + i) = 1
      · simp only [q1, if_true] at ih ⊢
        rw [w32_in (by omega) (by omega), Int.add_assoc]
        exact ih
      · simp only [q1, if_false] at ih ⊢
        rw [w32_in (by omega) (by omega), Int.add_assoc]
        exact ih
    · simp only [q, if_false] at ih ⊢
      rw [Int.add_zero] at ih
      exact ih
theorem m_mercyOf {p : Nat} {q : Int} (hR : Ref σ) (hC : σ 118 = B) (hB : BV B) (hp : p < 10) (hq : 0 ≤ q ∧ q < 10) : f_X12_mercyOf 113 p q σ = some (mc B p q) := by
  have hn := hB.nP_le
  have hd := @ds_le (B 0) p q (by omega) (by omega) hq
  obtain ⟨c1, c2, c3, c4⟩ := hB.2.2.2.2.1 p hp
  unfold f_X12_mercyOf f_X12_mercyOf_b0
  simp only [oM, if_true, gM, obs, hR.at 113 20 118 rfl]
  rw [w32_in (z := 17 + (p : Int)) (by omega) (by omega)]
  rw [w32_in (z := 27 + (p : Int)) (by omega) (by omega)]
  rw [alC (i := 17 + (p : Int)) (by omega) (by omega)]
  rw [alC (i := 27 + (p : Int)) (by omega) (by omega)]
  simp only [obs]
  rw [m_farOf hR hC hB (by omega) hq]
  simp only [obs, hC]
  rw [show (17 + (p : Int)).toNat = 17 + p by omega, show (27 + (p : Int)).toNat = 27 + p by omega, w32_al, w32_in (by omega) (by omega)]
  have := @m_mercyOf_l σ B p (B (17 + p) + B (27 + p) + ds (B 0) p q) hR hC hB (by omega)
  rw [show cs B p 0 = 0 from rfl, Int.add_zero, Int.natCast_zero] at this
  rw [this]
  unfold mc
  rfl
theorem m_turnedFrom {g q : Int} (hR : Ref σ) (hC : σ 118 = B) (hB : BV B) (hq : 0 ≤ q ∧ q < 10) : f_X12_turnedFrom 113 g q σ = some ((tS B g q : Nat) : Int) := by
  have hn := hB.nP_le
  unfold f_X12_turnedFrom f_X12_turnedFrom_b0
  rw [if_pos oM]
  refine up_all (Q := fun n i => f_X12_turnedFrom_h5 n 113 g q ((setOf (tB B g q) i : Nat) : Int) (i : Int) σ = some ((tS B g q : Nat) : Int)) (nP B) (fun n => ?_) (fun n i hi ih => ?_) (by unfold FU; omega)
  · rw [hs_X12_turnedFrom_h5]
    unfold f_X12_turnedFrom_b5
    simp only [gM, obs, hR.at 113 20 118 rfl]
    rw [alC (by omega) (by omega)]
    simp only [obs, hC, Int.reduceToNat]
    rw [if_pos (by omega)]
    rfl
  · rw [hs_X12_turnedFrom_h5]
    unfold f_X12_turnedFrom_b5 f_X12_turnedFrom_b44 f_X12_turnedFrom_b45
    simp only [gM, obs, hR.at 113 20 118 rfl]
    rw [alC (by omega) (by omega)]
    simp only [obs, hC, Int.reduceToNat, m_isStoneAt hR hC (show i < 1000 by omega), m_mercyOf hR hC hB (show i < 10 by omega) hq]
    rw [if_neg (by omega), w32_in (z := (i : Int) + 1) (by omega) (by omega), ior_0 (by have := @setOf_lt' (tB B g q) i (by omega); omega)]
    by_cases hs : stn B i = true
    · rw [if_pos hs, if_neg (by omega)]
      by_cases hg : g ≤ mc B i q
      · rw [if_pos hg]
        rw [nor_set (by unfold tB; simp; intro; omega)] at ih
        exact ih
      · rw [if_neg hg, ior_set (by omega) (by unfold tB; rw [hs]; simp; omega)]
        exact ih
    · rw [nor_set (by unfold tB; simp [hs])] at ih
      rw [if_neg hs, if_pos rfl]
      exact ih
theorem m_isMore {s t : Nat} (hs : s < 1024) (ht : t < 1024) : f_X12_isMore 113 s t σ = some (if more s t = true then 1 else 0) := by
  unfold f_X12_isMore f_X12_isMore_b0 more
  have h1 := sz_le s
  simp only [oM, if_true, obs, s_sizeOf hs, s_sizeOf ht]
  rw [w32_in (by omega) (by omega)]
  by_cases q : sz t < 2 * sz s
  · rw [if_neg (by omega)]; simp [q]
  · rw [if_pos (by omega)]; simp [q]
theorem m_isCondemned {g : Int} {p : Nat} (hR : Ref σ) (hC : σ 118 = B) (hB : BV B) (hp : p < 10) : f_X12_isCondemned 113 g p σ = some (if cdm B g p = true then 1 else 0) := by
  have hn := hB.nP_le
  unfold f_X12_isCondemned f_X12_isCondemned_b0 cdm
  simp only [oM, if_true, obs, m_isStoneAt hR hC (show p < 1000 by omega), m_turnedFrom hR hC hB (q := (p : Int)) (g := g) (by omega), m_stones hR hC hB, m_isMore (tS_lt hB) (aS_lt hB)]
  cases stn B p <;> cases more (tS B g p) (aS B) <;> rfl
end
theorem s_refuse {σ : Mem} {v : Int} : f_X12_refuse 113 v σ = some (-1, upm σ 113 0 v) := by
  unfold f_X12_refuse f_X12_refuse_b0
  simp only [oM, pM, if_true, obs]
