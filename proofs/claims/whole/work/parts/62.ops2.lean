/-! ===== more calls that only answer ===== -/
def OkR (fx : Mem → Option Int) (fm : Mem → Option (Int × Mem)) (σ : Mem) : Prop := ∃ r σ2, fx σ = some r ∧ fm σ = some (r, σ2) ∧ Rel σ2
theorem Rel.thrown {σ : Mem} (h : Rel σ) : Rel (upm σ 113 1 0) := h.stat (Fr.up (by decide)) (by rw [upm_app, upm_app, if_neg (by decide), if_neg (by decide)]; exact h.2.1)
section
variable {σ : Mem} {B D : Nat → Int}
theorem ok_status (h : Rel σ) : OkR (f_X11_status 0) (f_X12_status 113) σ := by
  refine ⟨σ 0 19, upm σ 113 1 0, ?_, ?_, h.thrown⟩
  · unfold f_X11_status f_X11_status_b0
    simp only [oX, if_true, gX, obs]
  · unfold f_X12_status f_X12_status_b0
    simp only [oM, if_true, gM, pM, obs]
    rw [upm_app, if_neg (by decide), h.2.1]
theorem oF : isO Sh 2 59 = true := rfl
theorem gF {j : Nat} : gf Sh σ 2 59 j = some (σ 59 j) := gf_at oF
theorem pF {j : Nat} {v : Int} : pf Sh σ 2 59 j v = some (upm σ 59 j v) := pf_at oF
theorem oTx : isO Sh 7 3 = true := rfl
theorem gT {j : Nat} : gf Sh σ 7 3 j = some (σ 3 j) := gf_at oTx
theorem pT {j : Nat} {v : Int} : pf Sh σ 7 3 j v = some (upm σ 3 j v) := pf_at oTx
theorem oLf : isO Sh 4 40 = true := rfl
theorem gLf {j : Nat} : gf Sh σ 4 40 j = some (σ 40 j) := gf_at oLf
theorem ok_top (h : Rel σ) : OkR (f_X11_top 0) (f_X12_top 113) σ := by
  refine ⟨σ 59 0, upm σ 113 1 0, ?_, ?_, h.thrown⟩
  · unfold f_X11_top f_X11_top_b0
    simp only [oX, if_true, gX, obs, h.1.at 0 15 59 rfl, gF]
  · unfold f_X12_top f_X12_top_b0
    simp only [oM, if_true, gM, pM, obs]
    rw [upm_app, if_neg (by decide), h.2.2.1.1]
theorem ok_bottom (h : Rel σ) : OkR (f_X11_bottom 0) (f_X12_bottom 113) σ := by
  refine ⟨σ 59 1, upm σ 113 1 0, ?_, ?_, h.thrown⟩
  · unfold f_X11_bottom f_X11_bottom_b0
    simp only [oX, if_true, gX, obs, h.1.at 0 15 59 rfl, gF]
  · unfold f_X12_bottom f_X12_bottom_b0
    simp only [oM, if_true, gM, pM, obs]
    rw [upm_app, if_neg (by decide), h.2.2.1.2]
theorem ok_fault {v : Int} (h : Rel σ) : OkR (f_X11_fault 0 v) (f_X12_fault 113 v) σ := by
  have h5 := h.2.2.2.2.2.1
  refine ⟨if v = 0 then σ 3 10 else if v = 1 then σ 3 11 else -1, upm σ 113 1 0, ?_, ?_, h.thrown⟩
  · unfold f_X11_fault f_X11_fault_b0
    simp only [oX, if_true, gX, obs, h.1.at 0 2 3 rfl, gT]
    grind
  · unfold f_X12_fault f_X12_fault_b0
    simp only [oM, if_true, gM, pM, obs]
    rw [show upm σ 113 1 0 113 10 = σ 113 10 by rw [upm_app, if_neg (by decide)], show upm σ 113 1 0 113 11 = σ 113 11 by rw [upm_app, if_neg (by decide)], h5.1, h5.2]
    grind
/-! many -/
def vMany (B : Nat → Int) (v : Int) : Int := if v = 0 then B 0 else if v = 1 then (sz (aS B) : Nat) else if v < 8 then B (v - 1).toNat else if v = 8 then (aS B : Nat) else ms B (nP B)
theorem x_many_b0 {v : Int} (h : XH σ B D) (hv : 0 ≤ v ∧ v ≤ 9) : f_X11_many_b16 0 v 0 0 σ = some (vMany B v, upm σ 0 19 0) := by
  unfold f_X11_many_b16 vMany
  obtain ⟨h1, h2, h3, h4, h5, h6, h7, h8⟩ := (h.st (v := 0)).2.1.1
  simp only [s_ref0, obs, if_true, gX, h.st.1.at 0 3 5 rfl, w_g, w_stoneCount h.st, w_mossOfAll h.st, h1, h2, h3, h4, h5, h6, h7, h8]
  rcases (show v = 0 ∨ v = 1 ∨ v = 2 ∨ v = 3 ∨ v = 4 ∨ v = 5 ∨ v = 6 ∨ v = 7 ∨ v = 8 ∨ v = 9 by omega) with rfl | rfl | rfl | rfl | rfl | rfl | rfl | rfl | rfl | rfl <;> rfl
def yIn (v a b y : Int) : Int := if a ≤ v ∧ v ≤ b then 0 else y
theorem x_many {v : Int} (h : XH σ B D) : XO (f_X11_many 0 v) σ (if yIn v 0 9 5 = 0 then vMany B v else -1) (yIn v 0 9 5) := by
  apply XO.mk
  unfold f_X11_many f_X11_many_b0 f_X11_many_b11 yIn
  have e0 := @x_many_b0 σ B D v h
  have e5 : f_X11_many_b16 0 v 5 0 σ = some (-1, upm σ 0 19 5) := by
    unfold f_X11_many_b16
    simp only [s_refn (show ¬ (5 : Int) = 0 by decide), obs, Int.one_ne_zero, if_false]
  rw [if_pos oX]
  grind
theorem m_many {v : Int} (h : MH σ B) : MO (f_X12_many 113 v) σ (if yIn v 0 9 5 = 0 then vMany B v else -1) (yIn v 0 9 5) := by
  apply MO.mkr
  have hR := h.rf.1
  have hC := h.rf.2.1
  unfold f_X12_many f_X12_many_b0
  simp only [oM, if_true, pM, obs, rf2_e, s_isIn, s_refuse, gM, hR.at 113 20 118 rfl, m_stones hR hC h.2.2, m_mossAll hR hC h.2.2, s_sizeOf (aS_lt h.2.2)]
  rw [alC (by omega) (by omega)]
  simp only [obs, hC, Int.reduceToNat]
  by_cases hv : 0 ≤ v ∧ v ≤ 9
  · unfold yIn
    rw [if_pos hv, if_pos hv]
    unfold vMany
    by_cases h1 : v < 8
    · by_cases h0 : v = 0
      · subst h0; rfl
      · rw [w32_in (by omega) (by omega), alC (by omega) (by omega), hC]
        simp only [obs]
        grind
    · rcases (show v = 8 ∨ v = 9 by omega) with rfl | rfl <;> rfl
  · unfold yIn
    rw [if_neg hv, if_neg hv]
    rfl
theorem ok_many {v : Int} (h : Rel σ) : Ok (f_X11_many 0 v) (f_X12_many 113 v) σ := Ok.mk h (x_many h.xh) fun _ h1 _ => m_many h1
/-! stone -/
def vStone (B : Nat → Int) (p : Nat) (w : Int) : Int := if w = 3 then (setOf (cw B p) (nK B) : Nat) else if w = 4 then mc B p p else if w = 0 then B (17 + p) else if w = 1 then B (27 + p) else B (37 + p)
def yStone (B : Nat → Int) (p w : Int) : Int := yStn B p (0 ≤ w ∧ w ≤ 4)
theorem yStn0 {p : Int} {c : Prop} [Decidable c] (h : yStn B p c = 0) : isP B p ∧ c ∧ stn B p.toNat = true := by unfold yStn at h; grind
theorem yStn_cg {p : Int} {c d : Prop} [Decidable c] [Decidable d] (h : c ↔ d) : yStn B p c = yStn B p d := by unfold yStn; grind
theorem x_stone_b {p w c : Int} (h : XH σ B D) (hc : ¬ c = 0 ↔ 0 ≤ w ∧ w ≤ 4) : f_X11_stone_b17 0 p w c p 0 0 σ = some (if yStone B p w = 0 then vStone B p.toNat w else -1, upm σ 0 19 (yStone B p w)) := by
  unfold f_X11_stone_b17
  simp only [x_stoneWhy h, obs, yStn_cg (B := B) (p := p) hc, show yStn B p (0 ≤ w ∧ w ≤ 4) = yStone B p w from rfl]
  by_cases hy : yStone B p w = 0
  · obtain ⟨h1, h2, h3⟩ := yStn0 hy
    obtain ⟨k, rfl, hk, h10⟩ := isP_nat h1 h.2.2
    rw [Int.toNat_natCast] at h3
    obtain ⟨q1, q2, q3⟩ := (h.st (v := 0)).2.1.2.1 k hk
    simp only [hy, s_ref0, obs, if_true, gX, h.st.1.at 0 3 5 rfl, w_g, h.st.1.at 5 2 6 rfl, h.st.1.at 5 3 7 rfl, h.st.1.at 5 4 8 rfl, w_crowsOn h.st, Int.toNat_natCast]
    rw [w_a6 (by omega) (by omega), w_a7 (by omega) (by omega), w_a8 (by omega) (by omega), w_mercyFor h.st hk h3 (by omega)]
    simp only [obs, Int.toNat_natCast, (q1 h3).1, (q1 h3).2.1, (q1 h3).2.2]
    unfold vStone
    rcases (show w = 0 ∨ w = 1 ∨ w = 2 ∨ w = 3 ∨ w = 4 by omega) with rfl | rfl | rfl | rfl | rfl <;> rfl
  · simp only [s_refn hy, obs, hy, if_false, Int.one_ne_zero]
theorem x_stone {p w : Int} (h : XH σ B D) : XO (f_X11_stone 0 p w) σ (if yStone B p w = 0 then vStone B p.toNat w else -1) (yStone B p w) := by
  apply XO.mk
  unfold f_X11_stone f_X11_stone_b0 f_X11_stone_b16
  rw [if_pos oX]
  have a0 := @x_stone_b σ B D p w 0 h
  have a1 := @x_stone_b σ B D p w 1 h
  grind
theorem m_stone {p w : Int} (h : MH σ B) : MO (f_X12_stone 113 p w) σ (if yStone B p w = 0 then vStone B p.toNat w else -1) (yStone B p w) := by
  apply MO.mkr
  have hR := h.rf.1
  have hC := h.rf.2.1
  unfold f_X12_stone f_X12_stone_b0
  simp only [oM, if_true, pM, obs, rf2_e, s_isIn, s_refuse, gM, hR.at 113 20 118 rfl, m_isPlaceAt hR hC h.2.2, m_crowsOn hR hC h.2.2]
  unfold yStone yStn
  by_cases hp : isP B p
  · obtain ⟨k, rfl, hk, h10⟩ := isP_nat hp h.2.2
    unfold isP at hp
    have hd := @m_isStoneAt (rf2 σ) B k hR hC (by omega)
    have hm := @m_mercyOf (rf2 σ) B k k hR hC h.2.2 h10 (by omega)
    simp only [hd, hm, obs, hp, isP, Int.toNat_natCast, and_self, if_true, if_false, not_true, Int.one_ne_zero]
    by_cases hw : 0 ≤ w ∧ w ≤ 4
    · simp only [hw, and_self, if_true, not_true, if_false, Int.one_ne_zero]
      by_cases hs : stn B k = true
      · simp only [hs, if_true, Int.one_ne_zero, if_false]
        unfold vStone
        rcases (show w = 0 ∨ w = 1 ∨ w = 2 ∨ w = 3 ∨ w = 4 by omega) with rfl | rfl | rfl | rfl | rfl
        · simp (disch := omega) only [w32_in, alC, hC, obs]; simp [show (17 + (k : Int)).toNat = 17 + k by omega]
        · simp (disch := omega) only [w32_in, alC, hC, obs]; simp [show (27 + (k : Int)).toNat = 27 + k by omega]
        · simp (disch := omega) only [w32_in, alC, hC, obs]; simp [show (37 + (k : Int)).toNat = 37 + k by omega]
        · rfl
        · rfl
      · simp only [hs, if_true, if_false, Bool.false_eq_true]; rfl
    · simp only [hw, if_true, if_false, not_false_eq_true]; rfl
  · unfold isP at hp
    simp only [hp, isP, if_true, if_false, not_false_eq_true]
    rfl
theorem ok_stone {p w : Int} (h : Rel σ) : Ok (f_X11_stone 0 p w) (f_X12_stone 113 p w) σ := Ok.mk h (x_stone h.xh) fun _ h1 _ => m_stone h1
/-! crow -/
def yCrow (B : Nat → Int) (w v : Int) : Int := if ¬ (0 ≤ w ∧ w < B 1) then 2 else if ¬ (0 ≤ v ∧ v ≤ 1) then 5 else if v = 0 ∧ B (47 + w.toNat) = -1 then 8 else 0
def vCrow (B : Nat → Int) (w v : Int) : Int := if v = 0 then B (47 + w.toNat) else B (51 + w.toNat)
theorem x_crow_b {w v y : Int} (h : XH σ B D) (hy : y = 0 → (0 ≤ w ∧ w < B 1) ∧ (v = 0 ∨ v = 1)) : f_X11_crow_b52 0 w v y σ = some (if y = 0 then vCrow B w v else -1, upm σ 0 19 y) := by
  unfold f_X11_crow_b52
  by_cases q : y = 0
  · subst q
    obtain ⟨h1, h2⟩ := hy rfl
    obtain ⟨k, rfl⟩ := nat_of h1.1
    have hk := h.2.2.nK_le
    obtain ⟨q1, q2⟩ := (h.st (v := 0)).2.1.2.2.1 k (by omega)
    have q3 := (h.2.2.2.2.2.2.2 k (by omega)).1
    simp only [s_ref0, obs, if_true, gX, h.st.1.at 0 3 5 rfl, w_g, h.st.1.at 5 8 11 rfl, h.st.1.at 5 9 12 rfl]
    rw [w_a11 (by omega) (by omega), w_a12 (by omega) (by omega)]
    simp only [obs, Int.toNat_natCast, q1, q2]
    unfold vCrow
    rw [Int.toNat_natCast]
    grind
  · simp only [s_refn q, obs, q, if_false, Int.one_ne_zero]
theorem x_crow {w v : Int} (h : XH σ B D) : XO (f_X11_crow 0 w v) σ (if yCrow B w v = 0 then vCrow B w v else -1) (yCrow B w v) := by
  apply XO.mk
  unfold f_X11_crow f_X11_crow_b0 f_X11_crow_b27
  have a0 := @x_crow_b σ B D w v 0 h
  have a2 := @x_crow_b σ B D w v 2 h (by omega)
  have a5 := @x_crow_b σ B D w v 5 h (by omega)
  have a8 := @x_crow_b σ B D w v 8 h (by omega)
  simp only [oX, if_true, obs, gX, h.1.at 0 3 5 rfl, w_isCrow h, w_g, h.1.at 5 8 11 rfl]
  unfold yCrow
  by_cases hw : 0 ≤ w ∧ w < B 1
  · obtain ⟨k, rfl⟩ := nat_of hw.1
    have hk := h.2.2.nK_le
    obtain ⟨q1, q2⟩ := h.2.1.2.2.1 k (by omega)
    rw [w_a11 (by omega) (by omega)]
    simp only [obs, Int.toNat_natCast, show σ 11 k = B (47 + k) from q1]
    grind
  · grind
theorem m_crow {w v : Int} (h : MH σ B) : MO (f_X12_crow 113 w v) σ (if yCrow B w v = 0 then vCrow B w v else -1) (yCrow B w v) := by
  apply MO.mkr
  have hR := h.rf.1
  have hC := h.rf.2.1
  unfold f_X12_crow f_X12_crow_b0
  simp only [oM, if_true, pM, obs, rf2_e, s_isIn, s_refuse, gM, hR.at 113 20 118 rfl, m_isCrowAt hR hC h.2.2]
  unfold yCrow vCrow
  by_cases hw : 0 ≤ w ∧ w < B 1
  · obtain ⟨k, rfl⟩ := nat_of hw.1
    have hk := h.2.2.nK_le
    have q3 := (h.2.2.2.2.2.2.2 k (by omega)).2
    simp (disch := omega) only [w32_in, alC, hC, obs]
    rw [show (47 + (k : Int)).toNat = 47 + k by omega, show (51 + (k : Int)).toNat = 51 + k by omega, Int.toNat_natCast]
    grind
  · grind
theorem ok_crow {w v : Int} (h : Rel σ) : Ok (f_X11_crow 0 w v) (f_X12_crow 113 w v) σ := Ok.mk h (x_crow h.xh) fun _ h1 _ => m_crow h1
end
