/-! ===== the calls that change the wall: judge, year, carve, clear, open, mend, fly, hatch, rule ===== -/
section
variable {σ σ' : Mem} {B B' D D' : Nat → Int} {fx fm : Mem → Option (Int × Mem)} {r y : Int}
def XW (fx : Mem → Option (Int × Mem)) (σ : Mem) (r y : Int) (B' D' : Nat → Int) : Prop := ∃ σ1, fx σ = some (r, σ1) ∧ Fr [0, 1, 6] σ σ1 ∧ σ1 0 19 = y ∧ WR σ1 5 B' D'
def MW (fm : Mem → Option (Int × Mem)) (σ : Mem) (r y : Int) (B' D' : Nat → Int) : Prop := ∃ σ1, fm σ = some (r, σ1) ∧ Fr [11, 16, 20] σ σ1 ∧ σ1 113 0 = y ∧ σ1 118 = B' ∧ σ1 120 = D'
theorem Fp.ofW (h : Fp (wS 5) σ σ') : Fr [0, 1, 6] σ σ' := Fp.mono h fun b j q => by unfold gs; rw [gid_wS q]; decide
theorem Fr.st : Fr [0, 1, 6] σ (upm σ 0 19 y) := Fr.up (show gid 0 19 ∈ _ by decide)
theorem Ok.mkw (h : Rel σ) (hx : XW fx σ r y B' D') (hB : BV B') (h3 : B' 3 ≤ 9999) (h0 : B' 0 = σ 118 0) (h1 : σ 118 1 ≤ B' 1) (hm : ∀ τ, MH τ (σ 118) → (∀ b, 113 ≤ b → τ b = σ b) → MW fm τ r y B' D') : Ok fx fm σ := by
  obtain ⟨σ1, e1, f1, s1, w1⟩ := hx
  have hi := f1.hi (by decide)
  obtain ⟨σ2, e2, f2, s2, c2, d2⟩ := hm σ1 ⟨f1.ref (by decide) h.1, hi 118 (by omega), h.xh.2.2⟩ hi
  have lo := f2.lo (by decide)
  refine ⟨r, σ1, σ2, e1, e2, h.step [0, 1, 6, 11, 16, 20] ((f1.mono (by decide)).trans (f2.mono (by decide))) (by decide) ?_ (fun q => absurd q (by decide)) (fun q => absurd q (by decide)) (fun q => absurd q (by decide)) (fun q => absurd q (by decide)) (fun _ => .inl ⟨⟨?_, by rw [c2]; exact hB, by rw [c2]; exact h3⟩, by rw [c2]; exact h0, by rw [c2]; exact h1⟩) (fun q => absurd q (by decide)) (fun q => absurd q (by decide)) (fun q => absurd q (by decide))⟩
  · rw [s2, lo 0 (by omega), s1]
  · rw [c2, d2]
    exact w1.cg (fun b j q1 q2 => by rw [lo b (by omega)]) (fun _ _ => rfl) (fun _ _ => rfl) hB
theorem MW.mk (h : MH σ B) (e : fm σ = some (r, setc (rf2 σ) 118 B')) (h55 : ∀ j, 55 ≤ j → B' j = B j) : MW fm σ r 0 B' (σ 120) := by
  refine ⟨_, e, ?_, ?_, setc_same, ?_⟩
  · refine Fr.trans (Fr.mono (fr_rf (v := 0)) (by decide)) (Fr.setc fun j hj => ?_)
    rw [gid118]
    by_cases q : j < 55
    · rw [if_pos q]; decide
    · exact absurd (by rw [h55 j (by omega), ← h.2.1]; rfl) hj
  · rw [setc_ne (by decide)]; rfl
  · rw [setc_ne (by decide)]; rfl
/-! rule -/
theorem ok_rule {v : Int} (h : Rel σ) : Ok (f_X11_rule 0 v) (f_X12_rule 113 v) σ := by
  have hx := h.xh
  by_cases hv : 0 ≤ v ∧ v ≤ 16
  · refine Ok.mkw (r := 1) (y := 0) (B' := up1 (σ 118) 2 v) (D' := σ 120) h ⟨upm (upm σ 0 19 0) 5 11 v, ?_, ?_, ?_, ?_⟩ (BV_od hx.2.2 hv) h.2.2.2.2.2.2.1.2.2 rfl (Int.le_refl _) ?_
    · unfold f_X11_rule f_X11_rule_b0 f_X11_rule_b11 f_X11_rule_b16
      simp only [oX, if_true, obs, s_ref0, gX, hx.st.1.at 0 3 5 rfl, w_p]
      rw [if_neg (by omega), if_pos (by omega)]
    · exact Fr.st.then (show gid 5 11 ∈ _ by decide)
    · rfl
    · exact hx.st.2.1.scal hx.2.2 (k := 2) (by omega)
    · intro τ ht hi
      have := MW.mk (fm := f_X12_rule 113 v) (r := 1) (B' := up1 (σ 118) 2 v) ht ?_ (fun j hj => up1_ne (by omega))
      · rw [hi 120 (by omega)] at this
        exact this
      · unfold f_X12_rule f_X12_rule_b0
        simp only [oM, if_true, pM, gM, obs, rf2_e, s_isIn, hv, and_self, Int.one_ne_zero, if_false, ht.rf.1.at 113 20 118 rfl]
        rw [stC (by omega) (by omega), upm_setc, ht.rf.2.1]
        rfl
  · refine Ok.mk (r := 0) (y := 5) h (XO.mk ?_) fun τ ht _ => MO.mkr ?_
    · unfold f_X11_rule f_X11_rule_b0 f_X11_rule_b11 f_X11_rule_b16
      simp only [oX, if_true, obs, s_refn (show ¬ (5 : Int) = 0 by decide), Int.one_ne_zero, if_false]
      grind
    · unfold f_X12_rule f_X12_rule_b0
      simp only [oM, if_true, pM, gM, obs, rf2_e, s_isIn, hv, if_false, s_no, bz0]
      rfl
/-! carve -/
theorem ok_carve {p l : Int} (h : Rel σ) : Ok (f_X11_carve 0 p l) (f_X12_carve 113 p l) σ := by
  have hx := h.xh
  have hB := hx.2.2
  have ec : (¬ (if 0 ≤ l ∧ l ≤ 30 then (1 : Int) else 0) = 0) ↔ (0 ≤ l ∧ l ≤ 30) := by grind
  by_cases hy : yStn (σ 118) p (0 ≤ l ∧ l ≤ 30) = 0
  · obtain ⟨q1, q2, q3⟩ := yStn0 hy
    obtain ⟨k, rfl, hk, h10⟩ := isP_nat q1 hB
    rw [Int.toNat_natCast] at q3
    have hn := hB.nP_le
    refine Ok.mkw (r := σ 118 (17 + k)) (y := 0) (B' := up1 (σ 118) (17 + k) l) (D' := σ 120) h ⟨upm (upm σ 0 19 0) 6 k l, ?_, ?_, ?_, ?_⟩ (BV_ar (k := 1) hB (by omega) h10 q2 (by omega) (by omega)) (by rw [up1_ne (by omega)]; exact h.2.2.2.2.2.2.1.2.2) (up1_ne (by omega)) (by rw [up1_ne (by omega)]; exact Int.le_refl _) ?_
    · unfold f_X11_carve f_X11_carve_b0
      simp only [oX, if_true, obs, s_isLenient, x_stoneWhy hx, yStn_cg (B := σ 118) (p := (k : Int)) ec, hy, s_ref0, gX, hx.st.1.at 0 3 5 rfl, w_g, hx.st.1.at 5 2 6 rfl]
      rw [w_a6 (by omega) (by omega), w_s6 (by omega) (by omega)]
      simp only [obs, Int.toNat_natCast]
      rw [((hx.st.2.1.2.1 k hk).1 q3).1]
    · exact Fr.st.then (by rw [gid_wS (wS_k (.inl rfl) (k := 1) (by omega) (by omega))]; decide)
    · rfl
    · exact hx.st.2.1.arr (k := 1) hB (by omega) hk q3
    · intro τ ht hi
      have := MW.mk (fm := f_X12_carve 113 k l) (r := σ 118 (17 + k)) (B' := up1 (σ 118) (17 + k) l) ht ?_ (fun j hj => up1_ne (by omega))
      · rw [hi 120 (by omega)] at this
        exact this
      · have e1 : (0 : Int) ≤ k ∧ (k : Int) < σ 118 0 := by omega
        unfold f_X12_carve f_X12_carve_b0
        simp only [oM, if_true, pM, gM, obs, rf2_e, s_isIn, q2, and_self, Int.one_ne_zero, if_false, ht.rf.1.at 113 20 118 rfl, m_isPlaceAt ht.rf.1 ht.rf.2.1 ht.rf.2.2, e1, m_isStoneAt ht.rf.1 ht.rf.2.1 (show k < 1000 by omega), q3]
        rw [w32_in (by omega) (by omega), stC (by omega) (by omega), alC (by omega) (by omega), upm_setc, ht.rf.2.1]
        simp only [obs, show (17 + (k : Int)).toNat = 17 + k by omega]
  · refine Ok.mk (r := -1) (y := yStn (σ 118) p (0 ≤ l ∧ l ≤ 30)) h (XO.mk ?_) fun τ ht _ => MO.mkr ?_
    · unfold f_X11_carve f_X11_carve_b0
      simp only [oX, if_true, obs, s_isLenient, x_stoneWhy hx, yStn_cg (B := σ 118) (p := p) ec, s_refn hy, Int.one_ne_zero, if_false]
    · unfold f_X12_carve f_X12_carve_b0
      simp only [oM, if_true, pM, gM, obs, rf2_e, s_isIn, s_refuse, m_isPlaceAt ht.rf.1 ht.rf.2.1 ht.rf.2.2]
      unfold yStn at hy ⊢
      by_cases hp : isP (σ 118) p
      · obtain ⟨k, rfl, hk, h10⟩ := isP_nat hp hB
        simp only [m_isStoneAt ht.rf.1 ht.rf.2.1 (show k < 1000 by omega), obs, Int.toNat_natCast] at hy ⊢
        unfold isP at *
        grind
      · unfold isP at *
        grind
/-! clear -/
def yClr (B : Nat → Int) (p : Int) : Int := if ¬ isP B p then 2 else if stn B p.toNat = true ∧ ¬ B (27 + p.toNat) = 0 then 0 else 8
theorem x_clear_b {p w : Int} (hx : XH σ B D) (hw : ¬ w = 0) : f_X11_clear_b26 0 p w σ = some (-1, upm σ 0 19 w) := by
  unfold f_X11_clear_b26
  simp only [s_refn hw, obs, Int.one_ne_zero, if_false]
theorem ok_clear {p : Int} (h : Rel σ) : Ok (f_X11_clear 0 p) (f_X12_clear 113 p) σ := by
  have hx := h.xh
  have hB := hx.2.2
  have ec : (¬ (1 : Int) = 0) ↔ True := by decide
  have hn := hB.nP_le
  by_cases hp : isP (σ 118) p
  · obtain ⟨k, rfl, hk, h10⟩ := isP_nat hp hB
    have e1 : (0 : Int) ≤ k ∧ (k : Int) < σ 118 0 := by omega
    by_cases q : stn (σ 118) k = true ∧ ¬ σ 118 (27 + k) = 0
    · have hy : yStn (σ 118) k True = 0 := by unfold yStn; simp [hp, q.1]
      refine Ok.mkw (r := σ 118 (27 + k)) (y := 0) (B' := up1 (σ 118) (27 + k) 0) (D' := σ 120) h ⟨upm (upm σ 0 19 0) 7 k 0, ?_, ?_, ?_, ?_⟩ (BV_ar (k := 2) hB (by omega) h10 (by omega) (by omega) (by omega)) (by rw [up1_ne (by omega)]; exact h.2.2.2.2.2.2.1.2.2) (up1_ne (by omega)) (by rw [up1_ne (by omega)]; exact Int.le_refl _) ?_
      · have v1 := ((hx.2.1.2.1 k hk).1 q.1).2.1
        have v2 := (((hx.st (v := 0)).2.1.2.1 k hk).1 q.1).2.1
        unfold f_X11_clear f_X11_clear_b0 f_X11_clear_b26
        simp only [oX, if_true, obs, x_stoneWhy hx, yStn_cg (B := σ 118) (p := (k : Int)) ec, hy, s_ref0, gX, hx.1.at 0 3 5 rfl, hx.st.1.at 0 3 5 rfl, w_g, hx.1.at 5 3 7 rfl, hx.st.1.at 5 3 7 rfl]
        rw [w_a7 (by omega) (by omega), w_a7 (by omega) (by omega), w_s7 (by omega) (by omega)]
        simp only [obs, Int.toNat_natCast, show σ 7 k = σ 118 (27 + k) from v1, show upm σ 0 19 0 7 k = σ 118 (27 + k) from v2, q.2, if_false]
      · exact Fr.st.then (by rw [gid_wS (wS_k (.inl rfl) (k := 2) (by omega) (by omega))]; decide)
      · rfl
      · exact hx.st.2.1.arr (k := 2) hB (by omega) hk q.1
      · intro τ ht hi
        have := MW.mk (fm := f_X12_clear 113 k) (r := σ 118 (27 + k)) (B' := up1 (σ 118) (27 + k) 0) ht ?_ (fun j hj => up1_ne (by omega))
        · rw [hi 120 (by omega)] at this
          exact this
        · unfold f_X12_clear f_X12_clear_b0
          simp only [oM, if_true, pM, gM, obs, rf2_e, and_self, Int.one_ne_zero, if_false, ht.rf.1.at 113 20 118 rfl, m_isPlaceAt ht.rf.1 ht.rf.2.1 ht.rf.2.2, e1, m_clears ht.rf h10, q, not_false_eq_true]
          rw [w32_in (by omega) (by omega), alC (by omega) (by omega), ht.rf.2.1]
          simp only [obs, show (27 + (k : Int)).toNat = 27 + k by omega]
    · refine Ok.mk (r := -1) (y := 8) h (XO.mk ?_) fun τ ht _ => MO.mkr ?_
      · have e8 := x_clear_b (p := k) hx (show ¬ (8 : Int) = 0 by decide)
        unfold f_X11_clear f_X11_clear_b0
        simp only [oX, if_true, obs, x_stoneWhy hx, yStn_cg (B := σ 118) (p := (k : Int)) ec, gX, hx.1.at 0 3 5 rfl, w_g, hx.1.at 5 3 7 rfl]
        rw [w_a7 (by omega) (by omega)]
        simp only [obs, Int.toNat_natCast]
        by_cases r : stn (σ 118) k = true
        · have v1 := ((hx.2.1.2.1 k hk).1 r).2.1
          have hy : yStn (σ 118) k True = 0 := by unfold yStn; simp [hp, r]
          have h0 : σ 118 (27 + k) = 0 := by
            by_cases z : σ 118 (27 + k) = 0
            · exact z
            · exact absurd ⟨r, z⟩ q
          simp only [hy, if_true, show σ 7 k = σ 118 (27 + k) from v1, h0]
          exact e8
        · have hy : yStn (σ 118) k True = 8 := by unfold yStn; simp [hp, r]
          simp only [hy, show ¬ (8 : Int) = 0 by decide, if_false]
          exact e8
      · unfold f_X12_clear f_X12_clear_b0
        simp only [oM, if_true, pM, gM, obs, rf2_e, and_self, Int.one_ne_zero, if_false, ht.rf.1.at 113 20 118 rfl, m_isPlaceAt ht.rf.1 ht.rf.2.1 ht.rf.2.2, e1, m_clears ht.rf h10, q, s_refuse]
        rw [w32_in (by omega) (by omega), alC (by omega) (by omega)]
        rfl
  · refine Ok.mk (r := -1) (y := 2) h (XO.mk ?_) fun τ ht _ => MO.mkr ?_
    · have e2 := x_clear_b (p := p) hx (show ¬ (2 : Int) = 0 by decide)
      have hy : yStn (σ 118) p True = 2 := by unfold yStn; simp [hp]
      unfold f_X11_clear f_X11_clear_b0
      simp only [oX, if_true, obs, x_stoneWhy hx, yStn_cg (B := σ 118) (p := p) ec, hy, show ¬ (2 : Int) = 0 by decide, if_false]
      exact e2
    · unfold isP at hp
      unfold f_X12_clear f_X12_clear_b0
      simp only [oM, if_true, pM, gM, obs, rf2_e, if_false, m_isPlaceAt ht.rf.1 ht.rf.2.1 ht.rf.2.2, hp, s_refuse]
      rfl
/-! open -/
theorem ok_open {p : Int} (h : Rel σ) : Ok (f_X11_open 0 p) (f_X12_open 113 p) σ := by
  have hx := h.xh
  have hB := hx.2.2
  have ec : (¬ (1 : Int) = 0) ↔ True := by decide
  have hn := hB.nP_le
  by_cases hy : yStn (σ 118) p True = 0
  · obtain ⟨q1, q2, q3⟩ := yStn0 hy
    obtain ⟨k, rfl, hk, h10⟩ := isP_nat q1 hB
    rw [Int.toNat_natCast] at q3
    have e1 : (0 : Int) ≤ k ∧ (k : Int) < σ 118 0 := by omega
    obtain ⟨ρ, g1, g2, g3⟩ := x_makeGap (a := 5) (p := k) (.inl rfl) (hx.st (v := 0)).1 hx.st.2.1 hB.bl h10
    refine Ok.mkw (r := 1) (y := 0) (B' := fallB (σ 118) k) (D' := σ 120) h ⟨ρ, ?_, Fr.trans Fr.st g3.ofW, ?_, g2⟩ (BV_fall hB h10) (by rw [fallB_o (by omega) (by omega) hB.bl]; exact h.2.2.2.2.2.2.1.2.2) (fallB_o (by omega) (by omega) hB.bl) (by rw [fallB_o (by omega) (by omega) hB.bl]; exact Int.le_refl _) ?_
    · unfold f_X11_open f_X11_open_b0
      simp only [oX, if_true, obs, x_stoneWhy hx, yStn_cg (B := σ 118) (p := (k : Int)) ec, hy, s_ref0, gX, hx.st.1.at 0 3 5 rfl]
      rw [show f_X9_makeGap 5 k (upm σ 0 19 0) = some ρ from g1]
      rfl
    · rw [g3 0 19 (by unfold wS; omega)]; rfl
    · intro τ ht hi
      have := MW.mk (fm := f_X12_open 113 k) (r := 1) (B' := fallB (σ 118) k) ht ?_ (fun j hj => fallB_o (by omega) (by omega) hB.bl)
      · rw [hi 120 (by omega)] at this
        exact this
      · unfold f_X12_open f_X12_open_b0
        simp only [oM, if_true, pM, gM, obs, rf2_e, and_self, Int.one_ne_zero, if_false, m_isPlaceAt ht.rf.1 ht.rf.2.1 ht.rf.2.2, e1, m_isStoneAt ht.rf.1 ht.rf.2.1 (show k < 1000 by omega), q3, m_falls ht.rf.1 ht.rf.2.1 hB.bl h10]
  · refine Ok.mk (r := 0) (y := yStn (σ 118) p True) h (XO.mk ?_) fun τ ht _ => MO.mkr ?_
    · unfold f_X11_open f_X11_open_b0
      simp only [oX, if_true, obs, x_stoneWhy hx, yStn_cg (B := σ 118) (p := p) ec, s_refn hy]
      rfl
    · unfold f_X12_open f_X12_open_b0
      simp only [oM, if_true, pM, gM, obs, rf2_e, s_no, bz0, m_isPlaceAt ht.rf.1 ht.rf.2.1 ht.rf.2.2]
      unfold yStn at hy ⊢
      by_cases hp : isP (σ 118) p
      · obtain ⟨k, rfl, hk, h10⟩ := isP_nat hp hB
        simp only [m_isStoneAt ht.rf.1 ht.rf.2.1 (show k < 1000 by omega), obs, Int.toNat_natCast] at hy ⊢
        unfold isP at *
        grind
      · unfold isP at *
        grind
/-! mend -/
def yMnd (B : Nat → Int) (p l s : Int) : Int := if ¬ isP B p then 2 else if ¬ ((0 ≤ l ∧ l ≤ 30) ∧ 1 ≤ s ∧ s ≤ 9) then 5 else if stn B p.toNat = true then 9 else 0
theorem x_mend_b {p l s w : Int} (hw : ¬ w = 0) : f_X11_mend_b61 0 p l s w σ = some (0, upm σ 0 19 w) := by
  unfold f_X11_mend_b61
  simp only [s_refn hw, obs, Int.one_ne_zero, if_false]
theorem x_mend_e {p l s : Int} (hx : XH σ B D) : f_X11_mend 0 p l s σ = f_X11_mend_b61 0 p l s (yMnd B p l s) σ := by
  unfold f_X11_mend f_X11_mend_b0 f_X11_mend_b39 yMnd isP
  simp only [oX, if_true, obs, gX, hx.1.at 0 3 5 rfl, w_isPlace hx, w_isStone hx, s_isLenient]
  grind
theorem ok_mend {p l s : Int} (h : Rel σ) : Ok (f_X11_mend 0 p l s) (f_X12_mend 113 p l s) σ := by
  have hx := h.xh
  have hB := hx.2.2
  have hn := hB.nP_le
  by_cases hy : yMnd (σ 118) p l s = 0
  · have q : isP (σ 118) p ∧ ((0 ≤ l ∧ l ≤ 30) ∧ 1 ≤ s ∧ s ≤ 9) ∧ ¬ stn (σ 118) p.toNat = true := by unfold yMnd at hy; grind
    obtain ⟨q1, q2, q3⟩ := q
    obtain ⟨k, rfl, hk, h10⟩ := isP_nat q1 hB
    rw [Int.toNat_natCast] at q3
    have e1 : (0 : Int) ≤ k ∧ (k : Int) < σ 118 0 := by omega
    have es : ∀ j, j < 7 ∨ 47 ≤ j → setB (σ 118) k l 0 s j = σ 118 j := fun j hj => by rw [setB_at, if_neg (by omega), if_neg (by omega), if_neg (by omega), if_neg (by omega)]
    obtain ⟨ρ, g1, g2, g3⟩ := x_setStone (a := 5) (p := k) (l := l) (m := 0) (s := s) (.inl rfl) (hx.st (v := 0)).1 hx.st.2.1 hB hk
    refine Ok.mkw (r := 1) (y := 0) (B' := setB (σ 118) k l 0 s) (D' := σ 120) h ⟨ρ, ?_, Fr.trans Fr.st g3.ofW, ?_, g2⟩ (BV_setB hB hk q2.1 (by omega) q2.2) (by rw [es _ (by omega)]; exact h.2.2.2.2.2.2.1.2.2) (es _ (by omega)) (by rw [es _ (by omega)]; exact Int.le_refl _) ?_
    · rw [x_mend_e hx, hy]
      unfold f_X11_mend_b61
      simp only [obs, s_ref0, if_true, gX, hx.st.1.at 0 3 5 rfl]
      rw [show f_X9_setStone 5 k l 0 s (upm σ 0 19 0) = some ρ from g1]
      rfl
    · rw [g3 0 19 (by unfold wS; omega)]; rfl
    · intro τ ht hi
      have := MW.mk (fm := f_X12_mend 113 k l s) (r := 1) (B' := setB (σ 118) k l 0 s) ht ?_ (fun j hj => es _ (by omega))
      · rw [hi 120 (by omega)] at this
        exact this
      · have := m_sets (b := 0) (p := k) (l := l) (s := s) ht.rf.1 (by omega) h10
        unfold f_X12_mend f_X12_mend_b0
        simp only [oM, if_true, pM, gM, obs, rf2_e, and_self, Int.one_ne_zero, if_false, m_isPlaceAt ht.rf.1 ht.rf.2.1 ht.rf.2.2, e1, s_isIn, q2, m_isStoneAt ht.rf.1 ht.rf.2.1 (show k < 1000 by omega), q3]
        rw [show f_X12_sets 113 0 k l s (rf2 τ) = _ from this, ht.rf.2.1]
        simp only [obs, Nat.mul_zero, Nat.zero_add]
        rfl
  · refine Ok.mk (r := 0) (y := yMnd (σ 118) p l s) h (XO.mk ?_) fun τ ht _ => MO.mkr ?_
    · rw [x_mend_e hx, x_mend_b hy]
    · unfold f_X12_mend f_X12_mend_b0 f_X12_mend_b49
      simp only [oM, if_true, pM, gM, obs, rf2_e, s_no, bz0, m_isPlaceAt ht.rf.1 ht.rf.2.1 ht.rf.2.2, s_isIn]
      unfold yMnd at hy ⊢
      by_cases hp : isP (σ 118) p
      · obtain ⟨k, rfl, hk, h10⟩ := isP_nat hp hB
        simp only [m_isStoneAt ht.rf.1 ht.rf.2.1 (show k < 1000 by omega), obs, Int.toNat_natCast] at hy ⊢
        unfold isP at *
        grind
      · unfold isP at *
        grind
/-! fly -/
def yFly (B : Nat → Int) (w p : Int) : Int := if ¬ (0 ≤ w ∧ w < B 1) ∨ ¬ isP B p then 2 else if ¬ stn B p.toNat = true then 8 else if B (47 + w.toNat) = p then 9 else 0
theorem x_fly_b {p w v : Int} (hv : ¬ v = 0) : f_X11_fly_b64 0 w p v σ = some (-1, upm σ 0 19 v) := by
  unfold f_X11_fly_b64
  simp only [s_refn hv, obs, Int.one_ne_zero, if_false]
theorem x_fly_e {w p : Int} (hx : XH σ B D) : f_X11_fly 0 w p σ = f_X11_fly_b64 0 w p (yFly B w p) σ := by
  have hk := hx.2.2.nK_le
  unfold f_X11_fly f_X11_fly_b0 f_X11_fly_b25 yFly
  simp only [oX, if_true, obs, gX, hx.1.at 0 3 5 rfl, w_isPlace hx, w_isStone hx, w_isCrow hx, w_g, hx.1.at 5 8 11 rfl]
  unfold isP
  by_cases q : 0 ≤ w ∧ w < B 1
  · obtain ⟨j, rfl⟩ := nat_of q.1
    have c := (hx.2.1.2.2.1 j (by omega)).1
    rw [w_a11 (by omega) (by omega)]
    simp only [obs, Int.toNat_natCast, show σ 11 j = B (47 + j) from c]
    grind
  · grind
theorem ok_fly {w p : Int} (h : Rel σ) : Ok (f_X11_fly 0 w p) (f_X12_fly 113 w p) σ := by
  have hx := h.xh
  have hB := hx.2.2
  have hn := hB.nP_le
  have hk := hB.nK_le
  by_cases hy : yFly (σ 118) w p = 0
  · have q : (0 ≤ w ∧ w < σ 118 1) ∧ isP (σ 118) p ∧ stn (σ 118) p.toNat = true ∧ ¬ σ 118 (47 + w.toNat) = p := by unfold yFly at hy; grind
    obtain ⟨q0, q1, q2, q3⟩ := q
    obtain ⟨k, rfl, hk1, h10⟩ := isP_nat q1 hB
    obtain ⟨j, rfl⟩ := nat_of q0.1
    rw [Int.toNat_natCast] at q2 q3
    have e1 : (0 : Int) ≤ k ∧ (k : Int) < σ 118 0 := by omega
    have hj : j < nK (σ 118) := by omega
    obtain ⟨ρ, g1, g2, g3⟩ := x_moveCrow (a := 5) (w := j) (p := k) (.inl rfl) (hx.st (v := 0)).1 hx.st.2.1 hB hj hk1
    have c := ((hx.st (v := 0)).2.1.2.2.1 j hj).1
    have cb := (hB.2.2.2.2.2 j hj).2
    refine Ok.mkw (r := if σ 118 (47 + j) = -1 then 0 else 1) (y := 0) (B' := up1 (σ 118) (47 + j) k) (D' := σ 120) h ⟨ρ, ?_, Fr.trans Fr.st g3.ofW, ?_, g2⟩ (BV_on hB hj hk1 q2) (by rw [up1_ne (by omega)]; exact h.2.2.2.2.2.2.1.2.2) (up1_ne (by omega)) (by rw [up1_ne (by omega)]; exact Int.le_refl _) ?_
    · rw [x_fly_e hx, hy]
      unfold f_X11_fly_b64
      simp only [obs, s_ref0, if_true, gX, hx.st.1.at 0 3 5 rfl, w_g, hx.st.1.at 5 8 11 rfl]
      rw [w_a11 (by omega) (by omega), show f_X9_moveCrow 5 j k (upm σ 0 19 0) = some ρ from g1]
      simp only [obs, Int.toNat_natCast, show upm σ 0 19 0 11 j = σ 118 (47 + j) from c]
      split <;> rfl
    · rw [g3 0 19 (by unfold wS; omega)]; rfl
    · intro τ ht hi
      have := MW.mk (fm := f_X12_fly 113 j k) (r := if σ 118 (47 + j) = -1 then 0 else 1) (B' := up1 (σ 118) (47 + j) k) ht ?_ (fun j hj => up1_ne (by omega))
      · rw [hi 120 (by omega)] at this
        exact this
      · unfold f_X12_fly f_X12_fly_b0 f_X12_fly_b65
        simp only [oM, if_true, pM, gM, obs, rf2_e, and_self, Int.one_ne_zero, if_false, m_isPlaceAt ht.rf.1 ht.rf.2.1 ht.rf.2.2, e1, m_isCrowAt ht.rf.1 ht.rf.2.1 ht.rf.2.2, q0, m_isStoneAt ht.rf.1 ht.rf.2.1 (show k < 1000 by omega), q2, m_flies ht.rf (show j < 4 by omega) h10, ht.rf.1.at 113 20 118 rfl, q3, not_false_eq_true]
        rw [w32_in (by omega) (by omega), alC (by omega) (by omega), ht.rf.2.1]
        simp only [obs, show (47 + (j : Int)).toNat = 47 + j by omega]
        by_cases z : σ 118 (47 + j) = -1
        · rw [if_pos z, if_neg (by omega)]
        · rw [if_neg z, if_pos (by omega)]
  · refine Ok.mk (r := -1) (y := yFly (σ 118) w p) h (XO.mk ?_) fun τ ht _ => MO.mkr ?_
    · rw [x_fly_e hx, x_fly_b hy]
    · unfold f_X12_fly f_X12_fly_b0 f_X12_fly_b27 f_X12_fly_b65
      simp only [oM, if_true, pM, gM, obs, rf2_e, s_refuse, m_isPlaceAt ht.rf.1 ht.rf.2.1 ht.rf.2.2, m_isCrowAt ht.rf.1 ht.rf.2.1 ht.rf.2.2, ht.rf.1.at 113 20 118 rfl]
      by_cases hp : isP (σ 118) p
      · by_cases q0 : 0 ≤ w ∧ w < σ 118 1
        · obtain ⟨k, rfl, hk1, h10⟩ := isP_nat hp hB
          obtain ⟨j, rfl⟩ := nat_of q0.1
          unfold yFly isP at *
          rw [w32_in (by omega) (by omega), alC (by omega) (by omega)]
          simp only [m_isStoneAt ht.rf.1 ht.rf.2.1 (show k < 1000 by omega), m_flies ht.rf (show j < 4 by omega) h10, obs, Int.toNat_natCast] at hy ⊢
          grind
        · unfold yFly isP at *
          grind
      · unfold yFly isP at *
        grind
/-! year -/
theorem m_year_h {n : Nat} (h : MH σ B) (h3 : B 3 + n ≤ 9999) : f_X12_year_h51 FU 113 n 0 σ = some (ms (ageN B n) (nP B), setc σ 118 (ageN B n)) := by
  have b3 := h.2.2.2.2.2.1
  have := up_all (Q := fun m i => f_X12_year_h51 m 113 n (i : Int) (setc σ 118 (ageN B i)) = some (ms (ageN B n) (nP B), setc σ 118 (ageN B n))) n (fun m => ?_) (fun m i hi ih => ?_) (by unfold FU; omega)
  · rw [ageN_0 h.2.2, ← h.2.1, setc_id] at this
    rw [h.2.1] at this
    exact this
  · have h2 := h.setc (BV_ageN (n := n) h.2.2)
    rw [hs_X12_year_h51]
    unfold f_X12_year_b51
    rw [if_pos (by omega), m_mossAll h2.1 h2.2.1 h2.2.2, nP_ageN]
    rfl
  · rw [hs_X12_year_h51]
    unfold f_X12_year_b51
    rw [if_neg (by omega), m_agesN h (by omega), w32_in (by omega) (by omega)]
    exact ih
theorem ok_year {v : Int} (h : Rel σ) : Ok (f_X11_year 0 v) (f_X12_year 113 v) σ := by
  have hx := h.xh
  have hB := hx.2.2
  have hn := hB.nP_le
  have b3 := hB.2.2.2.1
  have c3 : σ 118 3 ≤ 9999 := h.2.2.2.2.2.2.1.2.2
  by_cases hv : 1 ≤ v ∧ v ≤ 99
  · obtain ⟨n, rfl⟩ := nat_of (show 0 ≤ v by omega)
    obtain ⟨ρ, g1, g2, g3⟩ := x_passYears (a := 5) (n := n) (.inl rfl) hx.1 hx.2.1 hB (by omega) c3
    by_cases q : σ 118 3 + n ≤ 9999
    · simp only [q, if_true] at g1 g2
      have hB2 := BV_ageN (n := n) hB
      have w2 : XH (upm ρ 0 19 0) (ageN (σ 118) n) (σ 120) := XH.st ⟨g3.refW hx.1, g2, hB2⟩
      have o : ∀ j, ¬ (27 ≤ j ∧ j < 37) → ¬ j = 3 → ageN (σ 118) n j = σ 118 j := fun j hj h3 => by unfold ageN; rw [if_neg (by omega), if_neg h3]
      refine Ok.mkw (r := ms (ageN (σ 118) n) (nP (σ 118))) (y := 0) (B' := ageN (σ 118) n) (D' := σ 120) h ⟨upm ρ 0 19 0, ?_, Fr.trans g3.ofW Fr.st, rfl, w2.2.1⟩ hB2 (by unfold ageN; rw [if_neg (by omega), if_pos rfl]; exact q) (o 0 (by omega) (by omega)) (by rw [o 1 (by omega) (by omega)]; exact Int.le_refl _) ?_
      · unfold f_X11_year f_X11_year_b0
        simp only [oX, if_true, gX, obs, hx.1.at 0 3 5 rfl]
        rw [if_neg (by omega), if_pos (by omega), show f_X9_passYears 5 n σ = some (1, ρ) from g1]
        unfold f_X11_year_b32
        simp only [obs, Int.one_ne_zero, if_false, s_ref0, if_true, gX, w2.1.at 0 3 5 rfl, w_mossOfAll w2, nP_ageN]
      · intro τ ht hi
        have := MW.mk (fm := f_X12_year 113 n) (r := ms (ageN (σ 118) n) (nP (σ 118))) (B' := ageN (σ 118) n) ht ?_ (fun j hj => o j (by omega) (by omega))
        · rw [hi 120 (by omega)] at this
          exact this
        · unfold f_X12_year f_X12_year_b0
          simp only [oM, if_true, pM, gM, obs, rf2_e, s_isIn, hv, and_self, Int.one_ne_zero, if_false, ht.rf.1.at 113 20 118 rfl]
          rw [alC (by omega) (by omega), ht.rf.2.1]
          simp only [obs, Int.reduceToNat]
          rw [w32_in (by omega) (by omega), if_pos q, m_year_h ht.rf q]
    · simp only [q, if_false] at g1 g2
      refine Ok.mkw (r := -1) (y := 7) (B' := σ 118) (D' := σ 120) h ⟨upm ρ 0 19 7, ?_, Fr.trans g3.ofW Fr.st, rfl, (XH.st ⟨g3.refW hx.1, g2, hB⟩).2.1⟩ hB c3 rfl (Int.le_refl _) ?_
      · unfold f_X11_year f_X11_year_b0
        simp only [oX, if_true, gX, obs, hx.1.at 0 3 5 rfl]
        rw [if_neg (by omega), if_pos (by omega), show f_X9_passYears 5 n σ = some (0, ρ) from g1]
        unfold f_X11_year_b32
        simp only [obs, if_true, s_refn (show ¬ (7 : Int) = 0 by decide), Int.one_ne_zero, if_false]
      · intro τ ht hi
        refine ⟨upm (rf2 τ) 113 0 7, ?_, Fr.mono fr_rf3 (by decide), rfl, ?_, ?_⟩
        · unfold f_X12_year f_X12_year_b0
          simp only [oM, if_true, pM, gM, obs, rf2_e, s_isIn, hv, and_self, Int.one_ne_zero, if_false, ht.rf.1.at 113 20 118 rfl, s_refuse]
          rw [alC (by omega) (by omega), ht.rf.2.1]
          simp only [obs, Int.reduceToNat]
          rw [w32_in (by omega) (by omega), if_neg q]
        · rw [← ht.2.1]; rfl
        · rw [← hi 120 (by omega)]; rfl
  · refine Ok.mk (r := -1) (y := 5) h (XO.mk ?_) fun τ ht _ => MO.mkr ?_
    · unfold f_X11_year f_X11_year_b0 f_X11_year_b13
      have e5 : f_X11_year_b32 0 5 σ = some (-1, upm σ 0 19 5) := by
        unfold f_X11_year_b32
        simp only [s_refn (show ¬ (5 : Int) = 0 by decide), obs, Int.one_ne_zero, if_false]
      rw [if_pos oX]
      grind
    · unfold f_X12_year f_X12_year_b0
      simp only [oM, if_true, pM, gM, obs, rf2_e, s_isIn, hv, if_false, s_refuse]
      rfl
/-! judge -/
theorem ok_judge {g p d : Int} (h : Rel σ) : Ok (f_X11_judge 0 g p d) (f_X12_judge 113 g p d) σ := by
  have hx := h.xh
  have hB := hx.2.2
  have hn := hB.nP_le
  by_cases hy : yGu (σ 118) g p = 0
  · obtain ⟨q1, q2⟩ := yGu0 hy
    obtain ⟨k, rfl, hk, h10⟩ := isP_nat q1 hB
    obtain ⟨ρ, g1, g2, g3⟩ := x_holdTrial (a := 5) (g := g) (d := d) (p := k) (.inl rfl) (hx.st (v := 0)).1 hx.st.2.1 hB hk
    obtain ⟨t1, t2, t3⟩ := trB_all (g := g) (d := d) (p := k) hB
    have t01 : trC (σ 118) g k = 0 ∨ trC (σ 118) g k = 1 := by unfold trC; split <;> simp
    refine Ok.mkw (r := trC (σ 118) g k) (y := 0) (B' := trB (σ 118) g k d) (D' := σ 120) h ⟨ρ, ?_, Fr.trans Fr.st g3.ofW, ?_, g2⟩ t1 (by rw [t2 3 (by omega)]; exact h.2.2.2.2.2.2.1.2.2) (t2 0 (by omega)) (by rw [t2 1 (by omega)]; exact Int.le_refl _) ?_
    · unfold f_X11_judge f_X11_judge_b0
      simp only [oX, if_true, obs, x_guiltWhy hx, hy, s_ref0, gX, hx.st.1.at 0 3 5 rfl]
      rw [show f_X9_holdTrial 5 g k d (upm σ 0 19 0) = some (trC (σ 118) g k, ρ) from g1]
      simp only [obs]
      rcases t01 with z | z <;> rw [z] <;> rfl
    · rw [g3 0 19 (by unfold wS; omega)]; rfl
    · intro τ ht hi
      have := MW.mk (fm := f_X12_judge 113 g k d) (r := trC (σ 118) g k) (B' := trB (σ 118) g k d) ht ?_ (fun j hj => t2 j (by omega))
      · rw [hi 120 (by omega)] at this
        exact this
      · have hR2 : Ref (setc (rf2 τ) 118 (trB (σ 118) g k d)) := ht.rf.1.setc rfl
        unfold f_X12_judge f_X12_judge_b0
        simp only [oM, if_true, pM, gM, obs, m_whyNoTrial ht.r1, hy, upm_same, Int.le_refl, rf2_e, ht.rf.1.at 113 20 118 rfl, m_tries ht.rf h10]
        rw [alC (by omega) (by omega), ht.rf.2.1]
        simp only [obs, Int.reduceToNat, hR2.at 113 20 118 rfl]
        rw [alC (by omega) (by omega)]
        simp only [obs, setc_same, Int.reduceToNat, t3]
        have : w32 (w32 (σ 118 5 + trC (σ 118) g k) - σ 118 5) = trC (σ 118) g k := by
          rw [w32_sl, show σ 118 5 + trC (σ 118) g k - σ 118 5 = trC (σ 118) g k by omega, w32_in (by omega) (by omega)]
        rw [this]
  · refine Ok.mk (r := -1) (y := yGu (σ 118) g p) h (XO.mk ?_) fun τ ht _ => MO.mk ?_
    · unfold f_X11_judge f_X11_judge_b0
      simp only [oX, if_true, obs, x_guiltWhy hx, s_refn hy, Int.one_ne_zero, if_false]
    · have := @yGu_ge (σ 118) g p
      unfold f_X12_judge f_X12_judge_b0
      simp only [oM, if_true, pM, gM, obs, m_whyNoTrial ht.r1, upm_same]
      rw [if_neg (by omega)]
/-! hatch -/
def yHat (B : Nat → Int) (p : Int) : Int := if ¬ isP B p then 2 else if B 1 = 4 then 7 else if ¬ stn B p.toNat = true then 8 else 0
theorem x_hatch_b {p f v : Int} (hv : ¬ v = 0) : f_X11_hatch_b51 0 p f v σ = some (-1, upm σ 0 19 v) := by
  unfold f_X11_hatch_b51
  simp only [s_refn hv, obs, Int.one_ne_zero, if_false]
theorem x_hatch_e {p f : Int} (hx : XH σ B D) : f_X11_hatch 0 p f σ = f_X11_hatch_b51 0 p f (yHat B p) σ := by
  have hk := hx.2.2.nK_le
  unfold f_X11_hatch f_X11_hatch_b0 yHat isP
  simp only [oX, if_true, obs, gX, hx.1.at 0 3 5 rfl, w_isPlace hx, w_isStone hx, w_g, hx.2.1.1.2.2.1]
  grind
theorem Nm_0 : Nm 0 0 := ⟨[], by simp, by simp, rfl, rfl⟩
theorem ok_hatch {p f : Int} (h : Rel σ) (hf : f = 0 ∨ f = 1) : Ok (f_X11_hatch 0 p f) (f_X12_hatch 113 p f) σ := by
  have hx := h.xh
  have hB := hx.2.2
  have hn := hB.nP_le
  have hk := hB.nK_le
  by_cases hy : yHat (σ 118) p = 0
  · have q : isP (σ 118) p ∧ ¬ σ 118 1 = 4 ∧ stn (σ 118) p.toNat = true := by unfold yHat at hy; grind
    obtain ⟨q1, q2, q3⟩ := q
    obtain ⟨k, rfl, hk1, h10⟩ := isP_nat q1 hB
    rw [Int.toNat_natCast] at q3
    have e1 : (0 : Int) ≤ k ∧ (k : Int) < σ 118 0 := by omega
    have k4 : nK (σ 118) < 4 := by omega
    obtain ⟨ρ, g1, g2, g3⟩ := x_addCrow (a := 5) (p := k) (f := f) (v := 0) (d := 0) (.inl rfl) (hx.st (v := 0)).1 hx.st.2.1 hB k4 hk1 hf Nm_0
    have hB2 : BV (hatB (σ 118) (nK (σ 118)) k f) := BV_hat hB k4 hf (.inr ⟨by omega, by omega, by rw [Int.toNat_natCast]; exact q3⟩)
    have o : ∀ j, j < 47 ∨ 55 ≤ j → ¬ j = 1 → hatB (σ 118) (nK (σ 118)) k f j = σ 118 j := fun j hj h1 => hatB_o (by omega) (by omega) h1
    have o1 : hatB (σ 118) (nK (σ 118)) k f 1 = σ 118 1 + 1 := by unfold hatB; rw [if_neg (by omega), if_neg (by omega), if_pos rfl]; omega
    refine Ok.mkw (r := σ 118 1) (y := 0) (B' := hatB (σ 118) (nK (σ 118)) k f) (D' := up1 (σ 120) (10 + nK (σ 118)) 0) h ⟨ρ, ?_, Fr.trans Fr.st g3.ofW, ?_, g2⟩ hB2 (by rw [o 3 (by omega) (by omega)]; exact h.2.2.2.2.2.2.1.2.2) (o 0 (by omega) (by omega)) (by rw [o1]; omega) ?_
    · rw [x_hatch_e hx, hy]
      unfold f_X11_hatch_b51
      simp only [obs, s_ref0, if_true, gX, hx.st.1.at 0 3 5 rfl]
      rw [show f_X9_addCrow 5 0 k f (upm σ 0 19 0) = some ρ from g1]
      simp only [obs, (g3.refW (hx.st (v := 0)).1).at 0 3 5 rfl, w_g, show ρ 5 7 = _ from g2.1.2.2.1, o1]
      rw [w32_in (by omega) (by omega), show σ 118 1 + 1 - 1 = σ 118 1 by omega]
    · rw [g3 0 19 (by unfold wS; omega)]; rfl
    · intro τ ht hi
      have hR1 : Ref (upm (rf2 τ) 120 (10 + nK (σ 118)) 0) := ht.rf.1.up (isRf_cell rfl)
      have hm := m_hatches (σ := upm (rf2 τ) 120 (10 + nK (σ 118)) 0) (b := 0) (w := nK (σ 118)) (p := k) (f := f) hR1 (by omega) k4
      simp only [Nat.mul_zero, Nat.zero_add] at hm
      have ec : upm (rf2 τ) 120 (10 + nK (σ 118)) 0 118 = σ 118 := by rw [upm_ne (by decide)]; exact ht.rf.2.1
      have eh : up1 (up1 (up1 (σ 118) (47 + nK (σ 118)) (k : Int)) (51 + nK (σ 118)) f) 1 ((nK (σ 118) : Int) + 1) = hatB (σ 118) (nK (σ 118)) k f := by
        funext j
        unfold up1 hatB
        by_cases a1 : j = 1
        · subst a1
          rw [if_pos rfl, if_neg (by omega), if_neg (by omega), if_pos rfl]
        · rw [if_neg a1]
          by_cases a2 : j = 51 + nK (σ 118)
          · rw [if_pos a2, if_neg (by omega), if_pos a2]
          · rw [if_neg a2, if_neg a2, if_neg a1]
      rw [ec, eh] at hm
      refine ⟨setc (upm (rf2 τ) 120 (10 + nK (σ 118)) 0) 118 (hatB (σ 118) (nK (σ 118)) k f), ?_, ?_, ?_, setc_same, ?_⟩
      · unfold f_X12_hatch f_X12_hatch_b0 f_X12_hatch_b82
        simp only [oM, if_true, pM, gM, obs, rf2_e, and_self, Int.one_ne_zero, if_false, m_isPlaceAt ht.rf.1 ht.rf.2.1 ht.rf.2.2, e1, m_isStoneAt ht.rf.1 ht.rf.2.1 (show k < 1000 by omega), q3, ht.rf.1.at 113 20 118 rfl, ht.rf.1.at 113 22 120 rfl]
        rw [alC (by omega) (by omega), ht.rf.2.1]
        simp only [obs, Int.reduceToNat]
        rw [if_neg q2, w32_in (by omega) (by omega), stWd (by omega) (by omega), ← hk.2, show (10 + (nK (σ 118) : Int)).toNat = 10 + nK (σ 118) by omega]
        simp only [obs]
        rcases hf with rfl | rfl
        · rw [if_pos rfl, show f_X12_hatches 113 0 (nK (σ 118)) k 0 (upm (rf2 τ) 120 (10 + nK (σ 118)) 0) = _ from hm]
          rfl
        · rw [if_neg (by decide), show f_X12_hatches 113 0 (nK (σ 118)) k 1 (upm (rf2 τ) 120 (10 + nK (σ 118)) 0) = _ from hm]
          rfl
      · refine Fr.trans (Fr.then (Fr.mono (fr_rf (v := 0)) (by decide)) (show gid 120 (10 + nK (σ 118)) ∈ _ by rw [gid120, if_pos (by omega)]; decide)) (Fr.setc fun j hj => ?_)
        rw [gid118]
        by_cases q : j < 55
        · rw [if_pos q]; decide
        · exact absurd (by rw [o j (by omega) (by omega)]; exact congrFun ec.symm j) hj
      · rw [setc_ne (by decide)]; rfl
      · rw [setc_ne (by decide), upm_setc, setc_same, ← hi 120 (by omega)]; rfl
  · refine Ok.mk (r := -1) (y := yHat (σ 118) p) h (XO.mk ?_) fun τ ht _ => MO.mkr ?_
    · rw [x_hatch_e hx, x_hatch_b hy]
    · unfold f_X12_hatch f_X12_hatch_b0 f_X12_hatch_b82
      simp only [oM, if_true, pM, gM, obs, rf2_e, s_refuse, m_isPlaceAt ht.rf.1 ht.rf.2.1 ht.rf.2.2, ht.rf.1.at 113 20 118 rfl]
      rw [alC (by omega) (by omega), ht.rf.2.1]
      simp only [obs, Int.reduceToNat]
      by_cases hp : isP (σ 118) p
      · obtain ⟨k, rfl, hk1, h10⟩ := isP_nat hp hB
        unfold yHat isP at *
        simp only [m_isStoneAt ht.rf.1 ht.rf.2.1 (show k < 1000 by omega), obs, Int.toNat_natCast] at hy ⊢
        grind
      · unfold yHat isP at *
        grind
end
