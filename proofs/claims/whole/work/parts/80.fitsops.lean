/-! ===== the calls fits, fitsBy, ask ===== -/
section
variable {σ τ : Mem} {B D N : Nat → Int}
theorem rw3_cg {t : Int} (h : τ 116 = σ 116) : rw3 τ t = rw3 σ t := by unfold rw3; rw [h]
theorem Fr.x01 {σ1 : Mem} {y : Int} (f : Fr [0] σ σ1) : Fr [0, 1] σ (upm σ1 0 19 y) := Fr.then (f.mono (by decide)) (by decide)
/-- after the threes: what the guess holds -/
theorem x_count {lo hi : Int} (h0 : σ 53 0 = lo) (h1 : σ 53 1 = hi) (hl : 0 ≤ lo ∧ lo ≤ 62) (hh : -22 ≤ hi ∧ hi ≤ 60) : f_X3_count 53 σ = some (imax 0 (hi + 1 - lo)) := by
  unfold f_X3_count f_X3_count_b0
  simp only [oG, if_true, gG, obs, h0, h1]
  rw [w32_in (z := hi - lo) (by omega) (by omega), w32_in (by omega) (by omega), show hi - lo + 1 = hi + 1 - lo by omega]
theorem fcn61 {n : Nat} (h0 : 0 ≤ flo B N n) (h1 : fhi B N n ≤ 60) : fcn B N n 61 = imax 0 (fhi B N n + 1 - flo B N n) := by
  rw [fcn_e h0, if_pos (by omega)]
theorem ok_fits {t n : Int} (h : Rel σ) (hn : R32 n) : Ok (f_X11_fits 0 t n) (f_X12_fits 113 t n) σ := by
  have hx := h.xh
  obtain ⟨σ', g1, g2, g3⟩ := x_fitsWhy (t := t) (c := 1) h hn
  have ey : yFit σ t n (¬ (1 : Int) = 0) = if yTh (σ 115) t n 20 = 0 then yFt (σ 118) (rw3 σ t) n.toNat else yTh (σ 115) t n 20 := by unfold yFit; grind
  by_cases hy : yFit σ t n (¬ (1 : Int) = 0) = 0
  · obtain ⟨o1, o2, o3⟩ := g3 hy
    have hTh : yTh (σ 115) t n 20 = 0 := by
      apply Classical.byContradiction
      intro z
      rw [ey, if_neg z] at hy
      exact z hy
    obtain ⟨a, k, rfl, rfl, ha, hk, hl⟩ := yTh0 hTh
    rw [Int.toNat_natCast] at o1 o2 o3
    have lb := flo_le hx.2.2 o1
    refine Ok.mk (r := fcn (σ 118) (rw3 σ a) k 61) (y := 0) h ⟨upm σ' 0 19 0, ?_, g2.x01, upm_same⟩ fun τ ht hg => ?_
    · unfold f_X11_fits f_X11_fits_b0
      simp only [oX, if_true, g1, obs, hy, s_ref0, gX, (g2.ref (by decide) h.1 |>.up (v := 0) (show isRf 0 19 = false from rfl)).at 0 12 53 rfl]
      rw [x_count (lo := flo (σ 118) (rw3 σ a) k) (hi := fhi (σ 118) (rw3 σ a) k) (by rw [upm_o (by omega)]; exact o2) (by rw [upm_o (by omega)]; exact o3) lb.1 lb.2, obs, fcn61 lb.1.1 lb.2.2]
    · have h3 := ht.r1.r0 (v := 0)
      have er : rw3 (upm (upm τ 113 1 0) 113 0 0) a = rw3 σ a := rw3_cg (by rw [upm_ne (by decide), upm_ne (by decide)]; exact hg 116 (by omega))
      have er1 : rw3 (upm τ 113 1 0) a = rw3 σ a := rw3_cg (by rw [upm_ne (by decide)]; exact hg 116 (by omega))
      obtain ⟨τ', k1, k2, k3, k4, k5, k6⟩ := m_laysFits (n := k) h3 ha (by omega) (by rw [er]; exact o1)
      rw [er] at k5
      refine ⟨τ', ?_, Fr.trans fr_rf (k2.mono (by decide)), by rw [k6, upm_same]⟩
      unfold f_X12_fits f_X12_fits_b0
      simp only [oM, if_true, pM, gM, obs, m_whyNoFits ht.r1 hn, er1, upm_ne (show 115 ≠ 113 by decide), hg 115 (by omega), ← ey, hy, upm_same, Int.le_refl, k1, k5]
  · have y5 : 0 < yFit σ t n (¬ (1 : Int) = 0) := by
      rw [ey] at hy ⊢
      have := @yFt_c (σ 118) (rw3 σ t) n.toNat
      unfold yTh at *
      grind
    refine Ok.mk (r := -1) (y := yFit σ t n (¬ (1 : Int) = 0)) h ⟨upm σ' 0 19 _, ?_, g2.x01, upm_same⟩ fun τ ht hg => MO.mk ?_
    · unfold f_X11_fits f_X11_fits_b0
      simp only [oX, if_true, g1, obs, s_refn hy]
      rfl
    · have er1 : rw3 (upm τ 113 1 0) t = rw3 σ t := rw3_cg (by rw [upm_ne (by decide)]; exact hg 116 (by omega))
      unfold f_X12_fits f_X12_fits_b0
      simp only [oM, if_true, pM, gM, obs, m_whyNoFits ht.r1 hn, er1, upm_ne (show 115 ≠ 113 by decide), hg 115 (by omega), ← ey, upm_same]
      rw [if_neg (by omega)]
/-! fitsBy -/
theorem m_fitsBy_h {w lo hi : Int} (h : MH τ B) (hf : ∀ g : Nat, g ≤ 60 → τ 122 g = if lo ≤ g ∧ g ≤ hi then 1 else 0) (hl : 0 ≤ lo) (hh : hi ≤ 60) (hw : w = 0 ∨ w = 1) : f_X12_fitsBy_h52 FU 113 w (-1) 0 τ = some (if hi < lo then (-1, upm τ 113 0 8) else (if w = 0 then lo else hi, τ)) := by
  have := up_all (Q := fun k g => f_X12_fitsBy_h52 k 113 w (if hi < lo ∨ g ≤ lo then -1 else if w = 0 then lo else imin hi ((g : Int) - 1)) g τ = some (if hi < lo then (-1, upm τ 113 0 8) else (if w = 0 then lo else hi, τ))) 61 (fun k => ?_) (fun k g hg ih => ?_) (by unfold FU; omega)
  · rw [if_pos (by omega)] at this
    exact this
  · rw [hs_X12_fitsBy_h52]
    unfold f_X12_fitsBy_b52
    simp only [s_refuse, obs]
    rw [if_pos (by omega)]
    unfold imin
    grind
  · rw [hs_X12_fitsBy_h52]
    unfold f_X12_fitsBy_b52 f_X12_fitsBy_b79 f_X12_fitsBy_b83
    simp only [gM, obs, h.1.at 113 27 122 rfl]
    rw [if_neg (by omega), alFt (by omega) (by omega), obs, Int.toNat_natCast, hf g (by omega), w32_in (by omega) (by omega)]
    by_cases z : lo ≤ g ∧ g ≤ hi
    · rw [if_pos z, if_neg (by decide)]
      by_cases z1 : (g : Int) ≤ lo
      · have e : (if hi < lo ∨ (g : Int) ≤ lo then -1 else if w = 0 then lo else imin hi ((g : Int) - 1)) = (-1 : Int) := by rw [if_pos (.inr z1)]
        rw [e, if_pos (by omega)]
        have e2 : (if hi < lo ∨ ((g + 1 : Nat) : Int) ≤ lo then -1 else if w = 0 then lo else imin hi (((g + 1 : Nat) : Int) - 1)) = (g : Int) := by
          rw [if_neg (by omega)]
          unfold imin
          grind
        rw [e2] at ih
        exact ih
      · have e : (if hi < lo ∨ (g : Int) ≤ lo then -1 else if w = 0 then lo else imin hi ((g : Int) - 1)) = if w = 0 then lo else (g : Int) - 1 := by
          rw [if_neg (by omega)]
          unfold imin
          grind
        rw [e, if_neg (by split <;> omega)]
        have e2 : (if hi < lo ∨ ((g + 1 : Nat) : Int) ≤ lo then -1 else if w = 0 then lo else imin hi (((g + 1 : Nat) : Int) - 1)) = if w = 0 then lo else (g : Int) := by
          rw [if_neg (by omega)]
          unfold imin
          grind
        rw [e2] at ih
        rcases hw with rfl | rfl
        · rw [if_neg (by decide)]
          exact ih
        · rw [if_pos rfl]
          exact ih
    · rw [if_neg z, if_pos rfl]
      have e2 : (if hi < lo ∨ ((g + 1 : Nat) : Int) ≤ lo then -1 else if w = 0 then lo else imin hi (((g + 1 : Nat) : Int) - 1)) = (if hi < lo ∨ (g : Int) ≤ lo then -1 else if w = 0 then lo else imin hi ((g : Int) - 1)) := by
        unfold imin
        grind
      rw [e2] at ih
      exact ih
theorem x_fitsBy_e {t n w : Int} : f_X11_fitsBy 0 t n w σ = f_X11_fitsBy_b17 0 w (if w = 0 ∨ w = 1 then 1 else 0) n t 0 σ := by
  unfold f_X11_fitsBy f_X11_fitsBy_b0 f_X11_fitsBy_b12
  rw [if_pos oX]
  grind
theorem yFit_cg {t n : Int} {c d : Prop} [Decidable c] [Decidable d] (e : c ↔ d) : yFit σ t n c = yFit σ t n d := by unfold yFit; grind
theorem yFit_pos {t n : Int} {c : Prop} [Decidable c] : 0 ≤ yFit σ t n c := by
  have := @yFt_c (σ 118) (rw3 σ t) n.toNat
  unfold yFit yTh
  grind
theorem yFit0 {t n : Int} {c : Prop} [Decidable c] (h : yFit σ t n c = 0) : yTh (σ 115) t n 20 = 0 ∧ c ∧ yFt (σ 118) (rw3 σ t) n.toNat = 0 := by
  unfold yFit at h
  grind
/-- what the reference says before it lays what fits -/
theorem m_pre {t n w : Int} (ht : MH τ (σ 118)) (hg : ∀ b, 113 ≤ b → τ b = σ b) (hn : R32 n) : f_X12_whyNoFits 113 t n (upm τ 113 1 0) = some (yFit σ t n True) := by
  have er1 : rw3 (upm τ 113 1 0) t = rw3 σ t := rw3_cg (by rw [upm_ne (by decide)]; exact hg 116 (by omega))
  rw [m_whyNoFits ht.r1 hn, er1, upm_ne (show 115 ≠ 113 by decide), hg 115 (by omega)]
  unfold yFit
  grind
def y01 (w : Int) : Prop := w = 0 ∨ w = 1
theorem ok_fitsBy {t n w : Int} (h : Rel σ) (hn : R32 n) : Ok (f_X11_fitsBy 0 t n w) (f_X12_fitsBy 113 t n w) σ := by
  have hx := h.xh
  obtain ⟨σ', g1, g2, g3⟩ := x_fitsWhy (t := t) (c := if w = 0 ∨ w = 1 then 1 else 0) h hn
  have ec : (¬ (if w = 0 ∨ w = 1 then (1 : Int) else 0) = 0) ↔ (w = 0 ∨ w = 1) := by grind
  rw [yFit_cg ec] at g1 g3
  by_cases hy : yFit σ t n (w = 0 ∨ w = 1) = 0
  · obtain ⟨o1, o2, o3⟩ := g3 hy
    obtain ⟨hTh, hw, hFt⟩ := yFit0 hy
    obtain ⟨a, k, rfl, rfl, ha, hk, hl⟩ := yTh0 hTh
    rw [Int.toNat_natCast] at o1 o2 o3
    have lb := flo_le hx.2.2 o1
    have hT : yFit σ a k True = 0 := by unfold yFit; rw [if_pos hTh, if_pos trivial]; exact hFt
    refine Ok.mk (r := if fhi (σ 118) (rw3 σ a) k < flo (σ 118) (rw3 σ a) k then -1 else if w = 0 then flo (σ 118) (rw3 σ a) k else fhi (σ 118) (rw3 σ a) k) (y := if fhi (σ 118) (rw3 σ a) k < flo (σ 118) (rw3 σ a) k then 8 else 0) h ⟨upm σ' 0 19 _, ?_, g2.x01, upm_same⟩ fun τ ht hg => ?_
    · rw [x_fitsBy_e]
      unfold f_X11_fitsBy_b17
      have hR := g2.ref (by decide) h.1
      simp only [g1, obs, hy, if_true, gX, hR.at 0 12 53 rfl]
      rw [x_count o2 o3 lb.1 lb.2, obs]
      unfold f_X11_fitsBy_b41
      by_cases z : fhi (σ 118) (rw3 σ a) k < flo (σ 118) (rw3 σ a) k
      · have : imax 0 (fhi (σ 118) (rw3 σ a) k + 1 - flo (σ 118) (rw3 σ a) k) = 0 := by unfold imax; split <;> omega
        rw [this, if_pos rfl, if_pos z, if_pos z, s_refn (by decide), obs]
        rfl
      · have : ¬ imax 0 (fhi (σ 118) (rw3 σ a) k + 1 - flo (σ 118) (rw3 σ a) k) = 0 := by unfold imax; split <;> omega
        rw [if_neg this, if_neg z, if_neg z, s_ref0, obs]
        simp only [if_true, gX, obs, (hR.up (v := 0) (show isRf 0 19 = false from rfl)).at 0 12 53 rfl, gG]
        rw [upm_o (by omega), upm_o (by omega), o2, o3]
        split <;> rfl
    · have h3 := ht.r1.r0 (v := 0)
      have er : rw3 (upm (upm τ 113 1 0) 113 0 0) a = rw3 σ a := rw3_cg (by rw [upm_ne (by decide), upm_ne (by decide)]; exact hg 116 (by omega))
      obtain ⟨τ', k1, k2, k3, k4, k5, k6⟩ := m_laysFits (n := k) h3 ha (by omega) (by rw [er]; exact o1)
      rw [er] at k4
      have hm : MH τ' (σ 118) := h3.fr k2 k3
      have e := m_fitsBy_h (w := w) (lo := flo (σ 118) (rw3 σ a) k) (hi := fhi (σ 118) (rw3 σ a) k) hm (fun g hg => k4 g hg) lb.1.1 lb.2.2 hw
      have e2 : f_X12_fitsBy 113 a k w τ = f_X12_fitsBy_h52 FU 113 w (-1) 0 τ' := by
        unfold f_X12_fitsBy f_X12_fitsBy_b0
        simp only [oM, if_true, pM, gM, obs, m_pre (w := w) ht hg hn, hT, upm_same, Int.le_refl, s_isIn]
        rw [if_pos (show 0 ≤ w ∧ w ≤ 1 by omega), if_neg (by decide), k1, obs]
      have f2 : Fr [11, 20] τ τ' := Fr.trans fr_rf (k2.mono (by decide))
      unfold MO
      rw [e2, e]
      by_cases z : fhi (σ 118) (rw3 σ a) k < flo (σ 118) (rw3 σ a) k
      · rw [if_pos z, if_pos z, if_pos z]
        exact ⟨_, rfl, f2.then (by decide), upm_same⟩
      · rw [if_neg z, if_neg z, if_neg z]
        exact ⟨_, rfl, f2, by rw [k6, upm_same]⟩
  · have y5 := @yFit_pos σ t n (w = 0 ∨ w = 1) _
    refine Ok.mk (r := -1) (y := yFit σ t n (w = 0 ∨ w = 1)) h ⟨upm σ' 0 19 _, ?_, g2.x01, upm_same⟩ fun τ ht hg => MO.mk ?_
    · rw [x_fitsBy_e]
      unfold f_X11_fitsBy_b17 f_X11_fitsBy_b41
      simp only [g1, obs, hy, if_false, s_refn hy]
      rfl
    · unfold f_X12_fitsBy f_X12_fitsBy_b0
      simp only [oM, if_true, pM, gM, obs, m_pre (w := w) ht hg hn, upm_same, s_isIn, s_refuse]
      have y6 := @yFit_pos σ t n True _
      by_cases hT : yFit σ t n True = 0
      · have hw : ¬ (w = 0 ∨ w = 1) := fun q => hy (by rw [yFit_cg (show (w = 0 ∨ w = 1) ↔ True from ⟨fun _ => trivial, fun _ => q⟩)]; exact hT)
        have e5 : yFit σ t n (w = 0 ∨ w = 1) = 5 := by
          unfold yFit at hT ⊢
          grind
        rw [if_pos (by omega), if_neg (show ¬ (0 ≤ w ∧ w ≤ 1) by omega), if_pos rfl, e5, hT, upm_upm]
      · rw [if_neg (by omega)]
        have e5 : yFit σ t n True = yFit σ t n (w = 0 ∨ w = 1) := by
          have := @yFt_c (σ 118) (rw3 σ t) n.toNat
          unfold yFit at hT hy ⊢
          grind
        rw [e5]
end
