/-! ===== the calls game, moveOf ===== -/
section
variable {σ τ : Mem} {B D : Nat → Int} {g q : Int}
theorem cnt0 {W : Nat → Bool} {n : Nat} : cnt (fun p => W p && (0 : Nat).testBit p) n = 0 := cnt_zero.mpr fun k _ => by simp
theorem sN_0 {p : Nat} : sN B g p 0 0 = cnt (swB B g p) (nP B) ∧ kN B g p 0 0 = cnt (kpB' B g p) (nP B) ∧ Cv B g p 0 0 = (tc B g p : Nat) := by
  refine ⟨cnt_cg fun k _ => by unfold usd; simp, cnt_cg fun k _ => by unfold usd; simp, ?_⟩
  unfold Cv
  rw [cnt0, cnt0]
  omega
/-- the whole game, from its beginning -/
def gV (B : Nat → Int) (g : Int) (p T : Nat) : Int := (tc B g p : Nat) + gn T true (cnt (swB B g p) (nP B)) (cnt (kpB' B g p) (nP B))
def gF1 (B : Nat → Int) (g : Int) (p T : Nat) : Int := ff (fun r => stn B r && decide (gw B g p T true (cnt (swB B g p) (nP B)) (cnt (kpB' B g p) (nP B)) r = gn (T + 1) true (cnt (swB B g p) (nP B)) (cnt (kpB' B g p) (nP B)))) (nP B) 0
theorem d00 : ∀ k, ¬ ((0 : Nat).testBit k = true ∧ (0 : Nat).testBit k = true) := fun k h => by simp at h
theorem ff_up {P : Nat → Bool} {N : Nat} : ff P (N + 1) 0 = if ff P N 0 = -1 then (if P N = true then (N : Int) else -1) else ff P N 0 := by
  rcases ff_spec P N 0 with ⟨f1, f2⟩ | ⟨k, f1, f2, f3, f4, f5⟩
  · rw [f1, if_pos rfl]
    rcases ff_spec P (N + 1) 0 with ⟨g1, g2⟩ | ⟨j, g1, g2, g3, g4, g5⟩
    · rw [g1, g2 N (by omega) (by omega)]; rfl
    · have : j = N := by
        apply Classical.byContradiction
        intro z
        rw [f2 j (by omega) (by omega)] at g4
        cases g4
      subst this
      rw [g1, if_pos g4]
  · rw [f1, if_neg (by omega)]
    rcases ff_spec P (N + 1) 0 with ⟨g1, g2⟩ | ⟨j, g1, g2, g3, g4, g5⟩
    · rw [g2 k (by omega) (by omega)] at f4; cases f4
    · rw [g1]
      have l1 : ¬ j < k := fun z => by rw [f5 j (by omega) z] at g4; cases g4
      have l2 : ¬ k < j := fun z => by rw [g5 k (by omega) z] at f4; cases f4
      congr 1
      omega
theorem m_game0 {p : Nat} (h : MH τ B) (hp : p < 10) (hg : 0 ≤ g ∧ g ≤ 99) : f_X12_plays FR 113 g p 0 ((0 : Nat) : Int) 0 0 τ = some (gV B g p 0, τ) := by
  show f_X12_plays (39 + 1) 113 g p ((0 : Nat) : Int) ((0 : Nat) : Int) ((0 : Nat) : Int) ((0 : Nat) : Int) τ = _
  rw [hs_X12_plays]
  unfold f_X12_plays_body f_X12_plays_b0
  rw [if_pos oM, if_pos rfl, m_scoreOf h hp (by omega) (by omega) hg, obs, score_eq h.2.2 d00, sN_0.2.2]
  unfold gV
  rw [show gn 0 true (cnt (swB B g p) (nP B)) (cnt (kpB' B g p) (nP B)) = 0 from rfl, Int.add_zero]
theorem m_game1 {p T : Nat} (h : MH τ B) (hT : T ≤ 3) (hp : p < 10) (hg : 0 ≤ g ∧ g ≤ 99) : f_X12_plays FR 113 g p 0 ((T + 1 : Nat) : Int) 0 0 τ = some (gV B g p (T + 1), upm τ 113 33 (if gF1 B g p T = -1 then (nP B : Int) else gF1 B g p T)) := by
  have e : f_X12_plays (39 + 1) 113 g p ((0 : Nat) : Int) ((T + 1 : Nat) : Int) ((0 : Nat) : Int) ((0 : Nat) : Int) τ = _ := m_plays_s (d := T) (n := 39) (t := 0) (A := 0) (F := 0) h (by omega) hp (by omega) (by omega) (by omega) d00 (fun A F hA hF hd => m_plays h (by omega) hp hg T 39 (0 + 1) A F (by omega) (by omega) (by omega) hA hF hd)
  show f_X12_plays (39 + 1) 113 g p ((0 : Nat) : Int) ((T + 1 : Nat) : Int) ((0 : Nat) : Int) ((0 : Nat) : Int) τ = _
  rw [e, show evn 0 = true from rfl, if_pos rfl, sN_0.1, sN_0.2.1, sN_0.2.2]
  have e2 : ff (fun i => cdG B 0 0 i && decide (vG B g p T true 0 0 i = (tc B g p : Nat) + gn (T + 1) true (cnt (swB B g p) (nP B)) (cnt (kpB' B g p) (nP B)))) (nP B + 1) 0 = if gF1 B g p T = -1 then (nP B : Int) else gF1 B g p T := by
    have e3 : ∀ i, i < nP B → (cdG B 0 0 i && decide (vG B g p T true 0 0 i = (tc B g p : Nat) + gn (T + 1) true (cnt (swB B g p) (nP B)) (cnt (kpB' B g p) (nP B)))) = (stn B i && decide (gw B g p T true (cnt (swB B g p) (nP B)) (cnt (kpB' B g p) (nP B)) i = gn (T + 1) true (cnt (swB B g p) (nP B)) (cnt (kpB' B g p) (nP B)))) := by
      intro i hi
      unfold cdG vG usd
      rw [if_pos hi, sN_0.1, sN_0.2.1, sN_0.2.2]
      simp [show ¬ i = nP B by omega]
    rw [ff_up]
    have e4 : ff (fun i => cdG B 0 0 i && decide (vG B g p T true 0 0 i = (tc B g p : Nat) + gn (T + 1) true (cnt (swB B g p) (nP B)) (cnt (kpB' B g p) (nP B)))) (nP B) 0 = gF1 B g p T := ff_cg fun k _ hk => e3 k hk
    rw [e4]
    by_cases z : gF1 B g p T = -1
    · rw [if_pos z, if_pos z, if_pos]
      obtain ⟨v1, i, v2, v3, v4⟩ := @vG_best B g p T 0 0 true
      rw [sN_0.1, sN_0.2.1, sN_0.2.2] at v4
      have : i = nP B := by
        apply Classical.byContradiction
        intro w
        rw [← e4] at z
        rcases ff_spec (fun i => cdG B 0 0 i && decide (vG B g p T true 0 0 i = (tc B g p : Nat) + gn (T + 1) true (cnt (swB B g p) (nP B)) (cnt (kpB' B g p) (nP B)))) (nP B) 0 with ⟨f1, f2⟩ | ⟨k, f1, f2, f3, f4, f5⟩
        · have := f2 i (by omega) (by omega)
          simp [v3, v4] at this
        · omega
      subst this
      simp [v3, v4]
    · rw [if_neg z, if_neg z]
  rw [e2]
  rfl
def yGm (B : Nat → Int) (g p T m : Int) : Int := if yGu B g p = 0 then (if m ≤ T ∧ T ≤ 4 then 0 else 5) else yGu B g p
theorem x_gameWhy {p T m : Int} (h : XH σ B D) : f_X11_gameWhy 0 g p T m σ = some (yGm B g p T m) := by
  unfold f_X11_gameWhy f_X11_gameWhy_b0 f_X11_gameWhy_b24 yGm
  simp only [oX, if_true, x_guiltWhy h, obs]
  grind
theorem m_whyNoGame {p T m : Int} (h : MH τ B) : f_X12_whyNoGame 113 g p T m τ = some (yGm B g p T m) := by
  unfold f_X12_whyNoGame f_X12_whyNoGame_b0 yGm
  simp only [oM, if_true, m_whyNoTrial h, obs, s_isIn]
  have := @yGu_ge B g p
  grind
theorem yGm0 {p T m : Int} (h : yGm B g p T m = 0) (hm : 0 ≤ m) (hB : BV B) : ∃ k t : Nat, p = k ∧ T = t ∧ k < nP B ∧ k < 10 ∧ (0 ≤ g ∧ g ≤ 99) ∧ m ≤ t ∧ t ≤ 4 := by
  unfold yGm at h
  have hy : yGu B g p = 0 := by
    apply Classical.byContradiction
    intro z
    rw [if_neg z] at h
    exact z h
  rw [if_pos hy] at h
  obtain ⟨h1, h2⟩ := yGu0 hy
  have h3 : m ≤ T ∧ T ≤ 4 := by grind
  obtain ⟨k, rfl, hk, h10⟩ := isP_nat h1 hB
  obtain ⟨t, rfl⟩ := nat_of (show 0 ≤ T by omega)
  exact ⟨k, t, rfl, rfl, hk, h10, h2, h3.1, by omega⟩
theorem yGm_ge {p T m : Int} : 0 ≤ yGm B g p T m := by
  have := @yGu_ge B g p
  unfold yGm
  grind
theorem ok_game {p T : Int} (h : Rel σ) : Ok (f_X11_game 0 g p T) (f_X12_game 113 g p T) σ := by
  have hx := h.xh
  by_cases hy : yGm (σ 118) g p T 0 = 0
  · obtain ⟨k, t, rfl, rfl, hk, h10, hg, _, ht4⟩ := yGm0 hy (by omega) hx.2.2
    obtain ⟨σ1, a1, a2, a3⟩ := x_begin (g := g) (q := (k : Int)) (hx.st (v := 0)) hg (by omega)
    have hx1 := hx.st.fr0 a2
    refine Ok.mk (r := gV (σ 118) g k t) (y := 0) h ⟨σ1, ?_, Fr.trans (Fr.up (show gid 0 19 ∈ _ by decide)) (a2.mono (by decide)), by rw [a2.at (a := 0) (j := 19) rfl (by decide), upm_same]⟩ fun τ ht hgl => ?_
    · unfold f_X11_game f_X11_game_b0
      simp only [oX, if_true, x_gameWhy hx, hy, obs, s_ref0, gX, hx.st.1.at 0 14 58 rfl, a1, hx1.1.at 0 14 58 rfl, x_outcome hx1 ht4 h10 a3]
      rfl
    · have h3 := ht.r1.r0 (v := 0)
      have e : ∃ b, f_X12_plays FR 113 g k 0 t 0 0 (upm (upm τ 113 1 0) 113 0 0) = some (gV (σ 118) g k t, b) ∧ Fr [11, 20] τ b ∧ b 113 0 = 0 := by
        cases t with
        | zero => exact ⟨_, m_game0 h3 h10 hg, fr_rf, upm_same⟩
        | succ t => exact ⟨_, m_game1 h3 (by omega) h10 hg, Fr.then fr_rf (by decide), by rw [upm_app, if_neg (by omega), upm_same]⟩
      obtain ⟨b, b1, b2, b3⟩ := e
      refine ⟨b, ?_, b2, b3⟩
      unfold f_X12_game f_X12_game_b0
      simp only [oM, if_true, pM, gM, obs, m_whyNoGame ht.r1, hy, upm_same, Int.le_refl, b1]
  · refine Ok.mk (r := -1) (y := yGm (σ 118) g p T 0) h (XO.mk ?_) fun τ ht _ => MO.mk ?_
    · unfold f_X11_game f_X11_game_b0
      simp only [oX, if_true, x_gameWhy hx, obs, s_refn hy]
      rfl
    · have := @yGm_ge (σ 118) g p T 0
      unfold f_X12_game f_X12_game_b0
      simp only [oM, if_true, pM, gM, obs, m_whyNoGame ht.r1, upm_same]
      rw [if_neg (by omega)]
theorem gF1_lt {p T : Nat} : gF1 B g p T = -1 ∨ ∃ k : Nat, gF1 B g p T = k ∧ k < nP B := by
  rcases ff_spec (fun r => stn B r && decide (gw B g p T true (cnt (swB B g p) (nP B)) (cnt (kpB' B g p) (nP B)) r = gn (T + 1) true (cnt (swB B g p) (nP B)) (cnt (kpB' B g p) (nP B)))) (nP B) 0 with ⟨f1, f2⟩ | ⟨k, f1, f2, f3, f4, f5⟩
  · exact .inl f1
  · exact .inr ⟨k, f1, f3⟩
theorem ok_moveOf {p T : Int} (h : Rel σ) : Ok (f_X11_moveOf 0 g p T) (f_X12_moveOf 113 g p T) σ := by
  have hx := h.xh
  by_cases hy : yGm (σ 118) g p T 1 = 0
  · obtain ⟨k, t, rfl, rfl, hk, h10, hg, ht1, ht4⟩ := yGm0 hy (by omega) hx.2.2
    obtain ⟨t, rfl⟩ : ∃ m, t = m + 1 := ⟨t - 1, by omega⟩
    obtain ⟨σ1, a1, a2, a3⟩ := x_begin (g := g) (q := (k : Int)) hx hg (by omega)
    have hx1 := hx.fr0 a2
    have xe : f_X11_moveOf 0 g k ((t + 1 : Nat) : Int) σ = some (if gF1 (σ 118) g k t = -1 then -1 else gF1 (σ 118) g k t, upm σ1 0 19 (if gF1 (σ 118) g k t = -1 then 8 else 0)) := by
      unfold f_X11_moveOf f_X11_moveOf_b0 f_X11_moveOf_b49 f_X11_moveOf_b51
      simp only [oX, if_true, x_gameWhy hx, hy, obs, gX, hx.1.at 0 14 58 rfl, a1, hx1.1.at 0 14 58 rfl, x_firstMove hx1 (show t ≤ 3 by omega) h10 hg a3]
      rw [show ff (fun r => stn (σ 118) r && decide (gw (σ 118) g k t true (cnt (swB (σ 118) g k) (nP (σ 118))) (cnt (kpB' (σ 118) g k) (nP (σ 118))) r = gn (t + 1) true (cnt (swB (σ 118) g k) (nP (σ 118))) (cnt (kpB' (σ 118) g k) (nP (σ 118))))) (nP (σ 118)) 0 = gF1 (σ 118) g k t from rfl]
      by_cases z : gF1 (σ 118) g k t = -1
      · simp only [z, if_true, s_refn (show ¬ (8 : Int) = 0 by decide), obs]
        rfl
      · simp only [z, if_false, s_ref0, obs, if_true]
    refine Ok.mk h ⟨_, xe, a2.x01, upm_same⟩ fun τ ht hgl => ?_
    have h3 := ht.r1.r0 (v := 0)
    have b1 := m_game1 h3 (show t ≤ 3 by omega) h10 hg
    have hb : MH (upm (upm (upm τ 113 1 0) 113 0 0) 113 33 (if gF1 (σ 118) g k t = -1 then (nP (σ 118) : Int) else gF1 (σ 118) g k t)) (σ 118) := ⟨h3.1.up rfl, by rw [upm_ne (by decide)]; exact h3.2.1, h3.2.2⟩
    have me : f_X12_moveOf 113 g k ((t + 1 : Nat) : Int) τ = some (if gF1 (σ 118) g k t = -1 then -1 else gF1 (σ 118) g k t, if gF1 (σ 118) g k t = -1 then upm (upm (upm (upm τ 113 1 0) 113 0 0) 113 33 (if gF1 (σ 118) g k t = -1 then (nP (σ 118) : Int) else gF1 (σ 118) g k t)) 113 0 8 else upm (upm (upm τ 113 1 0) 113 0 0) 113 33 (if gF1 (σ 118) g k t = -1 then (nP (σ 118) : Int) else gF1 (σ 118) g k t)) := by
      unfold f_X12_moveOf f_X12_moveOf_b0
      simp only [oM, if_true, pM, gM, obs, m_whyNoGame ht.r1, hy, upm_same, Int.le_refl, b1, hb.1.at 113 20 118 rfl, m_c0 hb, s_refuse]
      rcases @gF1_lt (σ 118) g k t with z | ⟨j, z, hj⟩
      · simp only [z, if_true]
      · rw [z, if_neg (show ¬ (j : Int) = -1 by omega), if_neg (by omega), if_neg (show ¬ (j : Int) = -1 by omega), if_neg (show ¬ (j : Int) = -1 by omega)]
    refine ⟨_, me, ?_, ?_⟩
    · split
      · exact Fr.then (Fr.then fr_rf (by decide)) (by decide)
      · exact Fr.then fr_rf (by decide)
    · split
      · exact upm_same
      · rw [upm_app, if_neg (by omega), upm_same]
  · refine Ok.mk (r := -1) (y := yGm (σ 118) g p T 1) h (XO.mk ?_) fun τ ht _ => MO.mk ?_
    · unfold f_X11_moveOf f_X11_moveOf_b0 f_X11_moveOf_b51
      simp only [oX, if_true, x_gameWhy hx, obs, hy, if_false, s_refn hy]
      rfl
    · have := @yGm_ge (σ 118) g p T 1
      unfold f_X12_moveOf f_X12_moveOf_b0
      simp only [oM, if_true, pM, gM, obs, m_whyNoGame ht.r1, upm_same]
      rw [if_neg (by omega)]
end
