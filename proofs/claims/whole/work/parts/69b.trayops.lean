/-! ===== tray, write, read ===== -/
section
variable {σ σ' τ : Mem} {fx fm : Mem → Option (Int × Mem)} {r y : Int}
theorem Fr.filG {G : List Nat} {σ1 : Mem} {a lo hi : Nat} {v : Int} (g : Fr G σ σ1) (h : ∀ j, gid a j ∈ G) : Fr G σ (fil σ1 a lo hi v) := by
  refine Fr.trans g fun b j hb => ?_
  rw [fil_app, if_neg]
  rintro ⟨rfl, _⟩
  exact hb (h j)
/-! tray -/
theorem ok_tray {t s n : Int} (h : Rel σ) : Ok (f_X11_tray 0 t s n) (f_X12_tray 113 t s n) σ := by
  by_cases hy : yTray t s n = 0
  · have q : (0 ≤ t ∧ t < 4) ∧ (0 ≤ s ∧ s ≤ 3) ∧ 0 ≤ n ∧ n ≤ 60 := by unfold yTray at hy; grind
    obtain ⟨⟨t0, t4⟩, hs, n0, n60⟩ := q
    obtain ⟨u, rfl⟩ := nat_of t0
    obtain ⟨m, rfl⟩ := nat_of n0
    have hu : u < 4 := by omega
    have e1 := @x_tray σ u s m h.1
    rw [if_pos hy, Int.toNat_natCast] at e1
    have f1 : Fr [0, 1, 3] σ (fil (upm (upm (upm σ 0 19 0) (60 + 2 * u) 1 s) (60 + 2 * u) 2 m) (61 + 2 * u) 0 60 0) := Fr.filG (Fr.then (Fr.then (Fr.up (show gid 0 19 ∈ _ by decide)) (by rw [(gidT1 hu).1]; decide)) (by rw [(gidT1 hu).2]; decide)) (fun k => by rw [gidT hu]; decide)
    have hR1 := f1.ref (by decide) h.1
    have e2 := @m_tray (fil (upm (upm (upm σ 0 19 0) (60 + 2 * u) 1 s) (60 + 2 * u) 2 m) (61 + 2 * u) 0 60 0) u s m hR1
    rw [if_pos hy, Int.toNat_natCast, Int.toNat_natCast] at e2
    refine Ok.mkt (r := 1) (y := 0) h ⟨e1, f1, ?_⟩ ⟨e2, ?_, ?_⟩ ?_
    · simp only [upm_app, fil_app]; simp (disch := omega) only [if_neg, if_pos, and_self, if_true]
    · exact Fr.filG (Fr.then (Fr.then (Fr.mono (fr_rf (v := 0)) (by decide)) (show gid 114 u ∈ _ by rw [gid13 (.inl rfl)]; decide)) (show gid 115 u ∈ _ by rw [gid13 (.inr (.inl rfl))]; decide)) (fun k => by rw [gid13 (.inr (.inr rfl))]; decide)
    · simp only [upm_app, fil_app]; simp (disch := omega) only [if_neg, if_pos, and_self, if_true]
    · intro v hv
      have hv' := h.r3 v hv
      by_cases z : v = u
      · subst z
        refine .inr ⟨?_, ?_, ?_, ?_, fun k hk => ?_⟩
        · simp only [upm_app, fil_app]; simp (disch := omega) only [if_neg, if_pos, and_self, if_true]; omega
        · simp only [upm_app, fil_app]; simp (disch := omega) only [if_neg, if_pos, and_self, if_true]; omega
        · simp only [upm_app, fil_app]; simp (disch := omega) only [if_neg, if_pos, and_self, if_true]
        · simp only [upm_app, fil_app]; simp (disch := omega) only [if_neg, if_pos, and_self, if_true]
        · have hk' : (k : Int) < m := by
            simp only [upm_app, fil_app] at hk
            simp (disch := omega) only [if_neg, if_pos, and_self, if_true] at hk
            omega
          simp only [upm_app, fil_app]; simp (disch := omega) only [if_neg, if_pos, and_self, if_true]
          rw [if_pos ⟨trivial, by omega, by omega⟩, if_pos ⟨trivial, by omega, by omega⟩]
      · have a1 : ∀ b j, (b = 114 ∨ b = 115) → ¬ j = u → fil (upm (upm (upm (upm (fil (upm (upm (upm σ 0 19 0) (60 + 2 * u) 1 s) (60 + 2 * u) 2 m) (61 + 2 * u) 0 60 0) 113 1 0) 113 0 0) 114 u s) 115 u m) 116 (60 * u) (60 * u + m) 0 b j = σ b j := by
          intro b j hb hj
          simp only [upm_app, fil_app]
          simp (disch := omega) only [if_neg]
        have a2 : ∀ b j, 60 ≤ b → b ≤ 67 → ¬ b = 60 + 2 * u → ¬ b = 61 + 2 * u → fil (upm (upm (upm (upm (fil (upm (upm (upm σ 0 19 0) (60 + 2 * u) 1 s) (60 + 2 * u) 2 m) (61 + 2 * u) 0 60 0) 113 1 0) 113 0 0) 114 u s) 115 u m) 116 (60 * u) (60 * u + m) 0 b j = σ b j := by
          intro b j h1 h2 h3 h4
          simp only [upm_app, fil_app]
          simp (disch := omega) only [if_neg]
        have a3 : ∀ j, ¬ (60 * u ≤ j ∧ j < 60 * u + m) → fil (upm (upm (upm (upm (fil (upm (upm (upm σ 0 19 0) (60 + 2 * u) 1 s) (60 + 2 * u) 2 m) (61 + 2 * u) 0 60 0) 113 1 0) 113 0 0) 114 u s) 115 u m) 116 (60 * u) (60 * u + m) 0 116 j = σ 116 j := by
          intro j hj
          simp only [upm_app, fil_app]
          simp (disch := omega) only [if_neg]
        rw [a1 115 v (by omega) z, a1 114 v (by omega) z, a2 _ _ (by omega) (by omega) (by omega) (by omega), a2 _ _ (by omega) (by omega) (by omega) (by omega)]
        rcases hv' with q | ⟨q1, q2, q3, q4, q5⟩
        · exact .inl q
        · refine .inr ⟨q1, q2, q3, q4, fun k hk => ?_⟩
          rw [a2 _ _ (by omega) (by omega) (by omega) (by omega), a3 _ (by omega)]
          exact q5 k hk
  · have e1 := @x_tray σ t s n h.1
    rw [if_neg hy] at e1
    refine Ok.mk (r := 0) (y := yTray t s n) h (XO.mk e1) fun τ ht _ => MO.mk ?_
    have e2 := @m_tray τ t s n ht.1
    rw [if_neg hy, upm_upm] at e2
    exact e2
/-! write, read -/
theorem ok_write {t k v : Int} (h : Rel σ) (hk : R32 k) : Ok (f_X11_write 0 t k v) (f_X12_write 113 t k v) σ := by
  by_cases hy : yTp (σ 115) t k = 0
  · obtain ⟨n, j, rfl, rfl, hn, hj⟩ := yTp0 hy
    have hl := h.r3.len hn
    have hr : ¬ σ 115 n = -1 := by omega
    have z := (h.r3 n hn).resolve_left (fun q => hr q.1)
    have hR1 : Ref (upm σ 0 19 0) := h.1.up rfl
    have f1 : Fr [0, 1, 3] σ (upm (upm σ 0 19 0) (61 + 2 * n) j (ct (σ 114 n) v)) := Fr.then (Fr.up (show gid 0 19 ∈ _ by decide)) (by rw [gidT hn]; decide)
    have hR2 := f1.ref (by decide) h.1
    refine Ok.mkt (r := 1) (y := 0) (σ1 := upm (upm σ 0 19 0) (61 + 2 * n) j (ct (σ 114 n) v)) (σ2 := upm (rf2 (upm (upm σ 0 19 0) (61 + 2 * n) j (ct (σ 114 n) v))) 116 (60 * n + j) (ct (σ 114 n) v)) h ⟨?_, f1, ?_⟩ ⟨?_, ?_, ?_⟩ ?_
    · unfold f_X11_write f_X11_write_b0
      simp only [oX, if_true, x_trayPlaceWhy h hk, obs, hy, s_ref0, gX, hR1.at 0 0 1 rfl, x_trays hR1 hn, s_put hR1 hn (show j < 60 by omega)]
      rw [show upm σ 0 19 0 (60 + 2 * n) 1 = σ 114 n by rw [upm_app, if_neg (by omega)]; exact z.2.2.1]
    · rw [upm_app, if_neg (by omega)]; rfl
    · have hR3 : Ref (rf2 (upm (upm σ 0 19 0) (61 + 2 * n) j (ct (σ 114 n) v))) := (hR2.up rfl).up rfl
      have e5 : upm (upm (upm σ 0 19 0) (61 + 2 * n) j (ct (σ 114 n) v)) 113 1 0 115 = σ 115 := by funext x; simp only [upm_app]; simp (disch := omega) only [if_neg]
      have e4 : rf2 (upm (upm σ 0 19 0) (61 + 2 * n) j (ct (σ 114 n) v)) 114 n = σ 114 n := by unfold rf2; simp only [upm_app]; simp (disch := omega) only [if_neg]
      unfold f_X12_write f_X12_write_b0
      simp only [oM, if_true, pM, gM, obs, m_placed (hR2.up (show isRf 113 1 = false from rfl)), e5, hy, upm_same, Int.le_refl, rf2_e, hR3.at 113 6 116 rfl, hR3.at 113 4 114 rfl, m_sort hn, e4, s_cut]
      rw [w32_in (z := 60 * (n : Int)) (by omega) (by omega), w32_in (by omega) (by omega), m_snum (by omega) (by omega), show (60 * (n : Int) + j).toNat = 60 * n + j by omega]
      rfl
    · exact Fr.then (Fr.mono (fr_rf (v := 0)) (by decide)) (by rw [gid13 (by omega)]; decide)
    · rw [upm_app, if_neg (by omega)]; rfl
    · refine h.r3.wr (t := n) (k := j) (v := ct (σ 114 n) v) hn hj (fun b x h1 h2 => ?_) (fun x => ⟨?_, ?_, ?_⟩)
      · unfold rf2
        simp only [upm_app]
        rw [if_neg (by omega), if_neg (by omega), if_neg (by omega)]
        simp (disch := omega) only [if_neg]
      · unfold rf2; simp only [upm_app]; simp (disch := omega) only [if_neg]
      · unfold rf2; simp only [upm_app]; simp (disch := omega) only [if_neg]
      · unfold rf2; simp only [upm_app]; simp (disch := omega) only [if_neg, true_and]
  · refine Ok.mk (r := 0) (y := yTp (σ 115) t k) h (XO.mk ?_) fun τ ht hi => MO.mk ?_
    · unfold f_X11_write f_X11_write_b0
      simp only [oX, if_true, x_trayPlaceWhy h hk, obs, s_refn hy, Int.one_ne_zero, if_false]
    · have e5 : upm τ 113 1 0 115 = σ 115 := by rw [upm_ne (by decide)]; exact hi 115 (by omega)
      have := @yTp_ge (σ 115) t k
      unfold f_X12_write f_X12_write_b0
      simp only [oM, if_true, pM, gM, obs, m_placed (ht.1.up (show isRf 113 1 = false from rfl)), e5, upm_same]
      rw [if_neg (by omega)]
theorem ok_read {t k : Int} (h : Rel σ) (hk : R32 k) : Ok (f_X11_read 0 t k) (f_X12_read 113 t k) σ := by
  by_cases hy : yTp (σ 115) t k = 0
  · obtain ⟨n, j, rfl, rfl, hn, hj⟩ := yTp0 hy
    have hl := h.r3.len hn
    have hr : ¬ σ 115 n = -1 := by omega
    have z := (h.r3 n hn).resolve_left (fun q => hr q.1)
    have hR1 : Ref (upm σ 0 19 0) := h.1.up rfl
    refine Ok.mk (r := σ 116 (60 * n + j)) (y := 0) h (XO.mk ?_) fun τ ht hi => MO.mk ?_
    · unfold f_X11_read f_X11_read_b0
      simp only [oX, if_true, x_trayPlaceWhy h hk, obs, hy, s_ref0, gX, hR1.at 0 0 1 rfl, x_trays hR1 hn, x_g0 hR1 hn, x_al hn (show j < 60 by omega)]
      rw [show upm σ 0 19 0 (61 + 2 * n) j = σ 116 (60 * n + j) by rw [upm_app, if_neg (by omega)]; exact z.2.2.2.2 j hj]
    · have e5 : upm τ 113 1 0 115 = σ 115 := by rw [upm_ne (by decide)]; exact hi 115 (by omega)
      have e6 : upm (upm τ 113 1 0) 113 0 0 116 = σ 116 := by rw [upm_ne (by decide), upm_ne (by decide)]; exact hi 116 (by omega)
      have hR2 : Ref (upm (upm τ 113 1 0) 113 0 0) := (ht.1.up rfl).up rfl
      unfold f_X12_read f_X12_read_b0
      simp only [oM, if_true, pM, gM, obs, m_placed (ht.1.up (show isRf 113 1 = false from rfl)), e5, hy, upm_same, Int.le_refl, hR2.at 113 6 116 rfl]
      rw [w32_in (z := 60 * (n : Int)) (by omega) (by omega), w32_in (by omega) (by omega), m_num (by omega) (by omega), show (60 * (n : Int) + j).toNat = 60 * n + j by omega, e6]
      rfl
  · refine Ok.mk (r := -1) (y := yTp (σ 115) t k) h (XO.mk ?_) fun τ ht hi => MO.mk ?_
    · unfold f_X11_read f_X11_read_b0
      simp only [oX, if_true, x_trayPlaceWhy h hk, obs, s_refn hy, Int.one_ne_zero, if_false]
    · have e5 : upm τ 113 1 0 115 = σ 115 := by rw [upm_ne (by decide)]; exact hi 115 (by omega)
      have := @yTp_ge (σ 115) t k
      unfold f_X12_read f_X12_read_b0
      simp only [oM, if_true, pM, gM, obs, m_placed (ht.1.up (show isRf 113 1 = false from rfl)), e5, upm_same]
      rw [if_neg (by omega)]
end
