/-! ===== TRAYS: tray, write, read, pour, copyMoss ===== -/
section
variable {σ σ' τ : Mem} {fx fm : Mem → Option (Int × Mem)} {r y : Int}
def XT (fx : Mem → Option (Int × Mem)) (σ : Mem) (r y : Int) (σ1 : Mem) : Prop := fx σ = some (r, σ1) ∧ Fr [0, 1, 3] σ σ1 ∧ σ1 0 19 = y
def MT (fm : Mem → Option (Int × Mem)) (σ : Mem) (r y : Int) (σ1 : Mem) : Prop := fm σ = some (r, σ1) ∧ Fr [11, 13, 20] σ σ1 ∧ σ1 113 0 = y
theorem Ok.mkt (h : Rel σ) {σ1 σ2 : Mem} (hx : XT fx σ r y σ1) (hm : MT fm σ1 r y σ2) (h3 : R3 σ2) : Ok fx fm σ := by
  obtain ⟨e1, f1, s1⟩ := hx
  obtain ⟨e2, f2, s2⟩ := hm
  have lo := f2.lo (by decide)
  refine ⟨r, σ1, σ2, e1, e2, h.step [0, 1, 3, 11, 13, 20] ((f1.mono (by decide)).trans (f2.mono (by decide))) (by decide) ?_ (fun q => absurd q (by decide)) (fun _ => h3) (fun q => absurd q (by decide)) (fun q => absurd q (by decide)) (fun q => absurd q (by decide)) (fun q => absurd q (by decide)) (fun q => absurd q (by decide)) (fun q => absurd q (by decide))⟩
  rw [s2, lo 0 (by omega), s1]
theorem Rel.r3 (h : Rel σ) : R3 σ := h.2.2.2.1
theorem gidT {t j : Nat} (ht : t < 4) : gid (61 + 2 * t) j = 3 := by
  have h1 : isRf (61 + 2 * t) j = false := by
    apply isRf_cell
    rcases (show t = 0 ∨ t = 1 ∨ t = 2 ∨ t = 3 by omega) with rfl | rfl | rfl | rfl <;> rfl
  unfold gid
  rw [h1]
  rw [if_neg (by simp; omega), if_neg (by omega), if_neg (by omega), if_pos (by omega)]
theorem gidT1 {t : Nat} (ht : t < 4) : gid (60 + 2 * t) 1 = 3 ∧ gid (60 + 2 * t) 2 = 3 := by
  rcases (show t = 0 ∨ t = 1 ∨ t = 2 ∨ t = 3 by omega) with rfl | rfl | rfl | rfl <;> exact ⟨by decide, by decide⟩
theorem R3.wr {t k : Nat} {v : Int} (h : R3 σ) (ht : t < 4) (hk : (k : Int) < σ 115 t) (e1 : ∀ b j, 60 ≤ b → b ≤ 67 → σ' b j = if b = 61 + 2 * t ∧ j = k then v else σ b j) (e2 : ∀ j, σ' 114 j = σ 114 j ∧ σ' 115 j = σ 115 j ∧ σ' 116 j = if j = 60 * t + k then v else σ 116 j) : R3 σ' := by
  intro u hu
  have ht' := h t ht
  have hu' := h u hu
  rw [(e2 u).1, (e2 u).2.1, e1 _ _ (by omega) (by omega), e1 _ _ (by omega) (by omega), if_neg (by omega), if_neg (by omega)]
  rcases hu' with q | ⟨q1, q2, q3, q4, q5⟩
  · exact .inl q
  · refine .inr ⟨q1, q2, q3, q4, fun m hm => ?_⟩
    rw [e1 _ _ (by omega) (by omega), (e2 _).2.2]
    by_cases z : u = t ∧ m = k
    · obtain ⟨rfl, rfl⟩ := z
      rw [if_pos ⟨rfl, rfl⟩, if_pos rfl]
    · rw [if_neg (by omega), if_neg (by omega)]
      exact q5 m hm
theorem s_isMissing {t : Nat} (ht : t < 4) : f_X8_isMissing ((60 + 2 * t : Nat) : Int) σ = some (if σ (60 + 2 * t) 1 = -1 then 1 else 0) := by
  unfold f_X8_isMissing f_X8_isMissing_b0
  rw [if_pos (oT ht), gf_at (oT ht), Int.toNat_natCast]
  simp only [obs]
  split <;> rfl
theorem s_hasRow {t : Nat} {i n : Int} (ht : t < 4) (hi : R32 i) (hn : R32 n) : f_X8_hasRow ((60 + 2 * t : Nat) : Int) i n σ = some (if 0 ≤ i ∧ 0 ≤ n ∧ i + n ≤ σ (60 + 2 * t) 2 then 1 else 0) := by
  obtain ⟨a1, a2⟩ := hi
  obtain ⟨b1, b2⟩ := hn
  unfold f_X8_hasRow f_X8_hasRow_b0
  rw [if_pos (oT ht), gf_at (oT ht), Int.toNat_natCast, w64_in (by omega) (by omega)]
  simp only [obs, lcmp_gt]
  grind
/-- a court's tray: its row, sort, length -/
theorem x_trays {t : Nat} (hR : Ref σ) (ht : t < 4) : al Sh σ 38 1 t = some ((60 + 2 * t : Nat) : Int) := by
  rw [al_at (aTs (by omega) (by omega)), Int.toNat_natCast]
  rw [show (1 : Int).toNat = 1 from rfl, (rT hR ht).1]
theorem x_g0 {t : Nat} (hR : Ref σ) (ht : t < 4) : gf Sh σ 8 ((60 + 2 * t : Nat) : Int) 0 = some ((61 + 2 * t : Nat) : Int) := by
  rw [gf_at (oT ht), Int.toNat_natCast, (rT hR ht).2]
theorem x_g1 {t : Nat} (ht : t < 4) {j : Nat} : gf Sh σ 8 ((60 + 2 * t : Nat) : Int) j = some (σ (60 + 2 * t) j) := by
  rw [gf_at (oT ht), Int.toNat_natCast]
theorem x_al {t k : Nat} (ht : t < 4) (hk : k < 60) : al Sh σ 21 ((61 + 2 * t : Nat) : Int) k = some (σ (61 + 2 * t) k) := by
  rw [al_at (aT ht (by omega) (by omega)), Int.toNat_natCast, Int.toNat_natCast]
theorem x_st {t k : Nat} {v : Int} (ht : t < 4) (hk : k < 60) : st_ Sh σ 21 ((61 + 2 * t : Nat) : Int) k v = some (upm σ (61 + 2 * t) k v) := by
  rw [st_at (aT ht (by omega) (by omega)), Int.toNat_natCast, Int.toNat_natCast]
def ct (s v : Int) : Int := if s = 0 then w8 (w32 v) else if s = 1 then w16 (w32 v) else if s = 2 then w32 v else v
theorem s_put {t k : Nat} {v : Int} (hR : Ref σ) (ht : t < 4) (hk : k < 60) : f_X8_put ((60 + 2 * t : Nat) : Int) k v σ = some (upm σ (61 + 2 * t) k (ct (σ (60 + 2 * t) 1) v)) := by
  unfold f_X8_put f_X8_put_b0 ct
  simp only [oT ht, if_true, x_g1 ht, obs, (rT hR ht).2, x_st ht hk]
  grind
theorem s_cut {s v : Int} : f_X12_cut s v σ = some (ct s v) := by
  unfold f_X12_cut f_X12_cut_b0 ct
  grind
/-- why a place of a tray can't be -/
def yTp (N : Nat → Int) (t k : Int) : Int := if ¬ (0 ≤ t ∧ t < 4) then 1 else if N t.toNat < 0 then 3 else if 0 ≤ k ∧ k < N t.toNat then 0 else 4
theorem x_trayPlaceWhy {t k : Int} (h : Rel σ) (hk : R32 k) : f_X11_trayPlaceWhy 0 t k σ = some (yTp (σ 115) t k) := by
  unfold f_X11_trayPlaceWhy f_X11_trayPlaceWhy_b0 yTp
  simp only [oX, if_true, s_isTray, obs, gX, h.1.at 0 0 1 rfl]
  by_cases q : 0 ≤ t ∧ t < 4
  · obtain ⟨n, rfl⟩ := nat_of q.1
    have hn : n < 4 := by omega
    simp only [q, and_self, if_true, Int.one_ne_zero, if_false, x_trays h.1 hn, obs, s_isMissing hn, s_hasRow hn hk (show R32 1 from ⟨by omega, by omega⟩), Int.toNat_natCast, not_true]
    rcases h.r3 n hn with z | ⟨z1, z2, z3, z4, z5⟩
    · grind
    · rw [z3, z4]
      grind
  · simp only [q, if_false, if_true, not_false_eq_true]
theorem m_many {t : Nat} (ht : t < 4) : al Sh τ 20 115 t = some (τ 115 t) := by
  rw [al_at (aN4 (by omega) (by omega)), Int.toNat_natCast]
  rfl
theorem m_sort {t : Nat} (ht : t < 4) : al Sh τ 20 114 t = some (τ 114 t) := by
  rw [al_at (aS4 (by omega) (by omega)), Int.toNat_natCast]
  rfl
theorem m_num {i : Int} (h0 : 0 ≤ i) (h1 : i < 240) : al Sh τ 21 116 i = some (τ 116 i.toNat) := by
  rw [al_at (aNum h0 h1)]
  rfl
theorem m_snum {i v : Int} (h0 : 0 ≤ i) (h1 : i < 240) : st_ Sh τ 21 116 i v = some (upm τ 116 i.toNat v) := by
  rw [st_at (aNum h0 h1)]
  rfl
theorem m_placed {t k : Int} (hR : Ref τ) : f_X12_placed 113 t k τ = some (yTp (τ 115) t k) := by
  unfold f_X12_placed f_X12_placed_b0 f_X12_placed_b28 f_X12_trayed f_X12_trayed_b0 f_X12_trayed_b9 yTp
  simp only [oM, if_true, gM, obs, hR.at 113 5 115 rfl]
  by_cases q : 0 ≤ t ∧ t < 4
  · obtain ⟨n, rfl⟩ := nat_of q.1
    simp only [m_many (τ := τ) (show n < 4 by omega), obs, Int.toNat_natCast]
    grind
  · grind
theorem yTp0 {N : Nat → Int} {t k : Int} (h : yTp N t k = 0) : ∃ n j : Nat, t = n ∧ k = j ∧ n < 4 ∧ (j : Int) < N n := by
  have : (0 ≤ t ∧ t < 4) ∧ 0 ≤ k ∧ k < N t.toNat := by unfold yTp at h; grind
  exact ⟨t.toNat, k.toNat, by omega, by omega, by omega, by omega⟩
theorem yTp_ge {N : Nat → Int} {t k : Int} : 0 ≤ yTp N t k := by unfold yTp; grind
theorem R3.len {t : Nat} (h : R3 σ) (ht : t < 4) : σ 115 t ≤ 60 := by
  rcases h t ht with q | q
  · omega
  · exact q.1.2
theorem Fr.hi3 {b : Nat} (f : Fr [0, 1, 3] σ τ) (hb : 113 ≤ b) : τ b = σ b := f.hi (by decide) b hb
/-! tray -/
theorem ok_tray {t s n : Int} (h : Rel σ) : Ok (f_X11_tray 0 t s n) (f_X12_tray 113 t s n) σ := by
  by_cases hy : yTray t s n = 0
  · have q : (0 ≤ t ∧ t < 4) ∧ (0 ≤ s ∧ s ≤ 3) ∧ 0 ≤ n ∧ n ≤ 60 := by unfold yTray at hy; grind
    obtain ⟨⟨t0, t4⟩, hs, n0, n60⟩ := q
    obtain ⟨u, rfl⟩ := nat_of t0
    obtain ⟨m, rfl⟩ := nat_of n0
    have hu : u < 4 := by omega
    have e1 := @x_tray σ u s m h.1
    rw [if_pos hy, Int.toNat_natCast] at e1
    have f1 : Fr [0, 1, 3] σ (fil (upm (upm (upm σ 0 19 0) (60 + 2 * u) 1 s) (60 + 2 * u) 2 m) (61 + 2 * u) 0 60 0) := by
      refine Fr.trans (Fr.then (Fr.then (Fr.up (show gid 0 19 ∈ _ by decide)) (by rw [(gidT1 hu).1]; decide)) (by rw [(gidT1 hu).2]; decide)) fun b j hb => ?_
      rw [fil_app, if_neg]
      rintro ⟨rfl, _⟩
      exact hb (by unfold gs; rw [gidT hu]; decide)
    have hR1 := f1.ref (by decide) h.1
    have e2 := @m_tray (fil (upm (upm (upm σ 0 19 0) (60 + 2 * u) 1 s) (60 + 2 * u) 2 m) (61 + 2 * u) 0 60 0) u s m hR1
    rw [if_pos hy, Int.toNat_natCast, Int.toNat_natCast] at e2
    refine Ok.mkt (r := 1) (y := 0) h ⟨e1, f1, ?_⟩ ⟨e2, ?_, ?_⟩ ?_
    · simp (disch := omega) [upm_app, fil_app]
    · refine Fr.trans (Fr.then (Fr.then (Fr.mono (fr_rf (v := 0)) (by decide)) (by rw [gid13 (by omega)]; decide)) (by rw [gid13 (by omega)]; decide)) fun b j hb => ?_
      rw [fil_app, if_neg]
      rintro ⟨rfl, _⟩
      exact hb (by unfold gs; rw [gid13 (by omega)]; decide)
    · simp (disch := omega) [upm_app, fil_app]
    · intro v hv
      have hv' := h.r3 v hv
      by_cases z : v = u
      · subst z
        refine .inr ⟨?_, ?_, ?_, ?_, fun k hk => ?_⟩
        · simp (disch := omega) [upm_app, fil_app]; omega
        · simp (disch := omega) [upm_app, fil_app]; omega
        · simp (disch := omega) [upm_app, fil_app]
        · simp (disch := omega) [upm_app, fil_app]
        · have hk' : (k : Int) < m := by
            simp (disch := omega) [upm_app, fil_app] at hk
            omega
          simp only [fil_app]
          rw [if_neg (by omega), if_pos (by omega)]
          simp only [upm_app, fil_app]
          rw [if_neg (by omega), if_neg (by omega), if_neg (by omega), if_neg (by omega), if_pos (by omega)]
      · have a1 : ∀ b j, (b = 114 ∨ b = 115) → ¬ j = u → fil (upm (upm (upm (upm (fil (upm (upm (upm σ 0 19 0) (60 + 2 * u) 1 s) (60 + 2 * u) 2 m) (61 + 2 * u) 0 60 0) 113 1 0) 113 0 0) 114 u s) 115 u m) 116 (60 * u) (60 * u + m) 0 b j = σ b j := by
          intro b j hb hj
          simp only [upm_app, fil_app]
          simp (disch := omega) only [if_neg]
        have a2 : ∀ b j, 60 ≤ b → b ≤ 67 → ¬ b = 60 + 2 * u → ¬ b = 61 + 2 * u → fil (upm (upm (upm (upm (fil (upm (upm (upm σ 0 19 0) (60 + 2 * u) 1 s) (60 + 2 * u) 2 m) (61 + 2 * u) 0 60 0) 113 1 0) 113 0 0) 114 u s) 115 u m) 116 (60 * u) (60 * u + m) 0 b j = σ b j := by
          intro b j h1 h2 h3 h4
          simp only [upm_app, fil_app]
          simp (disch := omega) only [if_neg]
        have a3 : ∀ j, ¬ (60 * u ≤ j ∧ j < 60 * u + m) → fil (upm (upm (upm (upm (fil (upm (upm (upm σ 0 19 0) (60 + 2 * u) 1 s) (60 + 2 * u) 2 m) (61 + 2 * u) 0 60 0) 113 1 0) 113 0 0) 114 u s) 115 u m) 116 (60 * u) (60 * u + m) 0 116 j = σ 116 j := by
          intro j hj
          simp only [upm_app, fil_app]
          simp (disch := omega) only [if_neg]
        rw [a1 115 v (by omega) z, a1 114 v (by omega) z, a2 _ _ (by omega) (by omega) (by omega) (by omega), a2 _ _ (by omega) (by omega) (by omega) (by omega)]
        rcases hv' with q | ⟨q1, q2, q3, q4, q5⟩
        · exact .inl q
        · refine .inr ⟨q1, q2, q3, q4, fun k hk => ?_⟩
          rw [a2 _ _ (by omega) (by omega) (by omega) (by omega), a3 _ (by omega)]
          exact q5 k hk
  · have e1 := @x_tray σ t s n h.1
    rw [if_neg hy] at e1
    refine Ok.mk (r := 0) (y := yTray t s n) h (XO.mk e1) fun τ ht _ => MO.mk ?_
    have e2 := @m_tray τ t s n ht.1
    rw [if_neg hy, upm_upm] at e2
    exact e2
/-! write, read -/
theorem ok_write {t k v : Int} (h : Rel σ) (hk : R32 k) : Ok (f_X11_write 0 t k v) (f_X12_write 113 t k v) σ := by
  by_cases hy : yTp (σ 115) t k = 0
  · obtain ⟨n, j, rfl, rfl, hn, hj⟩ := yTp0 hy
    have hl := h.r3.len hn
    have hr : ¬ σ 115 n = -1 := by omega
    have z := (h.r3 n hn).resolve_left (fun q => hr q.1)
    have hR1 : Ref (upm σ 0 19 0) := h.1.up rfl
    have f1 : Fr [0, 1, 3] σ (upm (upm σ 0 19 0) (61 + 2 * n) j (ct (σ 114 n) v)) := Fr.then (Fr.up (show gid 0 19 ∈ _ by decide)) (by rw [gidT hn]; decide)
    have hR2 := f1.ref (by decide) h.1
    refine Ok.mkt (r := 1) (y := 0) (σ1 := upm (upm σ 0 19 0) (61 + 2 * n) j (ct (σ 114 n) v)) (σ2 := upm (rf2 (upm (upm σ 0 19 0) (61 + 2 * n) j (ct (σ 114 n) v))) 116 (60 * n + j) (ct (σ 114 n) v)) h ⟨?_, f1, ?_⟩ ⟨?_, ?_, ?_⟩ ?_
    · unfold f_X11_write f_X11_write_b0
      simp only [oX, if_true, x_trayPlaceWhy h hk, obs, hy, s_ref0, gX, hR1.at 0 0 1 rfl, x_trays hR1 hn, s_put hR1 hn (show j < 60 by omega)]
      rw [show upm σ 0 19 0 (60 + 2 * n) 1 = σ 114 n by rw [upm_app, if_neg (by omega)]; exact z.2.2.1]
    · rw [upm_app, if_neg (by omega)]; rfl
    · have hR3 : Ref (rf2 (upm (upm σ 0 19 0) (61 + 2 * n) j (ct (σ 114 n) v))) := (hR2.up rfl).up rfl
      have e5 : upm (upm (upm σ 0 19 0) (61 + 2 * n) j (ct (σ 114 n) v)) 113 1 0 115 = σ 115 := by funext x; simp (disch := omega) [upm_app]; omega
      have e4 : rf2 (upm (upm σ 0 19 0) (61 + 2 * n) j (ct (σ 114 n) v)) 114 n = σ 114 n := by unfold rf2; simp (disch := omega) [upm_app]; omega
      unfold f_X12_write f_X12_write_b0
      simp only [oM, if_true, pM, gM, obs, m_placed (hR2.up (show isRf 113 1 = false from rfl)), e5, hy, upm_same, Int.le_refl, rf2_e, hR3.at 113 6 116 rfl, hR3.at 113 4 114 rfl, m_sort hn, e4, s_cut]
      rw [w32_in (z := 60 * (n : Int)) (by omega) (by omega), w32_in (by omega) (by omega), m_snum (by omega) (by omega), show (60 * (n : Int) + j).toNat = 60 * n + j by omega]
      rfl
    · exact Fr.then (Fr.mono (fr_rf (v := 0)) (by decide)) (by rw [gid13 (by omega)]; decide)
    · rw [upm_app, if_neg (by omega)]; rfl
    · refine h.r3.wr (t := n) (k := j) (v := ct (σ 114 n) v) hn hj (fun b x h1 h2 => ?_) (fun x => ⟨?_, ?_, ?_⟩)
      · unfold rf2
        simp only [upm_app]
        rw [if_neg (by omega), if_neg (by omega), if_neg (by omega)]
        simp (disch := omega) only [if_neg]
      · unfold rf2; simp only [upm_app]; simp (disch := omega) only [if_neg]
      · unfold rf2; simp only [upm_app]; simp (disch := omega) only [if_neg]
      · unfold rf2; simp only [upm_app]; simp (disch := omega) only [if_neg, true_and]
  · refine Ok.mk (r := 0) (y := yTp (σ 115) t k) h (XO.mk ?_) fun τ ht hi => MO.mk ?_
    · unfold f_X11_write f_X11_write_b0
      simp only [oX, if_true, x_trayPlaceWhy h hk, obs, s_refn hy, Int.one_ne_zero, if_false]
    · have e5 : upm τ 113 1 0 115 = σ 115 := by rw [upm_ne (by decide)]; exact hi 115 (by omega)
      have := @yTp_ge (σ 115) t k
      unfold f_X12_write f_X12_write_b0
      simp only [oM, if_true, pM, gM, obs, m_placed (ht.1.up (show isRf 113 1 = false from rfl)), e5, upm_same]
      rw [if_neg (by omega)]
theorem ok_read {t k : Int} (h : Rel σ) (hk : R32 k) : Ok (f_X11_read 0 t k) (f_X12_read 113 t k) σ := by
  by_cases hy : yTp (σ 115) t k = 0
  · obtain ⟨n, j, rfl, rfl, hn, hj⟩ := yTp0 hy
    have hl := h.r3.len hn
    have hr : ¬ σ 115 n = -1 := by omega
    have z := (h.r3 n hn).resolve_left (fun q => hr q.1)
    have hR1 : Ref (upm σ 0 19 0) := h.1.up rfl
    refine Ok.mk (r := σ 116 (60 * n + j)) (y := 0) h (XO.mk ?_) fun τ ht hi => MO.mk ?_
    · unfold f_X11_read f_X11_read_b0
      simp only [oX, if_true, x_trayPlaceWhy h hk, obs, hy, s_ref0, gX, hR1.at 0 0 1 rfl, x_trays hR1 hn, x_g0 hR1 hn, x_al hn (show j < 60 by omega)]
      rw [show upm σ 0 19 0 (61 + 2 * n) j = σ 116 (60 * n + j) by rw [upm_app, if_neg (by omega)]; exact z.2.2.2.2 j hj]
    · have e5 : upm τ 113 1 0 115 = σ 115 := by rw [upm_ne (by decide)]; exact hi 115 (by omega)
      have e6 : upm (upm τ 113 1 0) 113 0 0 116 = σ 116 := by rw [upm_ne (by decide), upm_ne (by decide)]; exact hi 116 (by omega)
      have hR2 : Ref (upm (upm τ 113 1 0) 113 0 0) := (ht.1.up rfl).up rfl
      unfold f_X12_read f_X12_read_b0
      simp only [oM, if_true, pM, gM, obs, m_placed (ht.1.up (show isRf 113 1 = false from rfl)), e5, hy, upm_same, Int.le_refl, hR2.at 113 6 116 rfl]
      rw [w32_in (z := 60 * (n : Int)) (by omega) (by omega), w32_in (by omega) (by omega), m_num (by omega) (by omega), show (60 * (n : Int) + j).toNat = 60 * n + j by omega, e6]
      rfl
  · refine Ok.mk (r := -1) (y := yTp (σ 115) t k) h (XO.mk ?_) fun τ ht hi => MO.mk ?_
    · unfold f_X11_read f_X11_read_b0
      simp only [oX, if_true, x_trayPlaceWhy h hk, obs, s_refn hy, Int.one_ne_zero, if_false]
    · have e5 : upm τ 113 1 0 115 = σ 115 := by rw [upm_ne (by decide)]; exact hi 115 (by omega)
      have := @yTp_ge (σ 115) t k
      unfold f_X12_read f_X12_read_b0
      simp only [oM, if_true, pM, gM, obs, m_placed (ht.1.up (show isRf 113 1 = false from rfl)), e5, upm_same]
      rw [if_neg (by omega)]
end
