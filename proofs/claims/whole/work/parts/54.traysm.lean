theorem upm_app {σ : Mem} {a j b i : Nat} {v : Int} : upm σ a j v b i = if b = a ∧ i = j then v else σ b i := rfl
theorem fil_app {σ : Mem} {a lo hi b j : Nat} {v : Int} : fil σ a lo hi v b j = if b = a ∧ lo ≤ j ∧ j < hi then v else σ b j := rfl
theorem gM {σ : Mem} {j : Nat} : gf Sh σ 12 113 j = some (σ 113 j) := gf_at oM
theorem pM {σ : Mem} {j : Nat} {v : Int} : pf Sh σ 12 113 j v = some (upm σ 113 j v) := pf_at oM
theorem gX {σ : Mem} {j : Nat} : gf Sh σ 11 0 j = some (σ 0 j) := gf_at oX
theorem pX {σ : Mem} {j : Nat} {v : Int} : pf Sh σ 11 0 j v = some (upm σ 0 j v) := pf_at oX
/-! the reference's side -/
theorem s_no {σ : Mem} {v : Int} : f_X12_no 113 v σ = some (0, upm σ 113 0 v) := by
  unfold f_X12_no f_X12_no_b0
  simp only [oM, pM, if_true, Option.bind_some]
theorem bz0 : bz 0 = some 0 := by simp [bz]
theorem bz1 : bz 1 = some 1 := by simp [bz]
theorem m_tray_b28 {σ : Mem} : f_X12_tray_b28 113 σ = some (0, upm σ 113 0 1) := by
  unfold f_X12_tray_b28
  simp only [s_no, Option.bind_some, bz0]
theorem m_tray_h {t n : Nat} (ht : t < 4) (hn : n ≤ 60) : ∀ (m i : Nat) (σ : Mem), i + m = n → Ref σ → ∀ k, m < k → f_X12_tray_h74 k 113 t n i (fil σ 116 (60 * t) (60 * t + i) 0) = some (1, fil σ 116 (60 * t) (60 * t + n) 0) := by
  intro m
  induction m with
  | zero =>
    intro i σ hi hR k hk
    obtain ⟨k, rfl⟩ : ∃ q, k = q + 1 := ⟨k - 1, by omega⟩
    have hi : i = n := by omega
    subst hi
    show f_X12_tray_b74 (f_X12_tray_h74 k) _ _ _ _ _ = _
    unfold f_X12_tray_b74
    rw [if_pos (by omega)]
  | succ m ih =>
    intro i σ hi hR k hk
    obtain ⟨k, rfl⟩ : ∃ q, k = q + 1 := ⟨k - 1, by omega⟩
    have hR' : Ref (fil σ 116 (60 * t) (60 * t + i) 0) := hR.fil rfl
    show f_X12_tray_b74 (f_X12_tray_h74 k) _ _ _ _ _ = _
    unfold f_X12_tray_b74
    rw [if_neg (by omega), gM]
    simp only [Option.bind_some]
    rw [hR'.at 113 6 116 rfl, w32_in (z := 60 * (t : Int)) (by omega) (by omega), w32_in (by omega) (by omega), st_at (aNum (by omega) (by omega)), w32_in (by omega) (by omega)]
    simp only [Option.bind_some]
    rw [show (116 : Int).toNat = 116 from rfl, show (60 * (t : Int) + (i : Int)).toNat = 60 * t + i by omega, fil_s (by omega)]
    exact ih (i + 1) σ (by omega) hR k (by omega)
theorem m_tray {σ : Mem} {t s n : Int} (hR : Ref σ) : f_X12_tray 113 t s n σ = some (if yTray t s n = 0 then (1, fil (upm (upm (upm (upm σ 113 1 0) 113 0 0) 114 t.toNat s) 115 t.toNat n) 116 (60 * t.toNat) (60 * t.toNat + n.toNat) 0) else (0, upm (upm (upm σ 113 1 0) 113 0 0) 113 0 (yTray t s n))) := by
  have hgood : 0 ≤ t → t < 4 → 0 ≤ n → n ≤ 60 → ((gf Sh (upm (upm σ 113 1 0) 113 0 0) 12 113 4).bind fun x3 =>
              (st_ Sh (upm (upm σ 113 1 0) 113 0 0) 20 x3 t s).bind fun σ4 =>
              (gf Sh σ4 12 113 5).bind fun x5 =>
              (st_ Sh σ4 20 x5 t n).bind fun σ6 =>
              f_X12_tray_h74 FU 113 t n 0 σ6) = some (1, fil (upm (upm (upm (upm σ 113 1 0) 113 0 0) 114 t.toNat s) 115 t.toNat n) 116 (60 * t.toNat) (60 * t.toNat + n.toNat) 0) := by
    intro h0 h1 h2 h3
    obtain ⟨k, rfl⟩ := nat_of h0
    obtain ⟨q, rfl⟩ := nat_of h2
    have hR2 : Ref (upm (upm σ 113 1 0) 113 0 0) := (hR.up rfl).up rfl
    have hR3 : Ref (upm (upm (upm σ 113 1 0) 113 0 0) 114 k s) := hR2.up (by rcases (show k = 0 ∨ k = 1 ∨ k = 2 ∨ k = 3 by omega) with rfl | rfl | rfl | rfl <;> rfl)
    have hR4 : Ref (upm (upm (upm (upm σ 113 1 0) 113 0 0) 114 k s) 115 k q) := hR3.up (by rcases (show k = 0 ∨ k = 1 ∨ k = 2 ∨ k = 3 by omega) with rfl | rfl | rfl | rfl <;> rfl)
    have e := m_tray_h (t := k) (n := q) (by omega) (by omega) q 0 _ (by omega) hR4 FU (by unfold FU; omega)
    rw [Nat.add_zero, fil_0] at e
    rw [gM]
    simp only [Option.bind_some]
    rw [hR2.at 113 4 114 rfl, st_at (aS4 h0 h1)]
    simp only [Option.bind_some]
    rw [gM]
    simp only [Option.bind_some]
    rw [show (114 : Int).toNat = 114 from rfl, Int.toNat_natCast, hR3.at 113 5 115 rfl, st_at (aN4 h0 h1)]
    simp only [Option.bind_some]
    exact e
  unfold f_X12_tray f_X12_tray_b0 yTray
  simp only [oM, if_true, pM, Option.bind_some, m_tray_b28, s_no, bz0]
  grind
