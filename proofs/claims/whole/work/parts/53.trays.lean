/-! ===== TRAYS: what the court's and the reference's methods do to their cells ===== -/
theorem lcmp_le {x y : Int} : lcmp x y ≤ 0 ↔ x ≤ y := by unfold lcmp; split <;> (try split) <;> omega
theorem lcmp_lt {x y : Int} : lcmp x y < 0 ↔ x < y := by unfold lcmp; split <;> (try split) <;> omega
theorem lcmp_ge {x y : Int} : 0 ≤ lcmp x y ↔ y ≤ x := by unfold lcmp; split <;> (try split) <;> omega
theorem lcmp_gt {x y : Int} : 0 < lcmp x y ↔ y < x := by unfold lcmp; split <;> (try split) <;> omega
theorem lcmp_eq {x y : Int} : lcmp x y = 0 ↔ x = y := by unfold lcmp; split <;> (try split) <;> omega
theorem nat_of {v : Int} (h : 0 ≤ v) : ∃ n : Nat, v = (n : Int) := ⟨v.toNat, by omega⟩
theorem oT {t : Nat} (h : t < 4) : isO Sh 8 ((60 + 2 * t : Nat) : Int) = true := by
  rcases (show t = 0 ∨ t = 1 ∨ t = 2 ∨ t = 3 by omega) with rfl | rfl | rfl | rfl <;> rfl
theorem aT {t : Nat} {i : Int} (h : t < 4) (h0 : 0 ≤ i) (h1 : i < 60) : isA Sh 21 ((61 + 2 * t : Nat) : Int) i = true := by
  rcases (show t = 0 ∨ t = 1 ∨ t = 2 ∨ t = 3 by omega) with rfl | rfl | rfl | rfl
  · exact isA_at (a := 61) rfl h0 h1
  · exact isA_at (a := 63) rfl h0 h1
  · exact isA_at (a := 65) rfl h0 h1
  · exact isA_at (a := 67) rfl h0 h1
theorem rT {σ : Mem} (hR : Ref σ) {t : Nat} (h : t < 4) : σ 1 t = ((60 + 2 * t : Nat) : Int) ∧ σ (60 + 2 * t) 0 = ((61 + 2 * t : Nat) : Int) := by
  rcases (show t = 0 ∨ t = 1 ∨ t = 2 ∨ t = 3 by omega) with rfl | rfl | rfl | rfl
  · exact ⟨hR.at 1 0 60 rfl, hR.at 60 0 61 rfl⟩
  · exact ⟨hR.at 1 1 62 rfl, hR.at 62 0 63 rfl⟩
  · exact ⟨hR.at 1 2 64 rfl, hR.at 64 0 65 rfl⟩
  · exact ⟨hR.at 1 3 66 rfl, hR.at 66 0 67 rfl⟩
theorem aTs {i : Int} (h0 : 0 ≤ i) (h1 : i < 4) : isA Sh 38 1 i = true := isA_at (a := 1) rfl h0 h1
theorem aS4 {i : Int} (h0 : 0 ≤ i) (h1 : i < 4) : isA Sh 20 114 i = true := isA_at (a := 114) rfl h0 h1
theorem aN4 {i : Int} (h0 : 0 ≤ i) (h1 : i < 4) : isA Sh 20 115 i = true := isA_at (a := 115) rfl h0 h1
theorem aNum {i : Int} (h0 : 0 ≤ i) (h1 : i < 240) : isA Sh 21 116 i = true := isA_at (a := 116) rfl h0 h1
theorem nTi (t : Nat) : (((60 + 2 * t : Nat) : Int)).toNat = 60 + 2 * t ∧ (((61 + 2 * t : Nat) : Int)).toNat = 61 + 2 * t ∧ ((t : Int)).toNat = t := ⟨Int.toNat_natCast _, Int.toNat_natCast _, Int.toNat_natCast _⟩
/-! the court's side -/
theorem s_refused {σ : Mem} {v : Int} : f_X11_refused 0 v σ = some (if v = 0 then 0 else 1, upm σ 0 19 v) := by
  unfold f_X11_refused f_X11_refused_b0
  rw [if_pos oX, pf_at oX]
  simp only [Option.bind_some]
  split <;> rfl
theorem s_isTray {σ : Mem} {v : Int} : f_X11_isTray v σ = some (if 0 ≤ v ∧ v < 4 then 1 else 0) := by
  unfold f_X11_isTray f_X11_isTray_b0
  by_cases h : 0 ≤ v ∧ v < 4
  · rw [if_pos h, if_neg (by omega), if_neg (by omega)]
  · rw [if_neg h]
    by_cases h2 : v < 0
    · rw [if_pos h2]
    · rw [if_neg h2, if_pos (by omega)]
theorem s_isSort {σ : Mem} {v : Int} : f_X8_isSort v σ = some (if 0 ≤ v ∧ v ≤ 3 then 1 else 0) := by
  unfold f_X8_isSort f_X8_isSort_b0
  by_cases h : 0 ≤ v ∧ v ≤ 3
  · rw [if_pos h, if_neg (by omega), if_neg (by omega)]
  · rw [if_neg h]
    by_cases h2 : v < 0
    · rw [if_pos h2]
    · rw [if_neg h2, if_pos (by omega)]
theorem s_make_h {t : Nat} (ht : t < 4) : ∀ (m i : Nat) (σ : Mem), i + m = 60 → Ref σ → ∀ n, m < n → f_X8_make_h12 n ((60 + 2 * t : Nat) : Int) i (fil σ (61 + 2 * t) 0 i 0) = some (fil σ (61 + 2 * t) 0 60 0) := by
  have hnr : (rfT.any fun e => e.1 == 61 + 2 * t) = false := by
    rcases (show t = 0 ∨ t = 1 ∨ t = 2 ∨ t = 3 by omega) with rfl | rfl | rfl | rfl <;> rfl
  intro m
  induction m with
  | zero =>
    intro i σ hi hR n hn
    obtain ⟨n, rfl⟩ : ∃ k, n = k + 1 := ⟨n - 1, by omega⟩
    have hi : i = 60 := by omega
    subst hi
    show f_X8_make_b12 (f_X8_make_h12 n) _ _ _ = _
    unfold f_X8_make_b12
    rw [if_pos (by omega)]
  | succ m ih =>
    intro i σ hi hR n hn
    obtain ⟨n, rfl⟩ : ∃ k, n = k + 1 := ⟨n - 1, by omega⟩
    have hR' : Ref (fil σ (61 + 2 * t) 0 i 0) := hR.fil hnr
    show f_X8_make_b12 (f_X8_make_h12 n) _ _ _ = _
    unfold f_X8_make_b12
    rw [if_neg (by omega), gf_at (oT ht)]
    simp only [Option.bind_some]
    rw [(nTi t).1, (rT hR' ht).2, st_at (aT ht (by omega) (by omega)), w32_in (by omega) (by omega)]
    simp only [Option.bind_some]
    rw [(nTi t).2.1, Int.toNat_natCast, fil_s (by omega)]
    exact ih (i + 1) σ (by omega) hR n (by omega)
theorem s_make {σ : Mem} {t : Nat} {s n : Int} (hR : Ref σ) (ht : t < 4) : f_X8_make ((60 + 2 * t : Nat) : Int) s n σ = some (fil (upm (upm σ (60 + 2 * t) 1 s) (60 + 2 * t) 2 n) (61 + 2 * t) 0 60 0) := by
  have h1 : isRf (60 + 2 * t) 1 = false ∧ isRf (60 + 2 * t) 2 = false := by
    rcases (show t = 0 ∨ t = 1 ∨ t = 2 ∨ t = 3 by omega) with rfl | rfl | rfl | rfl <;> exact ⟨rfl, rfl⟩
  unfold f_X8_make f_X8_make_b0
  rw [if_pos (oT ht), pf_at (oT ht)]
  simp only [Option.bind_some]
  rw [pf_at (oT ht)]
  simp only [Option.bind_some]
  rw [(nTi t).1]
  have := s_make_h ht 60 0 (upm (upm σ (60 + 2 * t) 1 s) (60 + 2 * t) 2 n) rfl ((hR.up h1.1).up h1.2) FU (by unfold FU; omega)
  rw [fil_0] at this
  exact this
/-- why a TRAY can't be made -/
def yTray (t s n : Int) : Int := if ¬ (0 ≤ t ∧ t < 4) ∨ ¬ (0 ≤ s ∧ s ≤ 3) then 1 else if 60 < n then 5 else if n < 0 then 6 else 0
theorem x_tray_b43w {σ : Mem} {t s n w : Int} (hw : ¬ w = 0) : f_X11_tray_b43 0 t s n w σ = some (0, upm σ 0 19 w) := by
  unfold f_X11_tray_b43
  simp [s_refused, hw]
theorem x_tray_b43 {σ : Mem} {t s n : Int} (hR : Ref σ) (h0 : 0 ≤ t) (h1 : t < 4) : f_X11_tray_b43 0 t s n 0 σ = some (1, fil (upm (upm (upm σ 0 19 0) (60 + 2 * t.toNat) 1 s) (60 + 2 * t.toNat) 2 n) (61 + 2 * t.toNat) 0 60 0) := by
  unfold f_X11_tray_b43
  obtain ⟨k, rfl⟩ := nat_of h0
  have hk : k < 4 := by omega
  have hR' : Ref (upm σ 0 19 0) := hR.up rfl
  have e1 : upm σ 0 19 0 0 0 = 1 := hR'.at 0 0 1 rfl
  simp only [s_refused, Option.bind_some, if_true, gf_at oX, show (0 : Int).toNat = 0 from rfl, e1, al_at (aTs h0 h1), show (1 : Int).toNat = 1 from rfl, (nTi k).2.2, (rT hR' hk).1, s_make hR' hk]
theorem x_tray {σ : Mem} {t s n : Int} (hR : Ref σ) : f_X11_tray 0 t s n σ = some (if yTray t s n = 0 then (1, fil (upm (upm (upm σ 0 19 0) (60 + 2 * t.toNat) 1 s) (60 + 2 * t.toNat) 2 n) (61 + 2 * t.toNat) 0 60 0) else (0, upm σ 0 19 (yTray t s n))) := by
  unfold f_X11_tray f_X11_tray_b0 f_X11_tray_b17 yTray
  simp only [oX, if_true, s_isTray, s_isSort, Option.bind_some]
  have a1 := @x_tray_b43w σ t s n 1 (by decide)
  have a5 := @x_tray_b43w σ t s n 5 (by decide)
  have a6 := @x_tray_b43w σ t s n 6 (by decide)
  have a0 := @x_tray_b43 σ t s n hR
  grind
