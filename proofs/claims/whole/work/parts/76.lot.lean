/-! ===== FRACTIONS: lot, couples ===== -/
section
variable {σ τ : Mem} {B D : Nat → Int} {fx fm : Mem → Option (Int × Mem)}
theorem tmod_nat {g r : Nat} (h : r < 1125899906842624) (hr : 0 < r) : w64 (Int.tmod (g : Int) (r : Int)) = ((g % r : Nat) : Int) := by
  rw [Int.tmod_eq_emod_of_nonneg (by omega), ← Int.natCast_emod]
  have := Nat.mod_lt g hr
  exact w64_in (by omega) (by omega)
theorem tdiv_nat {g r : Nat} (h : g < 1125899906842624) : w64 (Int.tdiv (g : Int) (r : Int)) = ((g / r : Nat) : Int) := by
  rw [Int.tdiv_eq_ediv_of_nonneg (by omega), ← Int.natCast_ediv]
  have h2 := Nat.div_le_self g r
  generalize g / r = d at h2 ⊢
  exact w64_in (by omega) (by omega)
theorem lz : lcmp ((0 : Nat) : Int) 0 = 0 := lcmp_eq.mpr rfl
theorem lz0 : lcmp 0 0 = 0 := lcmp_eq.mpr rfl
theorem half_mod {r s : Nat} (hs : 0 < s) (h : s < r) : 2 * (r % s) < r := by
  have h1 := Nat.mod_lt r hs
  have h2 := Nat.div_add_mod r s
  have h3 : 1 ≤ r / s := (Nat.le_div_iff_mul_le hs).mpr (by omega)
  have h4 : s ≤ s * (r / s) := Nat.le_mul_of_pos_right s h3
  omega
theorem x_cd : ∀ (k : Nat), k ≤ 50 → ∀ (g r n i : Nat), r < 2 ^ k → i + 2 * k < 200 → 2 * k + 1 < n → f_X2_commonDivisor_h9 n g r i σ = some ((Nat.gcd g r : Nat) : Int) := by
  intro k
  induction k with
  | zero =>
    intro _ g r n i hr hi hn
    obtain ⟨n, rfl⟩ : ∃ m, n = m + 1 := ⟨n - 1, by omega⟩
    have : r = 0 := by simpa using hr
    subst this
    rw [hs_X2_commonDivisor_h9]
    unfold f_X2_commonDivisor_b9
    rw [if_neg (by omega), if_pos lz, Nat.gcd_zero_right]
  | succ k ih =>
    intro hk g r n i hr hi hn
    have hp : (2 : Nat) ^ (k + 1) ≤ 2 ^ 50 := Nat.pow_le_pow_right (by omega) hk
    obtain ⟨n, rfl⟩ : ∃ m, n = m + 2 := ⟨n - 2, by omega⟩
    rw [hs_X2_commonDivisor_h9]
    unfold f_X2_commonDivisor_b9
    rw [if_neg (by omega)]
    by_cases z : r = 0
    · subst z
      rw [if_pos lz, Nat.gcd_zero_right]
    · rw [if_neg (by rw [lcmp_eq]; omega), nzp (by omega), obs, tmod_nat (by omega) (by omega), w32_in (by omega) (by omega), hs_X2_commonDivisor_h9]
      unfold f_X2_commonDivisor_b9
      rw [if_neg (by omega)]
      have hl := Nat.mod_lt g (show 0 < r by omega)
      have eg : Nat.gcd g r = Nat.gcd r (g % r) := by rw [Nat.gcd_comm g r, Nat.gcd_rec r g, Nat.gcd_comm]
      by_cases y : g % r = 0
      · rw [y, if_pos lz, eg, y, Nat.gcd_zero_right]
      · rw [if_neg (by rw [lcmp_eq]; omega), nzp (by omega), obs, tmod_nat (by omega) (by omega), w32_in (by omega) (by omega)]
        have := half_mod (s := g % r) (r := r) (by omega) hl
        have e2 := ih (by omega) (g % r) (r % (g % r)) n (i + 1 + 1) (by rw [Nat.pow_succ] at hr; omega) (by omega) (by omega)
        rw [show ((i : Int) + 1 + 1) = ((i + 1 + 1 : Nat) : Int) by omega, e2, eg, Nat.gcd_comm r (g % r), Nat.gcd_rec (g % r) r, Nat.gcd_comm]
theorem m_fr_h {t b : Int} : ∀ (k : Nat), k ≤ 50 → ∀ (g r n : Nat), r < 2 ^ k → 2 * k + 1 < n → f_X12_fraction_h9 n 113 t b g r τ = f_X12_fraction_b9 (f_X12_fraction_h9 0) 113 t b (Nat.gcd g r : Nat) 0 τ := by
  intro k
  induction k with
  | zero =>
    intro _ g r n hr hn
    obtain ⟨n, rfl⟩ : ∃ m, n = m + 1 := ⟨n - 1, by omega⟩
    have : r = 0 := by simpa using hr
    subst this
    rw [hs_X12_fraction_h9, Nat.gcd_zero_right]
    unfold f_X12_fraction_b9
    rw [if_pos lz, if_pos lz0]
  | succ k ih =>
    intro hk g r n hr hn
    have hp : (2 : Nat) ^ (k + 1) ≤ 2 ^ 50 := Nat.pow_le_pow_right (by omega) hk
    obtain ⟨n, rfl⟩ : ∃ m, n = m + 2 := ⟨n - 2, by omega⟩
    have z0 : ∀ k9 (g : Int), f_X12_fraction_b9 k9 113 t b g ((0 : Nat) : Int) τ = f_X12_fraction_b9 (f_X12_fraction_h9 0) 113 t b g 0 τ := fun k9 g => by
      unfold f_X12_fraction_b9
      rw [if_pos lz, if_pos lz0]
    have z1 : ∀ k9 (g r : Nat), 0 < r → r < 2 ^ (k + 1) → f_X12_fraction_b9 k9 113 t b g r τ = k9 113 t b r ((g % r : Nat) : Int) τ := fun k9 g r h1 h2 => by
      unfold f_X12_fraction_b9
      rw [if_neg (by rw [lcmp_eq]; omega), nzp (by omega), obs, tmod_nat (by omega) h1]
    rw [hs_X12_fraction_h9]
    by_cases z : r = 0
    · subst z
      rw [z0, Nat.gcd_zero_right]
    · have hl := Nat.mod_lt g (show 0 < r by omega)
      have eg : Nat.gcd g r = Nat.gcd r (g % r) := by rw [Nat.gcd_comm g r, Nat.gcd_rec r g, Nat.gcd_comm]
      rw [z1 _ _ _ (by omega) hr, hs_X12_fraction_h9]
      by_cases y : g % r = 0
      · rw [eg, y, z0, Nat.gcd_zero_right]
      · rw [z1 _ _ _ (by omega) (by omega)]
        have := half_mod (s := g % r) (r := r) (by omega) hl
        rw [ih (by omega) (g % r) (r % (g % r)) n (by rw [Nat.pow_succ] at hr; omega) (by omega), eg, Nat.gcd_comm r (g % r), Nat.gcd_rec (g % r) r, Nat.gcd_comm]
theorem x_tell {t b : Nat} (ht : t < 1125899906842624) (hb : b < 1125899906842624) (h0 : 0 < b) : f_X2_tell 59 t b σ = some (upm (upm σ 59 0 ((t / Nat.gcd t b : Nat) : Int)) 59 1 ((b / Nat.gcd t b : Nat) : Int)) := by
  have hg : 0 < Nat.gcd t b := Nat.gcd_pos_of_pos_right t h0
  unfold f_X2_tell f_X2_tell_b0 f_X2_commonDivisor f_X2_commonDivisor_b0
  rw [if_pos oF, show f_X2_commonDivisor_h9 FU t b 0 σ = _ from x_cd 50 (Nat.le_refl _) t b FU 0 hb (by omega) (by unfold FU; omega), obs, if_neg (by rw [lcmp_le]; omega), nzp (by omega), obs, tdiv_nat ht, pF, obs, tdiv_nat hb, obs, pF, obs]
theorem m_fraction {t b : Nat} (ht : t < 1125899906842624) (hb : b < 1125899906842624) (h0 : 0 < b) : f_X12_fraction 113 t b τ = some (1, upm (upm τ 113 2 ((t / Nat.gcd t b : Nat) : Int)) 113 3 ((b / Nat.gcd t b : Nat) : Int)) := by
  have hg : 0 < Nat.gcd t b := Nat.gcd_pos_of_pos_right t h0
  have el : labs (t : Int) = t := by
    unfold labs
    split
    · rfl
    · rw [w64_in (by omega) (by omega)]; omega
  unfold f_X12_fraction f_X12_fraction_b0
  rw [if_pos oM, el, m_fr_h 50 (Nat.le_refl _) t b FU hb (by unfold FU; omega)]
  unfold f_X12_fraction_b9
  rw [if_pos lz0, nzp (by omega), obs, tdiv_nat ht, pM, obs, tdiv_nat hb, obs, pM, obs]
theorem Ok.mkf {r : Int} {t b : Nat} (h : Rel σ) (hx : fx σ = some (r, upm (upm (upm σ 0 19 0) 59 0 t) 59 1 b)) (hm : ∀ τ, MH τ (σ 118) → (∀ c, 113 ≤ c → τ c = σ c) → ∃ τ1, fm τ = some (r, upm (upm τ1 113 2 t) 113 3 b) ∧ Fr [11, 20] τ τ1 ∧ τ1 113 0 = 0) : Ok fx fm σ := by
  have f1 : Fr [0, 1, 2] σ (upm (upm (upm σ 0 19 0) 59 0 t) 59 1 b) := ((Fr.up (show gid 0 19 ∈ _ by decide)).then (by decide)).then (by decide)
  have hi := f1.hi (by decide)
  obtain ⟨τ1, e2, f2, s2⟩ := hm _ ⟨f1.ref (by decide) h.1, hi 118 (by omega), h.xh.2.2⟩ hi
  have f3 : Fr [11, 12, 20] _ (upm (upm τ1 113 2 t) 113 3 b) := ((f2.mono (by decide)).then (show gid 113 2 ∈ [11, 12, 20] by decide)).then (by decide)
  have lo := f3.lo (by decide)
  refine ⟨r, _, _, hx, e2, h.step [0, 1, 2, 11, 12, 20] ((f1.mono (by decide)).trans (f3.mono (by decide))) (by decide) ?_ (fun _ => ?_) (fun q => absurd q (by decide)) (fun q => absurd q (by decide)) (fun q => absurd q (by decide)) (fun q => absurd q (by decide)) (fun q => absurd q (by decide)) (fun q => absurd q (by decide)) (fun q => absurd q (by decide))⟩
  · rw [lo 0 (by omega), upm_app, if_neg (by omega), upm_app, if_neg (by omega), upm_same, upm_app, if_neg (by omega), upm_app, if_neg (by omega), s2]
  · unfold R2
    rw [lo 59 (by omega), upm_same, upm_same, upm_app, if_neg (by omega), upm_same, upm_app, if_neg (by omega), upm_same]
    exact ⟨rfl, rfl⟩
/-! lot -/
def lsm (B : Nat → Int) (g w : Int) : Nat → Nat
  | 0 => 0
  | p + 1 => lsm B g w p + if stn B p = true then (if w = 0 then (if cdm B g p = true then 1 else 0) else tc B g p) else 0
theorem lsm_s {g w : Int} {p : Nat} : lsm B g w (p + 1) = lsm B g w p + if stn B p = true then (if w = 0 then (if cdm B g p = true then 1 else 0) else tc B g p) else 0 := rfl
theorem tc_le {g : Int} {p : Nat} : tc B g p ≤ 10 := sz_le _
theorem lsm_le {g w : Int} (p : Nat) : lsm B g w p ≤ 10 * p := by
  induction p with
  | zero => exact Nat.le_refl _
  | succ p ih =>
    unfold lsm
    have := @tc_le B g p
    split <;> (try split) <;> (try split) <;> omega
theorem x_lot_h {g w : Int} (h : XH σ B D) (hw : w = 0 ∨ w = 1) (h0 : 0 < sz (aS B)) : f_X11_lot_h33 FU 0 g w 0 0 σ = some (1, upm (upm σ 59 0 ((lsm B g w (nP B) / Nat.gcd (lsm B g w (nP B)) (sz (aS B)) : Nat) : Int)) 59 1 ((sz (aS B) / Nat.gcd (lsm B g w (nP B)) (sz (aS B)) : Nat) : Int)) := by
  have hB := h.2.2.nP_le
  have l1 := @lsm_le B g w (nP B)
  have l2 := sz_le (aS B)
  refine up_all (Q := fun n i => f_X11_lot_h33 n 0 g w (lsm B g w i : Nat) i σ = some (1, upm (upm σ 59 0 ((lsm B g w (nP B) / Nat.gcd (lsm B g w (nP B)) (sz (aS B)) : Nat) : Int)) 59 1 ((sz (aS B) / Nat.gcd (lsm B g w (nP B)) (sz (aS B)) : Nat) : Int))) (nP B) (fun n => ?_) (fun n i hi ih => ?_) (by unfold FU; omega)
  · rw [hs_X11_lot_h33]
    unfold f_X11_lot_b33
    simp only [gX, obs, h.1.at 0 3 5 rfl, h.1.at 0 15 59 rfl, w_g, h.2.1.1.1, w_stoneCount h]
    rw [if_pos (by omega), x_tell (by omega) (by omega) h0, obs]
  · have l3 := @lsm_le B g w i
    have l4 := @tc_le B g i
    rw [hs_X11_lot_h33]
    unfold f_X11_lot_b33 f_X11_lot_b95 f_X11_lot_b97
    simp only [gX, obs, h.1.at 0 3 5 rfl, w_g, h.2.1.1.1, w_isStone' h hi, w_condemns h hi, w_turnCount h (show i < 10 by omega)]
    rw [if_neg (by omega), w32_in (z := (i : Int) + 1) (by omega) (by omega)]
    rw [lsm_s] at ih
    by_cases s : stn B i = true
    · rw [if_pos s, if_neg (by decide)]
      rw [if_pos s] at ih
      rcases hw with rfl | rfl
      · rw [if_pos rfl]
        rw [if_pos rfl] at ih
        by_cases c : cdm B g i = true
        · rw [if_pos c, if_neg (by decide), w32_in (by omega) (by omega)]
          rw [if_pos c] at ih
          exact ih
        · rw [if_neg c, if_pos rfl, w32_in (by omega) (by omega)]
          rw [if_neg c] at ih
          exact ih
      · rw [if_neg (by decide), w32_in (by omega) (by omega)]
        rw [if_neg (by decide)] at ih
        exact ih
    · rw [if_neg s, if_pos rfl]
      rw [if_neg s] at ih
      exact ih
theorem m_lot_h {g w : Int} (h : MH τ B) (hw : w = 0 ∨ w = 1) (h0 : 0 < sz (aS B)) : f_X12_lot_h63 FU 113 g w (sz (aS B) : Nat) 0 0 τ = some (1, upm (upm τ 113 2 ((lsm B g w (nP B) / Nat.gcd (lsm B g w (nP B)) (sz (aS B)) : Nat) : Int)) 113 3 ((sz (aS B) / Nat.gcd (lsm B g w (nP B)) (sz (aS B)) : Nat) : Int)) := by
  have hB := h.2.2.nP_le
  have l1 := @lsm_le B g w (nP B)
  have l2 := sz_le (aS B)
  refine up_all (Q := fun n i => f_X12_lot_h63 n 113 g w (sz (aS B) : Nat) (lsm B g w i : Nat) i τ = some (1, upm (upm τ 113 2 ((lsm B g w (nP B) / Nat.gcd (lsm B g w (nP B)) (sz (aS B)) : Nat) : Int)) 113 3 ((sz (aS B) / Nat.gcd (lsm B g w (nP B)) (sz (aS B)) : Nat) : Int))) (nP B) (fun n => ?_) (fun n i hi ih => ?_) (by unfold FU; omega)
  · rw [hs_X12_lot_h63]
    unfold f_X12_lot_b63
    simp only [gM, obs, h.1.at 113 20 118 rfl, m_c0 h]
    rw [if_pos (by omega), m_fraction (by omega) (by omega) h0, obs, bz1, obs]
  · have l3 := @lsm_le B g w i
    have l4 := @tc_le B g i
    rw [hs_X12_lot_h63]
    unfold f_X12_lot_b63 f_X12_lot_b118 f_X12_lot_b121
    simp only [gM, obs, h.1.at 113 20 118 rfl, m_c0 h, m_stone' h (show i < 1000 by omega), m_isCondemned h.1 h.2.1 h.2.2 (show i < 10 by omega), m_turnedFrom h.1 h.2.1 h.2.2 (g := g) (show 0 ≤ (i : Int) ∧ (i : Int) < 10 by omega), s_sizeOf (tS_lt h.2.2)]
    rw [if_neg (by omega), w32_in (z := (i : Int) + 1) (by omega) (by omega), show sz (tS B g i) = tc B g i from rfl]
    rw [lsm_s] at ih
    by_cases s : stn B i = true
    · rw [if_pos s, if_neg (by decide)]
      rw [if_pos s] at ih
      rcases hw with rfl | rfl
      · rw [if_neg (by decide)]
        rw [if_pos rfl] at ih
        by_cases c : cdm B g i = true
        · rw [if_pos c, if_neg (by decide), w32_in (by omega) (by omega)]
          rw [if_pos c] at ih
          exact ih
        · rw [if_neg c, if_pos rfl, w32_in (by omega) (by omega)]
          rw [if_neg c] at ih
          exact ih
      · rw [if_pos rfl, w32_in (by omega) (by omega)]
        rw [if_neg (by decide)] at ih
        exact ih
    · rw [if_neg s, if_pos rfl]
      rw [if_neg s] at ih
      exact ih
theorem sz_0 {P : Nat → Bool} {n : Nat} (h : n ≤ 10) : sz (setOf P n) = 0 ↔ setOf P n = 0 := by
  rw [sz_setOf h, setOf_0]
  clear h
  induction n with
  | zero => exact ⟨fun _ k hk => by omega, fun _ => rfl⟩
  | succ n ih =>
    rw [cnt_s]
    constructor
    · intro q k hk
      by_cases t : k = n
      · subst t
        cases e : P k
        · rfl
        · rw [e] at q; simp at q
      · exact (ih.mp (by omega)) k (by omega)
    · intro q
      rw [ih.mpr (fun k hk => q k (by omega)), q n (by omega)]
      rfl
theorem x_lot_e {g w : Int} : f_X11_lot 0 g w σ = f_X11_lot_b17 0 g w (if w = 0 ∨ w = 1 then 1 else 0) g 0 0 σ := by
  unfold f_X11_lot f_X11_lot_b0 f_X11_lot_b12
  rw [if_pos oX]
  grind
theorem ok_lot {g w : Int} (h : Rel σ) : Ok (f_X11_lot 0 g w) (f_X12_lot 113 g w) σ := by
  have hx := h.xh
  have hB := hx.2.2.nP_le
  have ey : yGs (σ 118) g (¬ (if w = 0 ∨ w = 1 then (1 : Int) else 0) = 0) = yGs (σ 118) g (w = 0 ∨ w = 1) := yGs_cg (by grind)
  by_cases hy : yGs (σ 118) g (w = 0 ∨ w = 1) = 0
  · have hg : (0 ≤ g ∧ g ≤ 99) ∧ (w = 0 ∨ w = 1) ∧ ¬ aS (σ 118) = 0 := by unfold yGs at hy; grind
    have h0 : 0 < sz (aS (σ 118)) := by
      have := @sz_0 (stn (σ 118)) (nP (σ 118)) hB.1
      have h2 := hg.2.2
      unfold aS at h2 ⊢
      omega
    refine Ok.mkf h (r := 1) (t := lsm (σ 118) g w (nP (σ 118)) / Nat.gcd (lsm (σ 118) g w (nP (σ 118))) (sz (aS (σ 118)))) (b := sz (aS (σ 118)) / Nat.gcd (lsm (σ 118) g w (nP (σ 118))) (sz (aS (σ 118)))) ?_ fun τ ht _ => ⟨rf2 τ, ?_, fr_rf, rfl⟩
    · rw [x_lot_e]
      unfold f_X11_lot_b17
      rw [x_guiltOfStonesWhy hx, obs, ey, hy, s_ref0, obs]
      dsimp only
      rw [if_pos rfl, x_lot_h hx.st hg.2.1 h0]
    · unfold f_X12_lot f_X12_lot_b0
      simp only [oM, if_true, pM, obs, rf2_e, s_isIn, m_stones ht.rf.1 ht.rf.2.1 ht.rf.2.2, s_sizeOf (aS_lt ht.2.2)]
      rw [if_pos hg.1, if_pos (show 0 ≤ w ∧ w ≤ 1 by omega), if_neg (by decide), if_neg (by decide), if_neg (by omega), m_lot_h ht.rf hg.2.1 h0]
  · refine Ok.mk (r := 0) (y := yGs (σ 118) g (w = 0 ∨ w = 1)) h (XO.mk ?_) fun τ ht _ => MO.mkr ?_
    · rw [x_lot_e]
      unfold f_X11_lot_b17
      rw [x_guiltOfStonesWhy hx, obs, ey, s_refn hy, obs]
      rfl
    · unfold f_X12_lot f_X12_lot_b0 f_X12_lot_b32
      simp only [oM, if_true, pM, obs, rf2_e, s_isIn, m_stones ht.rf.1 ht.rf.2.1 ht.rf.2.2, s_sizeOf (aS_lt ht.2.2), s_no, bz0]
      have := @sz_0 (stn (σ 118)) (nP (σ 118)) hB.1
      unfold yGs at hy ⊢
      unfold aS at hy ⊢
      grind
end
