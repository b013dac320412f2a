/-! ===== fits, fitsBy ===== -/
section
variable {σ τ : Mem} {B D N : Nat → Int}
theorem oG : isO Sh 3 53 = true := rfl
theorem gG {j : Nat} : gf Sh σ 3 53 j = some (σ 53 j) := gf_at oG
theorem pG {j : Nat} {v : Int} : pf Sh σ 3 53 j v = some (upm σ 53 j v) := pf_at oG
theorem m_numberOf {t j : Nat} (hR : Ref τ) (ht : t < 4) (hj : j < 60) : f_X12_numberOf 113 t j τ = some (τ 116 (60 * t + j)) := by
  unfold f_X12_numberOf f_X12_numberOf_b0
  simp only [oM, if_true, gM, obs, hR.at 113 6 116 rfl]
  rw [w32_in (z := 60 * (t : Int)) (by omega) (by omega), w32_in (by omega) (by omega), m_num (by omega) (by omega), obs, show (60 * (t : Int) + j).toNat = 60 * t + j by omega]
/-- why threes can't be read -/
def yTh (L : Nat → Int) (t n m : Int) : Int := if ¬ (0 ≤ t ∧ t < 4) then 1 else if L t.toNat < 0 then 3 else if L t.toNat < 3 * n then 4 else if 0 ≤ n ∧ n ≤ m then 0 else 5
theorem x_threesWhy {t n m : Int} (h : Rel σ) (hn : R32 n) : f_X11_threesWhy 0 t n m σ = some (yTh (σ 115) t n m) := by
  obtain ⟨n1, n2⟩ := hn
  unfold f_X11_threesWhy f_X11_threesWhy_b0 f_X11_threesWhy_b54 yTh
  simp only [oX, if_true, s_isTray, obs, gX, h.1.at 0 0 1 rfl, lcmp_le]
  rw [w64_in (by omega) (by omega)]
  by_cases q : 0 ≤ t ∧ t < 4
  · obtain ⟨a, rfl⟩ := nat_of q.1
    have ha : a < 4 := by omega
    simp only [q, and_self, if_true, Int.one_ne_zero, if_false, x_trays h.1 ha, obs, s_isMissing ha, Int.toNat_natCast, not_true, x_g1 ha]
    rcases h.r3 a ha with ⟨z1, z2⟩ | ⟨z1, z2, z3, z4, _⟩
    · simp [z1, z2]
    · rw [if_neg (show ¬ σ (60 + 2 * a) 1 = -1 by omega), z4]
      grind
  · grind
theorem yTh0 {L : Nat → Int} {t n m : Int} (h : yTh L t n m = 0) : ∃ a k : Nat, t = a ∧ n = k ∧ a < 4 ∧ (k : Int) ≤ m ∧ 3 * (k : Int) ≤ L a := by
  unfold yTh at h
  have : (0 ≤ t ∧ t < 4) ∧ (0 ≤ n ∧ n ≤ m) ∧ ¬ L t.toNat < 3 * n := by grind
  obtain ⟨h1, h2, h3⟩ := this
  obtain ⟨a, rfl⟩ := nat_of h1.1
  obtain ⟨k, rfl⟩ := nat_of h2.1
  rw [Int.toNat_natCast] at h3
  exact ⟨a, k, rfl, rfl, by omega, h2.2, by omega⟩
def okF (B N : Nat → Int) (i : Nat) : Bool := decide ((0 ≤ N (3 * i) ∧ N (3 * i) < B 0) ∧ (0 ≤ N (3 * i + 1) ∧ N (3 * i + 1) < B 0) ∧ stn B (N (3 * i + 1)).toNat = true ∧ 0 ≤ N (3 * i + 2) ∧ N (3 * i + 2) ≤ 1)
def mF (B N : Nat → Int) (i : Nat) : Int := mc B (N (3 * i + 1)).toNat (N (3 * i))
def flo (B N : Nat → Int) : Nat → Int
  | 0 => 0
  | i + 1 => if N (3 * i + 2) = 1 then imax (flo B N i) (mF B N i + 1) else flo B N i
def fhi (B N : Nat → Int) : Nat → Int
  | 0 => 60
  | i + 1 => if N (3 * i + 2) = 1 then fhi B N i else imin (fhi B N i) (mF B N i)
theorem flo_s {i : Nat} : flo B N (i + 1) = if N (3 * i + 2) = 1 then imax (flo B N i) (mF B N i + 1) else flo B N i := rfl
theorem fhi_s {i : Nat} : fhi B N (i + 1) = if N (3 * i + 2) = 1 then fhi B N i else imin (fhi B N i) (mF B N i) := rfl
def yFt (B N : Nat → Int) (n : Nat) : Int := if ff (fun i => !okF B N i) n 0 = -1 then 0 else 5
theorem mc_le {p : Nat} {q : Int} (hB : BV B) (hp : p < 10) (hq : 0 ≤ q ∧ q < 10) : -22 ≤ mc B p q ∧ mc B p q ≤ 61 := by
  unfold mc
  obtain ⟨b0, b1, b2, b3, b4, b5⟩ := hB
  have h1 := b4 p hp
  have h2 := @ds_le (B 0) p q b0 (by omega) hq
  have h3 := cs_le B p (nK B)
  have h4 : nK B ≤ 4 := by unfold nK; omega
  omega
theorem okF_d {i : Nat} (h : okF B N i = true) (hB : BV B) : ∃ a b : Nat, N (3 * i) = a ∧ N (3 * i + 1) = b ∧ a < nP B ∧ b < nP B ∧ stn B b = true ∧ (N (3 * i + 2) = 0 ∨ N (3 * i + 2) = 1) ∧ mF B N i = mc B b a := by
  unfold okF at h
  simp only [decide_eq_true_eq] at h
  obtain ⟨h1, h2, h3, h4⟩ := h
  obtain ⟨a, e1⟩ := nat_of h1.1
  obtain ⟨b, e2⟩ := nat_of h2.1
  have hn := hB.nP_le
  rw [e2, Int.toNat_natCast] at h3
  refine ⟨a, b, e1, e2, by omega, by omega, h3, by omega, ?_⟩
  unfold mF
  rw [e1, e2, Int.toNat_natCast]
theorem flo_le {n : Nat} (hB : BV B) (h : ∀ i, i < n → okF B N i = true) : (0 ≤ flo B N n ∧ flo B N n ≤ 62) ∧ -22 ≤ fhi B N n ∧ fhi B N n ≤ 60 := by
  have hn := hB.nP_le
  induction n with
  | zero => unfold flo fhi; omega
  | succ n ih =>
    have ih := ih (fun i hi => h i (by omega))
    obtain ⟨a, b, e1, e2, ha, hb, hs, ht, em⟩ := okF_d (h n (by omega)) hB
    have := @mc_le B b a hB (by omega) (by omega)
    rw [flo_s, fhi_s, em]
    unfold imax imin
    split <;> (try split) <;> omega
/-! the court's -/
theorem x_fits_h {t n : Nat} {N : Nat → Int} (h : XH σ B D) (ht : t < 4) (hn : n ≤ 20) (hN : ∀ j, j < 3 * n → σ (61 + 2 * t) j = N j) (h0 : σ 53 0 = 0) (h1 : σ 53 1 = 60) : ∃ σ', f_X11_fitsWhy_h45 FU 0 n ((61 + 2 * t : Nat) : Int) 0 σ = some (yFt B N n, σ') ∧ Fr [0] σ σ' ∧ (yFt B N n = 0 → (∀ i, i < n → okF B N i = true) ∧ σ' 53 0 = flo B N n ∧ σ' 53 1 = fhi B N n) := by
  have hB := h.2.2.nP_le
  have := up_all (Q := fun k i => ∀ σ1, Fr [0] σ σ1 → (∀ j, j < i → okF B N j = true) → σ1 53 0 = flo B N i → σ1 53 1 = fhi B N i → ∃ σ', f_X11_fitsWhy_h45 k 0 n ((61 + 2 * t : Nat) : Int) i σ1 = some (if ff (fun i => !okF B N i) n i = -1 then 0 else 5, σ') ∧ Fr [0] σ σ' ∧ (ff (fun i => !okF B N i) n i = -1 → (∀ i, i < n → okF B N i = true) ∧ σ' 53 0 = flo B N n ∧ σ' 53 1 = fhi B N n)) n (fun k σ1 f1 o1 e0 e1 => ?_) (fun k i hi ih σ1 f1 o1 e0 e1 => ?_) (by unfold FU; omega)
  · obtain ⟨σ', g1, g2, g3⟩ := this σ Fr.refl (fun j hj => by omega) h0 h1
    refine ⟨σ', g1, g2, fun z => g3 ?_⟩
    unfold yFt at z
    grind
  · rw [hs_X11_fitsWhy_h45]
    unfold f_X11_fitsWhy_b45
    rw [if_pos (by omega), ff_N]
    exact ⟨σ1, rfl, f1, fun _ => ⟨o1, e0, e1⟩⟩
  · have hx : XH σ1 B D := ⟨f1.ref (by decide) h.1, h.2.1.cg (fun b j q1 q2 => by
      rcases gid6 (j := j) q1 q2 with e | e
      · exact f1.at e (by decide)
      · exact f1.at e (by decide)) (fun _ _ => rfl) (fun _ _ => rfl) h.2.2, h.2.2⟩
    have hN1 : ∀ j, j < 3 * n → σ1 (61 + 2 * t) j = N j := fun j hj => by rw [f1.at (gidT ht) (by decide), hN j hj]
    rw [hs_X11_fitsWhy_h45]
    unfold f_X11_fitsWhy_b45
    rw [if_neg (by omega), w32_in (z := 3 * (i : Int)) (by omega) (by omega), w32_in (z := 3 * (i : Int) + 1) (by omega) (by omega), w32_in (z := 3 * (i : Int) + 2) (by omega) (by omega), show 3 * (i : Int) = ((3 * i : Nat) : Int) by omega, show ((3 * i : Nat) : Int) + 1 = ((3 * i + 1 : Nat) : Int) by omega, show ((3 * i : Nat) : Int) + 2 = ((3 * i + 2 : Nat) : Int) by omega, x_al ht (by omega), x_al ht (by omega), x_al ht (by omega), hN1 _ (by omega), hN1 _ (by omega), hN1 _ (by omega)]
    simp only [obs, gX, hx.1.at 0 3 5 rfl, hx.1.at 0 12 53 rfl, w_isPlace hx, w_isStone hx, lcmp_lt, lcmp_le, lcmp_eq]
    rw [ff_s hi]
    by_cases z : okF B N i = true
    · obtain ⟨a, b, q1, q2, ha, hb, hs, hw, em⟩ := okF_d z hx.2.2
      have q3 : 0 ≤ (a : Int) ∧ (a : Int) < B 0 := by omega
      have q4 : 0 ≤ (b : Int) ∧ (b : Int) < B 0 := by omega
      have lm := @mc_le B b a hx.2.2 (by omega) (by omega)
      rw [q1, q2, if_pos q3, if_pos (show 0 ≤ (b : Int) ∧ (b : Int) < B 0 ∧ stn B (b : Int).toNat = true by rw [Int.toNat_natCast]; exact ⟨q4.1, q4.2, hs⟩), if_neg (by decide), if_neg (by decide), if_neg (by omega), if_pos (by omega), w32_in (z := (a : Int)) (by omega) (by omega), w32_in (z := (b : Int)) (by omega) (by omega), w_mercyFor hx hb hs (by omega), obs]
      unfold f_X11_fitsWhy_b152 f_X3_tell f_X3_tell_b0
      simp only [oG, if_true, gG, pG, obs, e0, e1]
      rw [w32_in (z := (i : Int) + 1) (by omega) (by omega), w32_in (z := mc B b a + 1) (by omega) (by omega)]
      have o2 : ∀ j, j < i + 1 → okF B N j = true := fun j hj => by
        by_cases e : j = i
        · rw [e]; exact z
        · exact o1 j (by omega)
      simp only [z, Bool.not_true, Bool.false_eq_true, if_false]
      rcases hw with hw | hw
      · rw [hw, if_neg (by decide)]
        refine ih _ (f1.then (by decide)) o2 ?_ ?_
        · rw [upm_app, if_neg (by omega), e0, flo_s, hw, if_neg (by decide)]
        · rw [upm_same, fhi_s, hw, if_neg (by decide), em]
      · rw [hw, if_pos rfl]
        refine ih _ (f1.then (by decide)) o2 ?_ ?_
        · rw [upm_same, flo_s, hw, if_pos rfl, em]
        · rw [upm_app, if_neg (by omega), e1, fhi_s, hw, if_pos rfl]
    · refine ⟨σ1, ?_, f1, ?_⟩
      · have z' : okF B N i = false := by simpa using z
        simp only [z', Bool.not_false, if_true]
        rw [if_neg (show ¬ (i : Int) = -1 by omega)]
        unfold okF at z
        simp only [decide_eq_true_eq] at z
        grind
      · intro q
        have z' : okF B N i = false := by simpa using z
        simp only [z', Bool.not_false, if_true] at q
        omega
def rw3 (σ : Mem) (t : Int) : Nat → Int := fun j => σ 116 (60 * t.toNat + j)
def yFit (σ : Mem) (t n : Int) (c : Prop) [Decidable c] : Int := if yTh (σ 115) t n 20 = 0 then (if c then yFt (σ 118) (rw3 σ t) n.toNat else 5) else yTh (σ 115) t n 20
theorem yFt_c {n : Nat} : yFt B N n = 0 ∨ yFt B N n = 5 := by unfold yFt; grind
theorem x_fitsWhy {t n c : Int} (h : Rel σ) (hn : R32 n) : ∃ σ', f_X11_fitsWhy 0 t n c σ = some (yFit σ t n (¬ c = 0), σ') ∧ Fr [0] σ σ' ∧ (yFit σ t n (¬ c = 0) = 0 → (∀ i, i < n.toNat → okF (σ 118) (rw3 σ t) i = true) ∧ σ' 53 0 = flo (σ 118) (rw3 σ t) n.toNat ∧ σ' 53 1 = fhi (σ 118) (rw3 σ t) n.toNat) := by
  unfold f_X11_fitsWhy f_X11_fitsWhy_b0
  simp only [oX, if_true, x_threesWhy h hn, obs]
  by_cases hy : yTh (σ 115) t n 20 = 0
  · have ey : yFit σ t n (¬ c = 0) = if ¬ c = 0 then yFt (σ 118) (rw3 σ t) n.toNat else 5 := by unfold yFit; rw [if_pos hy]
    rw [ey, if_pos hy]
    by_cases hc : c = 0
    · rw [if_pos hc, if_neg (fun z => z hc)]
      exact ⟨σ, rfl, Fr.refl, fun z => by omega⟩
    · obtain ⟨a, k, rfl, rfl, ha, hk, hl⟩ := yTh0 hy
      rw [if_neg hc, if_pos hc]
      simp only [gX, obs, h.1.at 0 0 1 rfl, h.1.at 0 12 53 rfl, x_trays h.1 ha, x_g0 h.1 ha, Int.toNat_natCast]
      unfold f_X3_begin f_X3_begin_b0
      simp only [oG, if_true, pG, obs]
      have f0 : Fr [0] σ (upm (upm σ 53 0 0) 53 1 60) := (Fr.up (show gid 53 0 ∈ _ by decide)).then (by decide)
      have hx : XH (upm (upm σ 53 0 0) 53 1 60) (σ 118) (σ 120) := ⟨f0.ref (by decide) h.1, h.xh.2.1.cg (fun b j q1 q2 => by rw [upm_o (by omega), upm_o (by omega)]) (fun _ _ => rfl) (fun _ _ => rfl) h.xh.2.2, h.xh.2.2⟩
      have z := (h.r3 a ha).resolve_left (fun q => by omega)
      obtain ⟨σ', g1, g2, g3⟩ := x_fits_h (n := k) (N := rw3 σ a) hx ha (by omega) (fun j hj => by
        rw [upm_o (by omega), upm_o (by omega), z.2.2.2.2 j (by omega)]
        unfold rw3
        rw [Int.toNat_natCast]) rfl rfl
      exact ⟨σ', g1, f0.trans g2, g3⟩
  · have ey : yFit σ t n (¬ c = 0) = yTh (σ 115) t n 20 := by unfold yFit; rw [if_neg hy]
    rw [ey, if_neg hy]
    exact ⟨σ, rfl, Fr.refl, fun z => absurd z hy⟩
/-! the reference's -/
theorem m_fits_h {t n : Nat} (h : MH τ B) (ht : t < 4) (hn : n ≤ 20) : f_X12_whyNoFits_h56 FU 113 t n 0 τ = some (yFt B (rw3 τ t) n) := by
  have hB := h.2.2.nP_le
  refine up_all (Q := fun k i => f_X12_whyNoFits_h56 k 113 t n i τ = some (if ff (fun i => !okF B (rw3 τ t) i) n i = -1 then 0 else 5)) n (fun k => ?_) (fun k i hi ih => ?_) (by unfold FU; omega)
  · rw [hs_X12_whyNoFits_h56]
    unfold f_X12_whyNoFits_b56
    rw [if_pos (by omega), ff_N, if_pos rfl]
  · have eN : ∀ j, j < 60 → f_X12_numberOf 113 t (j : Nat) τ = some (rw3 τ t j) := fun j hj => by rw [m_numberOf h.1 ht hj]; unfold rw3; rw [Int.toNat_natCast]
    rw [hs_X12_whyNoFits_h56]
    unfold f_X12_whyNoFits_b56
    rw [if_neg (by omega), w32_in (z := 3 * (i : Int)) (by omega) (by omega), w32_in (z := 3 * (i : Int) + 1) (by omega) (by omega), w32_in (z := 3 * (i : Int) + 2) (by omega) (by omega), show 3 * (i : Int) = ((3 * i : Nat) : Int) by omega, show ((3 * i : Nat) : Int) + 1 = ((3 * i + 1 : Nat) : Int) by omega, show ((3 * i : Nat) : Int) + 2 = ((3 * i + 2 : Nat) : Int) by omega, eN _ (by omega), eN _ (by omega), eN _ (by omega)]
    simp only [obs, m_isPlaceAt h.1 h.2.1 h.2.2, s_isIn]
    rw [ff_s hi, w32_in (z := (i : Int) + 1) (by omega) (by omega)]
    by_cases z : okF B (rw3 τ t) i = true
    · obtain ⟨a, b, q1, q2, ha, hb, hs, hw, em⟩ := okF_d z h.2.2
      simp only [z, Bool.not_true, Bool.false_eq_true, if_false]
      have q3 : 0 ≤ (a : Int) ∧ (a : Int) < B 0 := by omega
      have q4 : 0 ≤ (b : Int) ∧ (b : Int) < B 0 := by omega
      have q5 : 0 ≤ rw3 τ t (3 * i + 2) ∧ rw3 τ t (3 * i + 2) ≤ 1 := by omega
      rw [q1, q2, if_pos q3, if_pos q4, if_neg (by decide), if_neg (by decide), if_pos q5, if_neg (by decide), w32_in (z := (b : Int)) (by omega) (by omega), m_stone' h (by omega), obs, if_pos hs, if_neg (by decide)]
      exact ih
    · have z' : okF B (rw3 τ t) i = false := by simpa using z
      simp only [z', Bool.not_false, if_true]
      rw [if_neg (show ¬ (i : Int) = -1 by omega)]
      unfold okF at z
      simp only [decide_eq_true_eq] at z
      by_cases c1 : 0 ≤ rw3 τ t (3 * i) ∧ rw3 τ t (3 * i) < B 0
      · rw [if_pos c1, if_neg (by decide)]
        by_cases c2 : 0 ≤ rw3 τ t (3 * i + 1) ∧ rw3 τ t (3 * i + 1) < B 0
        · rw [if_pos c2, if_neg (by decide)]
          by_cases c3 : 0 ≤ rw3 τ t (3 * i + 2) ∧ rw3 τ t (3 * i + 2) ≤ 1
          · rw [if_pos c3, if_neg (by decide)]
            obtain ⟨b, e2⟩ := nat_of c2.1
            rw [e2] at z c2 ⊢
            rw [w32_in (by omega) (by omega), m_stone' h (by omega), obs]
            have : ¬ stn B b = true := fun q => z ⟨c1, c2, by rw [Int.toNat_natCast]; exact q, c3⟩
            rw [if_neg this, if_pos rfl]
          · rw [if_neg c3, if_pos rfl]
        · rw [if_neg c2, if_pos rfl]
      · rw [if_neg c1, if_pos rfl]
theorem m_whyNoFits {t n : Int} (h : MH τ B) (hn : R32 n) : f_X12_whyNoFits 113 t n τ = some (if yTh (τ 115) t n 20 = 0 then yFt B (rw3 τ t) n.toNat else yTh (τ 115) t n 20) := by
  obtain ⟨n1, n2⟩ := hn
  unfold f_X12_whyNoFits f_X12_whyNoFits_b0
  simp only [oM, if_true, gM, obs, m_isTray, h.1.at 113 5 115 rfl, lcmp_ge, s_isIn]
  rw [w64_in (by omega) (by omega)]
  by_cases hy : yTh (τ 115) t n 20 = 0
  · obtain ⟨a, k, rfl, rfl, ha, hk, hl⟩ := yTh0 hy
    simp only [m_mny ha, obs]
    rw [if_pos hy, if_pos (show 0 ≤ (a : Int) ∧ (a : Int) < 4 by omega), if_neg (by decide), if_pos (show 0 ≤ τ 115 a by omega), if_pos hl, if_pos (show 0 ≤ (k : Int) ∧ (k : Int) ≤ 20 by omega), if_neg (by decide), m_fits_h h ha (by omega), Int.toNat_natCast]
  · rw [if_neg hy]
    unfold yTh at hy ⊢
    by_cases q : 0 ≤ t ∧ t < 4
    · obtain ⟨a, rfl⟩ := nat_of q.1
      have ha : a < 4 := by omega
      simp only [m_mny ha, obs, Int.toNat_natCast] at hy ⊢
      grind
    · grind
theorem alFt {i : Int} (h0 : 0 ≤ i) (h1 : i < 61) : al Sh σ 23 122 i = some (σ 122 i.toNat) := al_at (isA_at (a := 122) rfl h0 h1)
theorem stFt {i v : Int} (h0 : 0 ≤ i) (h1 : i < 61) : st_ Sh σ 23 122 i v = some (upm σ 122 i.toNat v) := st_at (isA_at (a := 122) rfl h0 h1)
theorem gid122 {j : Nat} : gid 122 j = 20 := by
  have h1 : isRf 122 j = false := isRf_cell rfl
  unfold gid
  simp [h1]
def fv (B N : Nat → Int) (n : Nat) (g : Int) : Int := if flo B N n ≤ g ∧ g ≤ fhi B N n then 1 else 0
theorem fv01 {n : Nat} {g : Int} : fv B N n g = 0 ∨ fv B N n g = 1 := by unfold fv; grind
theorem MH.fr {σ1 : Mem} (h : MH τ B) (f : Fr [20] τ σ1) (e : σ1 118 = τ 118) : MH σ1 B := ⟨f.ref (by decide) h.1, by rw [e]; exact h.2.1, h.2.2⟩
theorem m_lf_i {k7 : Int → Int → Int → Int → Mem → Option Mem} {t n g : Nat} (h : MH τ B) (ht : t < 4) (hn : n ≤ 20) (hg : g ≤ 60) (ho : ∀ i, i < n → okF B (rw3 τ t) i = true) (h1 : τ 122 g = 1) (h28 : 0 ≤ τ 113 28 ∧ τ 113 28 ≤ 100) : ∃ σ', f_X12_laysFits_h23 k7 FU 113 t n g 0 τ = k7 113 t n ((g + 1 : Nat) : Int) σ' ∧ Fr [20] τ σ' ∧ σ' 118 = τ 118 ∧ σ' 116 = τ 116 ∧ σ' 122 g = fv B (rw3 τ t) n g ∧ (∀ j, ¬ j = g → σ' 122 j = τ 122 j) ∧ σ' 113 28 = τ 113 28 + fv B (rw3 τ t) n g := by
  have hB := h.2.2.nP_le
  have := up_all (Q := fun k i => ∀ σ1, Fr [20] τ σ1 → σ1 118 = τ 118 → σ1 116 = τ 116 → σ1 122 g = fv B (rw3 τ t) i g → (∀ j, ¬ j = g → σ1 122 j = τ 122 j) → σ1 113 28 = τ 113 28 → ∃ σ', f_X12_laysFits_h23 k7 k 113 t n g i σ1 = k7 113 t n ((g + 1 : Nat) : Int) σ' ∧ Fr [20] τ σ' ∧ σ' 118 = τ 118 ∧ σ' 116 = τ 116 ∧ σ' 122 g = fv B (rw3 τ t) n g ∧ (∀ j, ¬ j = g → σ' 122 j = τ 122 j) ∧ σ' 113 28 = τ 113 28 + fv B (rw3 τ t) n g) n (fun k σ1 f1 a1 a2 a3 a4 a5 => ?_) (fun k i hi ih σ1 f1 a1 a2 a3 a4 a5 => ?_) (by unfold FU; omega)
  · exact this τ Fr.refl rfl rfl (by rw [h1]; unfold fv flo fhi; rw [if_pos (by omega)]) (fun _ _ => rfl) rfl
  · have hm := h.fr f1 a1
    rw [hs_X12_laysFits_h23]
    unfold f_X12_laysFits_b23 f_X12_laysFits_b125
    simp only [gM, pM, obs, hm.1.at 113 27 122 rfl]
    rw [if_pos (by omega), alFt (by omega) (by omega), obs, Int.toNat_natCast, a3, a5, w32_in (z := (g : Int) + 1) (by omega) (by omega)]
    have key : ∀ v : Int, v = fv B (rw3 τ t) n g → ∃ σ', k7 113 t n ((g : Int) + 1) (upm σ1 113 28 (w32 (τ 113 28 + v))) = k7 113 t n ((g + 1 : Nat) : Int) σ' ∧ Fr [20] τ σ' ∧ σ' 118 = τ 118 ∧ σ' 116 = τ 116 ∧ σ' 122 g = fv B (rw3 τ t) n g ∧ (∀ j, ¬ j = g → σ' 122 j = τ 122 j) ∧ σ' 113 28 = τ 113 28 + fv B (rw3 τ t) n g := by
      intro v hv
      have := @fv01 B (rw3 τ t) n g
      refine ⟨_, rfl, f1.then (by decide), by rw [upm_ne (by decide)]; exact a1, by rw [upm_ne (by decide)]; exact a2, by rw [upm_ne (by decide)]; exact a3, fun j hj => by rw [upm_ne (by decide)]; exact a4 j hj, ?_⟩
      rw [upm_same, hv, w32_in (by omega) (by omega)]
    by_cases z : fv B (rw3 τ t) n g = 0
    · rw [if_pos z]
      exact key 0 z.symm
    · rw [if_neg z]
      exact key 1 ((@fv01 B (rw3 τ t) n g).resolve_left z).symm
  · have hm := h.fr f1 a1
    have eN : ∀ j, j < 60 → f_X12_numberOf 113 t (j : Nat) σ1 = some (rw3 τ t j) := fun j hj => by rw [m_numberOf hm.1 ht hj]; unfold rw3; rw [Int.toNat_natCast, a2]
    obtain ⟨a, b, q1, q2, ha, hb, hs, hw, em⟩ := okF_d (ho i hi) h.2.2
    have et : f_X12_turns 113 g a b σ1 = some (if mc B b a < g then 1 else 0) := by
      unfold f_X12_turns f_X12_turns_b0
      rw [if_pos oM, m_mercyOf hm.1 hm.2.1 hm.2.2 (by omega) (by omega), obs]
      grind
    rw [hs_X12_laysFits_h23]
    unfold f_X12_laysFits_b23
    rw [if_neg (by omega), w32_in (z := 3 * (i : Int)) (by omega) (by omega), w32_in (z := 3 * (i : Int) + 1) (by omega) (by omega), w32_in (z := 3 * (i : Int) + 2) (by omega) (by omega), show 3 * (i : Int) = ((3 * i : Nat) : Int) by omega, show ((3 * i : Nat) : Int) + 1 = ((3 * i + 1 : Nat) : Int) by omega, show ((3 * i : Nat) : Int) + 2 = ((3 * i + 2 : Nat) : Int) by omega, eN _ (by omega), eN _ (by omega), eN _ (by omega), q1, q2]
    simp only [gM, obs, hm.1.at 113 27 122 rfl, lcmp_eq]
    rw [alFt (by omega) (by omega), obs, Int.toNat_natCast, a3, w32_in (z := (a : Int)) (by omega) (by omega), w32_in (z := (b : Int)) (by omega) (by omega), et, obs]
    unfold f_X12_laysFits_b91 f_X12_laysFits_b98 f_X12_laysFits_b99
    simp only [stFt (σ := σ1) (show (0 : Int) ≤ g by omega) (show (g : Int) < 61 by omega), obs, Int.toNat_natCast]
    rw [w32_in (z := (i : Int) + 1) (by omega) (by omega), show b1 0 = 0 from b1_bit (.inl rfl), show b1 1 = 1 from b1_bit (.inr rfl)]
    have key : ∀ v : Int, v = fv B (rw3 τ t) (i + 1) g → ∃ σ', f_X12_laysFits_h23 k7 k 113 t n g ((i : Int) + 1) (upm σ1 122 g v) = k7 113 t n ((g + 1 : Nat) : Int) σ' ∧ Fr [20] τ σ' ∧ σ' 118 = τ 118 ∧ σ' 116 = τ 116 ∧ σ' 122 g = fv B (rw3 τ t) n g ∧ (∀ j, ¬ j = g → σ' 122 j = τ 122 j) ∧ σ' 113 28 = τ 113 28 + fv B (rw3 τ t) n g := by
      intro v hv
      refine ih _ (f1.then (by rw [gid122]; decide)) (by rw [upm_ne (by decide)]; exact a1) (by rw [upm_ne (by decide)]; exact a2) (by rw [upm_same, hv]) (fun j hj => by rw [upm_app, if_neg (by omega)]; exact a4 j hj) (by rw [upm_ne (by decide)]; exact a5)
    have e1 := @flo_s B (rw3 τ t) i
    have e2 := @fhi_s B (rw3 τ t) i
    rw [em] at e1 e2
    have e3 : fv B (rw3 τ t) (i + 1) g = if fv B (rw3 τ t) i g = 0 then 0 else if (mc B b a < g ↔ rw3 τ t (3 * i + 2) = 1) then 1 else 0 := by
      unfold fv
      rw [e1, e2]
      unfold imax imin
      grind
    by_cases z : fv B (rw3 τ t) i g = 0
    · rw [if_pos z]
      exact key 0 (by rw [e3, if_pos z])
    · rw [if_neg z]
      rw [if_neg z] at e3
      by_cases z1 : rw3 τ t (3 * i + 2) = 1
      · rw [if_pos z1]
        by_cases z2 : mc B b a < g
        · rw [if_pos z2, if_pos rfl]
          exact key 1 (by rw [e3, if_pos ⟨fun _ => z1, fun _ => z2⟩])
        · rw [if_neg z2, if_neg (by decide)]
          exact key 0 (by rw [e3, if_neg (fun q => z2 (q.mpr z1))])
      · rw [if_neg z1]
        by_cases z2 : mc B b a < g
        · rw [if_pos z2, if_neg (by decide)]
          exact key 0 (by rw [e3, if_neg (fun q => z1 (q.mp z2))])
        · rw [if_neg z2, if_pos rfl]
          exact key 1 (by rw [e3, if_pos ⟨fun q => absurd q z2, fun q => absurd q z1⟩])
def fcn (B N : Nat → Int) (n : Nat) : Nat → Int
  | 0 => 0
  | g + 1 => fcn B N n g + fv B N n g
theorem fcn_s {n g : Nat} : fcn B N n (g + 1) = fcn B N n g + fv B N n g := rfl
theorem fcn_le {n g : Nat} : 0 ≤ fcn B N n g ∧ fcn B N n g ≤ g := by
  induction g with
  | zero => exact ⟨Int.le_refl _, Int.le_refl _⟩
  | succ g ih => have := @fv01 B N n g; rw [fcn_s]; omega
theorem fcn_e {n g : Nat} (h0 : 0 ≤ flo B N n) : fcn B N n g = imax 0 ((if fhi B N n < g then fhi B N n + 1 else g) - flo B N n) := by
  induction g with
  | zero => unfold fcn imax; split <;> (try split at *) <;> omega
  | succ g ih =>
    rw [fcn_s, ih]
    unfold fv imax
    split <;> split <;> split <;> split <;> omega
theorem m_laysFits {t n : Nat} (h : MH τ B) (ht : t < 4) (hn : n ≤ 20) (ho : ∀ i, i < n → okF B (rw3 τ t) i = true) : ∃ σ', f_X12_laysFits 113 t n τ = some σ' ∧ Fr [20] τ σ' ∧ σ' 118 = τ 118 ∧ (∀ g, g ≤ 60 → σ' 122 g = fv B (rw3 τ t) n g) ∧ σ' 113 28 = fcn B (rw3 τ t) n 61 ∧ σ' 113 0 = τ 113 0 := by
  unfold f_X12_laysFits f_X12_laysFits_b0
  simp only [oM, if_true, pM, obs]
  have g0 : gid 113 0 = 11 := rfl
  have := up_all (Q := fun k g => ∀ σ1, Fr [20] τ σ1 → σ1 118 = τ 118 → σ1 116 = τ 116 → (∀ j, j < g → σ1 122 j = fv B (rw3 τ t) n j) → σ1 113 28 = fcn B (rw3 τ t) n g → ∃ σ', f_X12_laysFits_h7 k 113 t n g σ1 = some σ' ∧ Fr [20] τ σ' ∧ σ' 118 = τ 118 ∧ (∀ g, g ≤ 60 → σ' 122 g = fv B (rw3 τ t) n g) ∧ σ' 113 28 = fcn B (rw3 τ t) n 61 ∧ σ' 113 0 = τ 113 0) 61 (fun k σ1 f1 a1 a2 a3 a4 => ?_) (fun k g hg ih σ1 f1 a1 a2 a3 a4 => ?_) (by unfold FU; omega)
  · exact this _ (Fr.up (by decide)) (by rw [upm_ne (by decide)]) (by rw [upm_ne (by decide)]) (fun j hj => by omega) upm_same
  · rw [hs_X12_laysFits_h7]
    unfold f_X12_laysFits_b7
    rw [if_pos (by omega)]
    exact ⟨σ1, rfl, f1, a1, fun g hg => a3 g (by omega), a4, f1.at g0 (by decide)⟩
  · have hm := h.fr f1 a1
    have f2 : Fr [20] τ (upm σ1 122 g 1) := f1.then (by rw [gid122]; decide)
    have c1 : upm σ1 122 g 1 118 = τ 118 := by rw [upm_ne (by decide)]; exact a1
    have c2 : upm σ1 122 g 1 116 = τ 116 := by rw [upm_ne (by decide)]; exact a2
    have hm2 := h.fr f2 c1
    have er : rw3 (upm σ1 122 g 1) t = rw3 τ t := by unfold rw3; rw [c2]
    rw [hs_X12_laysFits_h7]
    unfold f_X12_laysFits_b7
    simp only [gM, obs, hm.1.at 113 27 122 rfl]
    rw [if_neg (by omega), stFt (by omega) (by omega), obs, Int.toNat_natCast, show b1 1 = 1 from b1_bit (.inr rfl)]
    have l := @fcn_le B (rw3 τ t) n g
    obtain ⟨σ', g1, g2, g3, g4, g5, g6, g7⟩ := m_lf_i (k7 := f_X12_laysFits_h7 k) (t := t) (n := n) (g := g) hm2 ht hn (by omega) (by rw [er]; exact ho) upm_same (by rw [upm_ne (by decide), a4]; omega)
    rw [g1]
    rw [er] at g5 g7
    refine ih σ' (f2.trans g2) (by rw [g3, c1]) (by rw [g4, c2]) (fun j hj => ?_) ?_
    · by_cases e : j = g
      · rw [e, g5]
      · rw [g6 j e, upm_app, if_neg (by omega)]
        exact a3 j (by omega)
    · rw [g7, upm_ne (by decide), a4]
      rfl
end
