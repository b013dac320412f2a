/-! ===== pour, copyMoss, feed ===== -/
section
variable {σ σ' τ : Mem} {fx fm : Mem → Option (Int × Mem)} {r y : Int}
theorem m_write {t k : Nat} {v : Int} (hR : Ref τ) (ht : t < 4) (hk : (k : Int) < τ 115 t) (hl : τ 115 t ≤ 60) : f_X12_write 113 t k v τ = some (1, upm (rf2 τ) 116 (60 * t + k) (ct (τ 114 t) v)) := by
  have hR3 : Ref (rf2 τ) := (hR.up rfl).up rfl
  have e5 : upm τ 113 1 0 115 = τ 115 := upm_ne (by decide)
  have e4 : rf2 τ 114 t = τ 114 t := by unfold rf2; rw [upm_app, if_neg (by omega), upm_app, if_neg (by omega)]
  have hy : yTp (τ 115) t k = 0 := by unfold yTp; rw [Int.toNat_natCast, if_neg (show ¬ ¬ (0 ≤ (t : Int) ∧ (t : Int) < 4) by omega), if_neg (by omega), if_pos (by omega)]
  unfold f_X12_write f_X12_write_b0
  simp only [oM, if_true, pM, gM, obs, m_placed (hR.up (show isRf 113 1 = false from rfl)), e5, hy, upm_same, Int.le_refl, rf2_e, hR3.at 113 6 116 rfl, hR3.at 113 4 114 rfl, m_sort ht, e4, s_cut]
  rw [w32_in (z := 60 * (t : Int)) (by omega) (by omega), w32_in (by omega) (by omega), m_snum (by omega) (by omega), show (60 * (t : Int) + k).toNat = 60 * t + k by omega]
  rfl
/-! copyMoss -/
def mo (B : Nat → Int) (j : Nat) : Int := if stn B j = true then B (27 + j) else 0
def cpS (σ : Mem) (c o : Nat) (s : Int) (B : Nat → Int) (i : Nat) : Mem := fun b j => if b = c ∧ o ≤ j ∧ j < o + i then ct s (mo B (j - o)) else σ b j
theorem cpS_0 {c o : Nat} {s : Int} {B : Nat → Int} : cpS σ c o s B 0 = σ := by funext b j; unfold cpS; rw [if_neg (by omega)]
theorem cpS_s {c o i : Nat} {s : Int} {B : Nat → Int} : upm (cpS σ c o s B i) c (o + i) (ct s (mo B i)) = cpS σ c o s B (i + 1) := by
  funext b j
  rw [upm_app]
  unfold cpS
  by_cases q : b = c ∧ j = o + i
  · obtain ⟨rfl, rfl⟩ := q
    rw [if_pos ⟨rfl, rfl⟩, if_pos (by omega), show o + i - o = i by omega]
  · rw [if_neg q]
    by_cases z : b = c ∧ o ≤ j ∧ j < o + i
    · rw [if_pos z, if_pos (by omega)]
    · rw [if_neg z, if_neg (by omega)]
theorem cpS_o {c o i b j : Nat} {s : Int} {B : Nat → Int} (h : ¬ b = c) : cpS σ c o s B i b j = σ b j := by unfold cpS; rw [if_neg (by omega)]
def yCm (N B : Nat → Int) (t : Int) : Int := if ¬ (0 ≤ t ∧ t < 4) then 1 else if N t.toNat < 0 then 3 else if B 0 ≤ N t.toNat then 0 else 4
theorem x_copyMoss_b {t v : Int} (hv : ¬ v = 0) : f_X11_copyMoss_b53 0 t v σ = some (-1, upm σ 0 19 v) := by
  unfold f_X11_copyMoss_b53
  simp only [s_refn hv, obs, Int.one_ne_zero, if_false]
theorem x_copyMoss_e {t : Int} (h : Rel σ) : f_X11_copyMoss 0 t σ = f_X11_copyMoss_b53 0 t (yCm (σ 115) (σ 118) t) σ := by
  have hn := h.xh.2.2.nP_le
  unfold f_X11_copyMoss f_X11_copyMoss_b0 yCm
  simp only [oX, if_true, s_isTray, obs, gX, h.1.at 0 0 1 rfl, h.1.at 0 3 5 rfl, w_g, h.xh.2.1.1.1]
  by_cases q : 0 ≤ t ∧ t < 4
  · obtain ⟨n, rfl⟩ := nat_of q.1
    have h4 : n < 4 := by omega
    simp only [q, and_self, if_true, Int.one_ne_zero, if_false, x_trays h.1 h4, obs, s_isMissing h4, s_hasRow h4 (show R32 0 from ⟨by omega, by omega⟩) (show R32 (σ 118 0) from ⟨by omega, by omega⟩), Int.toNat_natCast, not_true]
    rcases h.r3 n h4 with z | ⟨z1, z2, z3, z4, z5⟩
    · rw [if_neg (show ¬ (if σ (60 + 2 * n) 1 = -1 then (1 : Int) else 0) = 0 by rw [if_pos z.2]; decide), if_pos (show σ 115 n < 0 by omega)]
    · rw [if_pos (show (if σ (60 + 2 * n) 1 = -1 then (1 : Int) else 0) = 0 by rw [if_neg (by omega)]), if_neg (show ¬ σ 115 n < 0 by omega)]
      by_cases w : σ 118 0 ≤ σ 115 n
      · rw [if_pos w, if_neg (show ¬ (if 0 ≤ (0 : Int) ∧ 0 ≤ σ 118 0 ∧ 0 + σ 118 0 ≤ σ (60 + 2 * n) 2 then (1 : Int) else 0) = 0 by rw [if_pos (by omega)]; decide)]
      · rw [if_neg w, if_pos (show (if 0 ≤ (0 : Int) ∧ 0 ≤ σ 118 0 ∧ 0 + σ 118 0 ≤ σ (60 + 2 * n) 2 then (1 : Int) else 0) = 0 by rw [if_neg (by omega)])]
  · simp only [q, if_false, if_true, not_false_eq_true]
theorem x_copyMoss_h {t : Nat} {B D : Nat → Int} {s : Int} (hx : XH σ B D) (ht : t < 4) (hs : σ (60 + 2 * t) 1 = s) : f_X11_copyMoss_h65 FU 0 t 0 σ = some (B 0, cpS σ (61 + 2 * t) 0 s B (nP B)) := by
  have hn := hx.2.2.nP_le
  have key : ∀ i, XH (cpS σ (61 + 2 * t) 0 s B i) B D := fun i => by
    refine ⟨?_, hx.2.1.cg (fun b j h1 h2 => cpS_o (by omega)) (fun _ _ => rfl) (fun _ _ => rfl) hx.2.2, hx.2.2⟩
    refine hx.1.cell fun e he => cpS_o fun q => ?_
    have h1 : isRf e.1 e.2.1 = true := List.any_eq_true.mpr ⟨e, he, by simp⟩
    rw [q] at h1
    have h2 : isRf (61 + 2 * t) e.2.1 = false := by
      apply isRf_cell
      rcases (show t = 0 ∨ t = 1 ∨ t = 2 ∨ t = 3 by omega) with rfl | rfl | rfl | rfl <;> rfl
    rw [h2] at h1
    cases h1
  have := up_all (Q := fun n i => f_X11_copyMoss_h65 n 0 t (i : Int) (cpS σ (61 + 2 * t) 0 s B i) = some (B 0, cpS σ (61 + 2 * t) 0 s B (nP B))) (nP B) (fun n => ?_) (fun n i hi ih => ?_) (by unfold FU; omega)
  · rw [cpS_0] at this
    exact this
  · have k := key (nP B)
    rw [hs_X11_copyMoss_h65]
    unfold f_X11_copyMoss_b65
    simp only [gX, obs, k.1.at 0 3 5 rfl, w_g, k.2.1.1.1]
    rw [if_pos (by omega)]
  · have k := key i
    rw [hs_X11_copyMoss_h65]
    unfold f_X11_copyMoss_b65
    simp only [gX, obs, k.1.at 0 3 5 rfl, w_g, k.2.1.1.1, k.1.at 0 0 1 rfl, x_trays k.1 ht, k.1.at 5 3 7 rfl]
    rw [if_neg (by omega), w_a7 (by omega) (by omega), w32_in (by omega) (by omega)]
    simp only [obs, Int.toNat_natCast, s_put k.1 ht (show i < 60 by omega), cpS_o (σ := σ) (c := 61 + 2 * t) (o := 0) (s := s) (B := B) (i := i) (b := 60 + 2 * t) (j := 1) (by omega), hs]
    have e : cpS σ (61 + 2 * t) 0 s B i 7 i = mo B i := by
      obtain ⟨c1, c2, c3⟩ := k.2.1.2.1 i hi
      unfold mo
      split
      · next q => exact (c1 q).2.1
      · next q => exact c2 (by simpa using q)
    have e2 := @cpS_s σ (61 + 2 * t) 0 i s B
    rw [Nat.zero_add] at e2
    rw [e, e2]
    exact ih
theorem rf2_id (h0 : τ 113 0 = 0) (h1 : τ 113 1 = 0) : rf2 τ = τ := by
  funext b j
  unfold rf2
  rw [upm_app, upm_app]
  split
  · next q => rw [q.1, q.2, h0]
  · split
    · next q => rw [q.1, q.2, h1]
    · rfl
theorem m_copyMoss_h {t : Nat} {B : Nat → Int} (h : MH τ B) (ht : t < 4) (hN : B 0 ≤ τ 115 t) (hl : τ 115 t ≤ 60) (h0 : τ 113 0 = 0) (h1 : τ 113 1 = 0) : f_X12_copyMoss_h62 FU 113 t 0 τ = some (B 0, cpS τ 116 (60 * t) (τ 114 t) B (nP B)) := by
  have hn := h.2.2.nP_le
  have key : ∀ i, MH (cpS τ 116 (60 * t) (τ 114 t) B i) B := fun i => by
    refine ⟨?_, by funext j; rw [cpS_o (by decide), h.2.1], h.2.2⟩
    refine h.1.cell fun e he => cpS_o fun q => ?_
    have h1 : isRf e.1 e.2.1 = true := List.any_eq_true.mpr ⟨e, he, by simp⟩
    rw [q] at h1
    have h2 : isRf 116 e.2.1 = false := isRf_cell rfl
    rw [h2] at h1
    cases h1
  have := up_all (Q := fun n i => f_X12_copyMoss_h62 n 113 t (i : Int) (cpS τ 116 (60 * t) (τ 114 t) B i) = some (B 0, cpS τ 116 (60 * t) (τ 114 t) B (nP B))) (nP B) (fun n => ?_) (fun n i hi ih => ?_) (by unfold FU; omega)
  · rw [cpS_0] at this
    exact this
  · have k := key (nP B)
    rw [hs_X12_copyMoss_h62]
    unfold f_X12_copyMoss_b62
    simp only [gM, obs, k.1.at 113 20 118 rfl]
    rw [alC (by omega) (by omega), k.2.1]
    simp only [obs, Int.reduceToNat]
    rw [if_pos (by omega)]
  · have k := key i
    rw [hs_X12_copyMoss_h62]
    unfold f_X12_copyMoss_b62 f_X12_copyMoss_b97
    simp only [gM, obs, k.1.at 113 20 118 rfl, m_isStoneAt k.1 k.2.1 (show i < 1000 by omega)]
    rw [alC (by omega) (by omega), w32_in (z := 27 + (i : Int)) (by omega) (by omega), w32_in (z := (i : Int) + 1) (by omega) (by omega), alC (by omega) (by omega), k.2.1]
    simp only [obs, Int.reduceToNat, show (27 + (i : Int)).toNat = 27 + i by omega]
    rw [if_neg (by omega)]
    have w : ∀ v, f_X12_write 113 t i v (cpS τ 116 (60 * t) (τ 114 t) B i) = some (1, upm (cpS τ 116 (60 * t) (τ 114 t) B i) 116 (60 * t + i) (ct (τ 114 t) v)) := fun v => by
      rw [m_write k.1 ht (by rw [cpS_o (by decide)]; omega) (by rw [cpS_o (by decide)]; omega), rf2_id (by rw [cpS_o (by decide)]; exact h0) (by rw [cpS_o (by decide)]; exact h1), cpS_o (by decide)]
    simp only [w, obs]
    rw [← cpS_s] at ih
    unfold mo at ih
    by_cases q : stn B i = true
    · simp only [q, if_true, Int.one_ne_zero, if_false] at ih ⊢
      exact ih
    · simp only [q, if_true, if_false, Bool.false_eq_true] at ih ⊢
      exact ih
theorem m_isTray {t : Int} : f_X12_isTray 113 t τ = some (if 0 ≤ t ∧ t < 4 then 1 else 0) := by
  unfold f_X12_isTray f_X12_isTray_b0
  simp only [oM, if_true, s_isIn, obs, bz01]
  by_cases q : 0 ≤ t ∧ t < 4
  · rw [if_pos q, if_pos (by omega)]
  · rw [if_neg q, if_neg (by omega)]
theorem ok_copyMoss {t : Int} (h : Rel σ) : Ok (f_X11_copyMoss 0 t) (f_X12_copyMoss 113 t) σ := by
  have hB := h.xh.2.2
  have hn := hB.nP_le
  by_cases hy : yCm (σ 115) (σ 118) t = 0
  · have q : (0 ≤ t ∧ t < 4) ∧ ¬ σ 115 t.toNat < 0 ∧ σ 118 0 ≤ σ 115 t.toNat := by unfold yCm at hy; grind
    obtain ⟨q1, q2, q3⟩ := q
    obtain ⟨n, rfl⟩ := nat_of q1.1
    rw [Int.toNat_natCast] at q2 q3
    have h4 : n < 4 := by omega
    have hl := h.r3.len h4
    have z := (h.r3 n h4).resolve_left (fun q => by omega)
    have e1 := x_copyMoss_h (t := n) (s := σ 114 n) (h.xh.st (v := 0)) h4 (by rw [upm_app, if_neg (by omega)]; exact z.2.2.1)
    have f1 : Fr [0, 1, 3] σ (cpS (upm σ 0 19 0) (61 + 2 * n) 0 (σ 114 n) (σ 118) (nP (σ 118))) := by
      refine Fr.trans (Fr.up (show gid 0 19 ∈ _ by decide)) fun b j hb => cpS_o ?_
      rintro rfl
      exact hb (by unfold gs; rw [gidT h4]; decide)
    have hi : ∀ b, 113 ≤ b → cpS (upm σ 0 19 0) (61 + 2 * n) 0 (σ 114 n) (σ 118) (nP (σ 118)) b = σ b := f1.hi (by decide)
    have hM : MH (rf2 (cpS (upm σ 0 19 0) (61 + 2 * n) 0 (σ 114 n) (σ 118) (nP (σ 118)))) (σ 118) := MH.rf ⟨f1.ref (by decide) h.1, hi 118 (by omega), hB⟩
    have g : ∀ b, 114 ≤ b → rf2 (cpS (upm σ 0 19 0) (61 + 2 * n) 0 (σ 114 n) (σ 118) (nP (σ 118))) b = σ b := fun b hb => by
      rw [← hi b (by omega)]
      unfold rf2
      rw [upm_ne (by omega), upm_ne (by omega)]
    have e2 := m_copyMoss_h (t := n) hM h4 (by rw [g 115 (by omega)]; exact q3) (by rw [g 115 (by omega)]; exact hl) rfl rfl
    rw [g 114 (by omega)] at e2
    refine Ok.mkt (r := σ 118 0) (y := 0) (σ2 := cpS (rf2 (cpS (upm σ 0 19 0) (61 + 2 * n) 0 (σ 114 n) (σ 118) (nP (σ 118)))) 116 (60 * n) (σ 114 n) (σ 118) (nP (σ 118))) h ⟨?_, f1, ?_⟩ ⟨?_, ?_, ?_⟩ ?_
    · rw [x_copyMoss_e h, hy]
      unfold f_X11_copyMoss_b53
      simp only [s_ref0, obs, if_true]
      exact e1
    · rw [cpS_o (by omega)]; rfl
    · unfold f_X12_copyMoss f_X12_copyMoss_b0
      simp only [oM, if_true, pM, gM, obs, rf2_e, m_isTray, q1, and_self, Int.one_ne_zero, if_false, hM.1.at 113 5 115 rfl, hM.1.at 113 20 118 rfl, m_mny h4]
      rw [alC (by omega) (by omega), hM.2.1, g 115 (by omega)]
      simp only [obs, Int.reduceToNat]
      rw [if_pos (by omega), if_pos q3]
      exact e2
    · refine Fr.trans (Fr.mono (fr_rf (v := 0)) (by decide)) fun b j hb => cpS_o ?_
      rintro rfl
      exact hb (by unfold gs; rw [gid13 (by omega)]; decide)
    · rw [cpS_o (by omega)]; rfl
    · intro u hu
      have a1 : ∀ b j, (b = 114 ∨ b = 115) → cpS (rf2 (cpS (upm σ 0 19 0) (61 + 2 * n) 0 (σ 114 n) (σ 118) (nP (σ 118)))) 116 (60 * n) (σ 114 n) (σ 118) (nP (σ 118)) b j = σ b j := fun b j hb => by
        rw [cpS_o (by omega), g b (by omega)]
      have a2 : ∀ b j, 60 ≤ b → b ≤ 67 → cpS (rf2 (cpS (upm σ 0 19 0) (61 + 2 * n) 0 (σ 114 n) (σ 118) (nP (σ 118)))) 116 (60 * n) (σ 114 n) (σ 118) (nP (σ 118)) b j = if b = 61 + 2 * n ∧ j < nP (σ 118) then ct (σ 114 n) (mo (σ 118) j) else σ b j := fun b j h1 h2 => by
        rw [cpS_o (by omega)]
        unfold rf2
        rw [upm_app, if_neg (by omega), upm_app, if_neg (by omega)]
        unfold cpS
        by_cases w : b = 61 + 2 * n ∧ j < nP (σ 118)
        · rw [if_pos (by omega), if_pos w]; rfl
        · rw [if_neg (by omega), if_neg w, upm_app, if_neg (by omega)]
      have a3 : ∀ j, cpS (rf2 (cpS (upm σ 0 19 0) (61 + 2 * n) 0 (σ 114 n) (σ 118) (nP (σ 118)))) 116 (60 * n) (σ 114 n) (σ 118) (nP (σ 118)) 116 j = if 60 * n ≤ j ∧ j < 60 * n + nP (σ 118) then ct (σ 114 n) (mo (σ 118) (j - 60 * n)) else σ 116 j := fun j => by
        rw [← g 116 (by omega)]
        show (if 116 = 116 ∧ _ then _ else _) = _
        simp only [true_and]
      rw [a1 115 u (by omega), a1 114 u (by omega), a2 _ _ (by omega) (by omega), a2 _ _ (by omega) (by omega), if_neg (by omega), if_neg (by omega)]
      rcases h.r3 u hu with w | ⟨w1, w2, w3, w4, w5⟩
      · exact .inl w
      · refine .inr ⟨w1, w2, w3, w4, fun k hk => ?_⟩
        rw [a2 _ _ (by omega) (by omega), a3]
        by_cases v : u = n ∧ k < nP (σ 118)
        · obtain ⟨rfl, v2⟩ := v
          rw [if_pos ⟨rfl, v2⟩, if_pos (by omega), show 60 * u + k - 60 * u = k by omega]
        · rw [if_neg (by omega), if_neg (by omega)]
          exact w5 k hk
  · refine Ok.mk (r := -1) (y := yCm (σ 115) (σ 118) t) h (XO.mk ?_) fun τ ht hi => MO.mkr ?_
    · rw [x_copyMoss_e h, x_copyMoss_b hy]
    · have e5 : rf2 τ 115 = σ 115 := by unfold rf2; rw [upm_ne (by decide), upm_ne (by decide)]; exact hi 115 (by omega)
      unfold f_X12_copyMoss f_X12_copyMoss_b0
      simp only [oM, if_true, pM, gM, obs, rf2_e, m_isTray, s_refuse, ht.rf.1.at 113 5 115 rfl, ht.rf.1.at 113 20 118 rfl]
      rw [alC (by omega) (by omega), ht.rf.2.1]
      simp only [obs, Int.reduceToNat]
      unfold yCm at hy ⊢
      by_cases q : 0 ≤ t ∧ t < 4
      · obtain ⟨n, rfl⟩ := nat_of q.1
        simp only [m_mny (τ := rf2 τ) (show n < 4 by omega), obs, Int.toNat_natCast, e5] at hy ⊢
        grind
      · grind
/-! pour -/
def yPo (N S : Nat → Int) (t i u j n : Int) : Int := if ¬ (0 ≤ t ∧ t < 4) ∨ ¬ (0 ≤ u ∧ u < 4) then 1 else if N t.toNat < 0 ∨ N u.toNat < 0 then 3 else if ¬ S t.toNat = S u.toNat then 11 else if n < 0 then 6 else if 0 ≤ i ∧ 0 ≤ j ∧ i + n ≤ N t.toNat ∧ j + n ≤ N u.toNat then 0 else 4
theorem x_pourWhy {t i u j n : Int} (h : Rel σ) (hi : R32 i) (hj : R32 j) (hn : R32 n) : f_X11_pourWhy 0 t i u j n σ = some (yPo (σ 115) (σ 114) t i u j n) := by
  unfold f_X11_pourWhy f_X11_pourWhy_b0 yPo
  simp only [oX, if_true, s_isTray, obs, gX, h.1.at 0 0 1 rfl]
  by_cases q : 0 ≤ t ∧ t < 4
  · by_cases q2 : 0 ≤ u ∧ u < 4
    · obtain ⟨a, rfl⟩ := nat_of q.1
      obtain ⟨b, rfl⟩ := nat_of q2.1
      have ha : a < 4 := by omega
      have hb : b < 4 := by omega
      simp only [q, q2, and_self, if_true, Int.one_ne_zero, if_false, x_trays h.1 ha, x_trays h.1 hb, obs, s_isMissing ha, s_isMissing hb, s_hasRow ha hi hn, s_hasRow hb hj hn, Int.toNat_natCast, not_true, or_self, x_g1 ha, x_g1 hb]
      have ra := h.r3 a ha
      have rb := h.r3 b hb
      generalize σ (60 + 2 * a) 1 = s1 at ra ⊢
      generalize σ (60 + 2 * b) 1 = s2 at rb ⊢
      generalize σ (60 + 2 * a) 2 = l1 at ra ⊢
      generalize σ (60 + 2 * b) 2 = l2 at rb ⊢
      have ra' : (σ 115 a = -1 ∧ s1 = -1) ∨ (0 ≤ σ 115 a ∧ 0 ≤ σ 114 a ∧ s1 = σ 114 a ∧ l1 = σ 115 a) := by
        rcases ra with z | z
        · exact .inl z
        · exact .inr ⟨z.1.1, z.2.1.1, z.2.2.1, z.2.2.2.1⟩
      have rb' : (σ 115 b = -1 ∧ s2 = -1) ∨ (0 ≤ σ 115 b ∧ 0 ≤ σ 114 b ∧ s2 = σ 114 b ∧ l2 = σ 115 b) := by
        rcases rb with z | z
        · exact .inl z
        · exact .inr ⟨z.1.1, z.2.1.1, z.2.2.1, z.2.2.2.1⟩
      clear ra rb h
      rcases ra' with ⟨z1, z2⟩ | ⟨z1, z2, z3, z4⟩ <;> rcases rb' with ⟨w1, w2⟩ | ⟨w1, w2, w3, w4⟩ <;> (try subst z2) <;> (try subst w2) <;> grind (splits := 30)
    · clear h
      grind
  · clear h
    grind
/-- the reference's row poured -/
def poM (σ : Mem) (o p n : Nat) : Mem := fun b x => if b = 116 ∧ p ≤ x ∧ x < p + n then σ 116 (o + (x - p)) else σ b x
def poR (σ : Mem) (o p n k : Nat) : Mem := fun b x => if b = 116 ∧ p + (n - k) ≤ x ∧ x < p + n then σ 116 (o + (x - p)) else σ b x
theorem poM_s {o p k : Nat} (h : p ≤ o ∨ o + k < p) : upm (poM σ o p k) 116 (p + k) (poM σ o p k 116 (o + k)) = poM σ o p (k + 1) := by
  have e : poM σ o p k 116 (o + k) = σ 116 (o + k) := by unfold poM; rw [if_neg (by omega)]
  rw [e]
  funext b x
  rw [upm_app]
  unfold poM
  by_cases q : b = 116 ∧ x = p + k
  · obtain ⟨rfl, rfl⟩ := q
    rw [if_pos ⟨rfl, rfl⟩, if_pos (by omega), show p + k - p = k by omega]
  · rw [if_neg q]
    by_cases z : b = 116 ∧ p ≤ x ∧ x < p + k
    · rw [if_pos z, if_pos (by omega)]
    · rw [if_neg z, if_neg (by omega)]
theorem poR_s {o p n k : Nat} (hk : k < n) (h : o < p ∨ p + n ≤ o) : upm (poR σ o p n k) 116 (p + (n - 1 - k)) (poR σ o p n k 116 (o + (n - 1 - k))) = poR σ o p n (k + 1) := by
  have e : poR σ o p n k 116 (o + (n - 1 - k)) = σ 116 (o + (n - 1 - k)) := by unfold poR; rw [if_neg (by omega)]
  rw [e]
  funext b x
  rw [upm_app]
  unfold poR
  by_cases q : b = 116 ∧ x = p + (n - 1 - k)
  · obtain ⟨rfl, rfl⟩ := q
    rw [if_pos ⟨rfl, rfl⟩, if_pos (by omega), show p + (n - 1 - k) - p = n - 1 - k by omega]
  · rw [if_neg q]
    by_cases z : b = 116 ∧ p + (n - k) ≤ x ∧ x < p + n
    · rw [if_pos z, if_pos (by omega)]
    · rw [if_neg z, if_neg (by omega)]
theorem Ref.c116 (h : Ref σ) (e : ∀ b x, ¬ b = 116 → σ' b x = σ b x) : Ref σ' := by
  refine h.cell fun c hc => e _ _ fun q => ?_
  have h1 : isRf c.1 c.2.1 = true := List.any_eq_true.mpr ⟨c, hc, by simp⟩
  rw [q] at h1
  have h2 : isRf 116 c.2.1 = false := isRf_cell rfl
  rw [h2] at h1
  cases h1
theorem m_pour_h {t i u j n : Nat} (hR : Ref τ) (ht : t < 4) (hu : u < 4) (h1 : i + n ≤ 60) (h2 : j + n ≤ 60) : f_X12_pour_h158 FU 113 t i u j n (if j ≤ i then 0 else 1) 0 τ = some (1, poM τ (60 * t + i) (60 * u + j) n) := by
  by_cases q : j ≤ i
  · rw [if_pos q]
    have := up_all (Q := fun m k => f_X12_pour_h158 m 113 t i u j n 0 (k : Int) (poM τ (60 * t + i) (60 * u + j) k) = some (1, poM τ (60 * t + i) (60 * u + j) n)) n (fun m => ?_) (fun m k hk ih => ?_) (by unfold FU; omega)
    · rw [show poM τ (60 * t + i) (60 * u + j) 0 = τ by funext b x; unfold poM; rw [if_neg (by omega)]] at this
      exact this
    · rw [hs_X12_pour_h158]
      unfold f_X12_pour_b158
      rw [if_pos (by omega)]
    · have hR' : Ref (poM τ (60 * t + i) (60 * u + j) k) := hR.c116 fun b x hb => by unfold poM; rw [if_neg (by omega)]
      rw [hs_X12_pour_h158]
      unfold f_X12_pour_b158 f_X12_pour_b182
      rw [if_neg (by omega), if_pos rfl]
      simp only [gM, obs, hR'.at 113 6 116 rfl]
      rw [w32_in (z := 60 * (t : Int)) (by omega) (by omega), w32_in (z := 60 * (t : Int) + i) (by omega) (by omega), w32_in (z := 60 * (t : Int) + i + k) (by omega) (by omega), w32_in (z := 60 * (u : Int)) (by omega) (by omega), w32_in (z := 60 * (u : Int) + j) (by omega) (by omega), w32_in (z := 60 * (u : Int) + j + k) (by omega) (by omega), w32_in (z := (k : Int) + 1) (by omega) (by omega), m_num (by omega) (by omega)]
      simp only [obs]
      rw [m_snum (by omega) (by omega)]
      simp only [obs]
      rw [show (60 * (t : Int) + i + k).toNat = 60 * t + i + k by omega, show (60 * (u : Int) + j + k).toNat = 60 * u + j + k by omega, poM_s (by omega)]
      exact ih
  · rw [if_neg q]
    have := up_all (Q := fun m k => f_X12_pour_h158 m 113 t i u j n 1 (k : Int) (poR τ (60 * t + i) (60 * u + j) n k) = some (1, poM τ (60 * t + i) (60 * u + j) n)) n (fun m => ?_) (fun m k hk ih => ?_) (by unfold FU; omega)
    · rw [show poR τ (60 * t + i) (60 * u + j) n 0 = τ by funext b x; unfold poR; rw [if_neg (by omega)]] at this
      exact this
    · rw [hs_X12_pour_h158]
      unfold f_X12_pour_b158
      rw [if_pos (by omega)]
      rw [show poR τ (60 * t + i) (60 * u + j) n n = poM τ (60 * t + i) (60 * u + j) n by unfold poR poM; rw [Nat.sub_self, Nat.add_zero]]
    · have hR' : Ref (poR τ (60 * t + i) (60 * u + j) n k) := hR.c116 fun b x hb => by unfold poR; rw [if_neg (by omega)]
      rw [hs_X12_pour_h158]
      unfold f_X12_pour_b158 f_X12_pour_b182
      rw [if_neg (by omega), if_neg (by decide)]
      simp only [gM, obs, hR'.at 113 6 116 rfl]
      rw [w32_in (z := (n : Int) - 1) (by omega) (by omega), w32_in (z := (n : Int) - 1 - k) (by omega) (by omega), w32_in (z := 60 * (t : Int)) (by omega) (by omega), w32_in (z := 60 * (t : Int) + i) (by omega) (by omega), w32_in (z := 60 * (t : Int) + i + ((n : Int) - 1 - k)) (by omega) (by omega), w32_in (z := 60 * (u : Int)) (by omega) (by omega), w32_in (z := 60 * (u : Int) + j) (by omega) (by omega), w32_in (z := 60 * (u : Int) + j + ((n : Int) - 1 - k)) (by omega) (by omega), w32_in (z := (k : Int) + 1) (by omega) (by omega), m_num (by omega) (by omega)]
      simp only [obs]
      rw [m_snum (by omega) (by omega)]
      simp only [obs]
      rw [show (60 * (t : Int) + i + ((n : Int) - 1 - k)).toNat = 60 * t + i + (n - 1 - k) by omega, show (60 * (u : Int) + j + ((n : Int) - 1 - k)).toNat = 60 * u + j + (n - 1 - k) by omega, poR_s hk (by omega)]
      exact ih
theorem x_cp {t i u j n : Nat} (ht : t < 4) (hu : u < 4) (h1 : i + n ≤ 60) (h2 : j + n ≤ 60) : cp Sh σ 21 ((61 + 2 * t : Nat) : Int) i ((61 + 2 * u : Nat) : Int) j n = some (cpm σ (61 + 2 * t) i (61 + 2 * u) j n) := by
  have key : ∀ v k : Nat, v < 4 → k + n ≤ 60 → isR Sh 21 ((61 + 2 * v : Nat) : Int) k n = true := by
    intro v k hv hk
    unfold isR
    rw [Int.toNat_natCast]
    rcases (show v = 0 ∨ v = 1 ∨ v = 2 ∨ v = 3 by omega) with rfl | rfl | rfl | rfl
    · rw [show Sh[61 + 2 * 0]? = some (21, 60) from rfl]; simp; omega
    · rw [show Sh[61 + 2 * 1]? = some (21, 60) from rfl]; simp; omega
    · rw [show Sh[61 + 2 * 2]? = some (21, 60) from rfl]; simp; omega
    · rw [show Sh[61 + 2 * 3]? = some (21, 60) from rfl]; simp; omega
  unfold cp
  rw [if_pos ⟨by omega, key t i ht h1, key u j hu h2⟩]
  simp only [Int.toNat_natCast]
theorem ok_pour {t i u j n : Int} (h : Rel σ) (hi : R32 i) (hj : R32 j) (hn : R32 n) : Ok (f_X11_pour 0 t i u j n) (f_X12_pour 113 t i u j n) σ := by
  by_cases hy : yPo (σ 115) (σ 114) t i u j n = 0
  · have q : (0 ≤ t ∧ t < 4) ∧ (0 ≤ u ∧ u < 4) ∧ ¬ σ 115 t.toNat < 0 ∧ ¬ σ 115 u.toNat < 0 ∧ σ 114 t.toNat = σ 114 u.toNat ∧ 0 ≤ n ∧ 0 ≤ i ∧ 0 ≤ j ∧ i + n ≤ σ 115 t.toNat ∧ j + n ≤ σ 115 u.toNat := by unfold yPo at hy; clear h hi hj hn; grind (splits := 40)
    obtain ⟨q1, q2, q3, q4, q5, q6, q7, q8, q9, q10⟩ := q
    obtain ⟨a, rfl⟩ := nat_of q1.1
    obtain ⟨b, rfl⟩ := nat_of q2.1
    obtain ⟨m, rfl⟩ := nat_of q6
    obtain ⟨x, rfl⟩ := nat_of q7
    obtain ⟨z, rfl⟩ := nat_of q8
    rw [Int.toNat_natCast] at q3 q4 q5 q9 q10
    rw [Int.toNat_natCast] at q5
    have ha : a < 4 := by omega
    have hb : b < 4 := by omega
    have la := h.r3.len ha
    have lb := h.r3.len hb
    have za := (h.r3 a ha).resolve_left (fun q => by omega)
    have zb := (h.r3 b hb).resolve_left (fun q => by omega)
    have hR1 : Ref (upm σ 0 19 0) := h.1.up rfl
    have f1 : Fr [0, 1, 3] σ (cpm (upm σ 0 19 0) (61 + 2 * a) x (61 + 2 * b) z m) := by
      refine Fr.trans (σ1 := upm σ 0 19 0) (Fr.up (show gid 0 19 ∈ _ by decide)) fun c k hc => ?_
      unfold cpm
      rw [if_neg]
      rintro ⟨rfl, _⟩
      exact hc (by unfold gs; rw [gidT hb]; decide)
    have hR2 := f1.ref (by decide) h.1
    have hR3 : Ref (rf2 (cpm (upm σ 0 19 0) (61 + 2 * a) x (61 + 2 * b) z m)) := (hR2.up rfl).up rfl
    have g : ∀ c, 114 ≤ c → rf2 (cpm (upm σ 0 19 0) (61 + 2 * a) x (61 + 2 * b) z m) c = σ c := fun c hc => by
      rw [← f1.hi (by decide) c (by omega)]
      unfold rf2
      rw [upm_ne (by omega), upm_ne (by omega)]
    have e2 := m_pour_h (t := a) (i := x) (u := b) (j := z) (n := m) hR3 ha hb (by omega) (by omega)
    refine Ok.mkt (r := 1) (y := 0) (σ2 := poM (rf2 (cpm (upm σ 0 19 0) (61 + 2 * a) x (61 + 2 * b) z m)) (60 * a + x) (60 * b + z) m) h ⟨?_, f1, ?_⟩ ⟨?_, ?_, ?_⟩ ?_
    · unfold f_X11_pour f_X11_pour_b0
      simp only [oX, if_true, x_pourWhy h hi hj hn, obs, hy, s_ref0, gX, hR1.at 0 0 1 rfl, x_trays hR1 ha, x_trays hR1 hb, x_g0 hR1 ha, x_g0 hR1 hb, x_cp ha hb (show x + m ≤ 60 by omega) (show z + m ≤ 60 by omega)]
    · unfold cpm; rw [if_neg (by omega)]; rfl
    · unfold f_X12_pour f_X12_pour_b0 f_X12_pour_b153
      simp only [oM, if_true, pM, gM, obs, rf2_e, hR3.at 113 5 115 rfl, hR3.at 113 4 114 rfl, m_mny ha, m_mny hb, m_sort ha, m_sort hb, g 115 (by omega), g 114 (by omega), q5, lcmp_gt, lcmp_le]
      rw [w64_in (by omega) (by omega), w64_in (by omega) (by omega)]
      simp (disch := omega) only [if_neg, if_pos]
      by_cases w : z ≤ x
      · rw [if_pos w] at e2
        rw [if_pos (by omega)]
        exact e2
      · rw [if_neg w] at e2
        rw [if_neg (by omega)]
        exact e2
    · refine Fr.trans (Fr.mono (fr_rf (v := 0)) (by decide)) fun c k hc => ?_
      unfold poM
      rw [if_neg]
      · rfl
      · rintro ⟨rfl, _⟩
        exact hc (by unfold gs; rw [gid13 (by omega)]; decide)
    · unfold poM; rw [if_neg (by omega)]; rfl
    · intro v hv
      have a1 : ∀ c k, (c = 114 ∨ c = 115) → poM (rf2 (cpm (upm σ 0 19 0) (61 + 2 * a) x (61 + 2 * b) z m)) (60 * a + x) (60 * b + z) m c k = σ c k := fun c k hc => by
        unfold poM; rw [if_neg (by omega), g c (by omega)]
      have a2 : ∀ c k, 60 ≤ c → c ≤ 67 → poM (rf2 (cpm (upm σ 0 19 0) (61 + 2 * a) x (61 + 2 * b) z m)) (60 * a + x) (60 * b + z) m c k = if c = 61 + 2 * b ∧ z ≤ k ∧ k < z + m then σ (61 + 2 * a) (x + (k - z)) else σ c k := fun c k h1 h2 => by
        unfold poM
        rw [if_neg (by omega)]
        unfold rf2
        rw [upm_app, if_neg (by omega), upm_app, if_neg (by omega)]
        unfold cpm
        rw [upm_cell (by omega), upm_cell (by omega)]
      have a3 : ∀ k, poM (rf2 (cpm (upm σ 0 19 0) (61 + 2 * a) x (61 + 2 * b) z m)) (60 * a + x) (60 * b + z) m 116 k = if 60 * b + z ≤ k ∧ k < 60 * b + z + m then σ 116 (60 * a + x + (k - (60 * b + z))) else σ 116 k := fun k => by
        unfold poM
        rw [g 116 (by omega)]
        simp only [true_and]
      rw [a1 115 v (by omega), a1 114 v (by omega), a2 _ _ (by omega) (by omega), a2 _ _ (by omega) (by omega), if_neg (by omega), if_neg (by omega)]
      rcases h.r3 v hv with w | ⟨w1, w2, w3, w4, w5⟩
      · exact .inl w
      · refine .inr ⟨w1, w2, w3, w4, fun k hk => ?_⟩
        rw [a2 _ _ (by omega) (by omega), a3]
        by_cases c : v = b ∧ z ≤ k ∧ k < z + m
        · rw [if_pos (by omega), if_pos (by omega), za.2.2.2.2 _ (by omega)]
          congr 1
          omega
        · rw [if_neg (by omega), if_neg (by omega)]
          exact w5 k hk
  · refine Ok.mk (r := 0) (y := yPo (σ 115) (σ 114) t i u j n) h (XO.mk ?_) fun τ ht hg => MO.mkr ?_
    · unfold f_X11_pour f_X11_pour_b0
      simp only [oX, if_true, x_pourWhy h hi hj hn, obs, s_refn hy, Int.one_ne_zero, if_false]
    · have e5 : rf2 τ 115 = σ 115 := by unfold rf2; rw [upm_ne (by decide), upm_ne (by decide)]; exact hg 115 (by omega)
      have e4 : rf2 τ 114 = σ 114 := by unfold rf2; rw [upm_ne (by decide), upm_ne (by decide)]; exact hg 114 (by omega)
      obtain ⟨i1, i2⟩ := hi
      obtain ⟨j1, j2⟩ := hj
      obtain ⟨n1, n2⟩ := hn
      unfold f_X12_pour f_X12_pour_b0 f_X12_pour_b28 f_X12_pour_b52 f_X12_pour_b136
      simp only [oM, if_true, pM, gM, obs, rf2_e, s_no, bz0, ht.rf.1.at 113 5 115 rfl, ht.rf.1.at 113 4 114 rfl, lcmp_gt, lcmp_le]
      rw [w64_in (by omega) (by omega), w64_in (by omega) (by omega)]
      unfold yPo at hy ⊢
      by_cases q : 0 ≤ t ∧ t < 4
      · by_cases q2 : 0 ≤ u ∧ u < 4
        · obtain ⟨a, rfl⟩ := nat_of q.1
          obtain ⟨b, rfl⟩ := nat_of q2.1
          simp only [m_mny (τ := rf2 τ) (show a < 4 by omega), m_mny (τ := rf2 τ) (show b < 4 by omega), m_sort (τ := rf2 τ) (show a < 4 by omega), m_sort (τ := rf2 τ) (show b < 4 by omega), obs, Int.toNat_natCast, e5, e4] at hy ⊢
          grind
        · grind
      · grind
end
