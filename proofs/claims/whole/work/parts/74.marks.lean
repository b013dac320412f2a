/-! ===== mark, back ===== -/
section
variable {σ σ' τ : Mem} {a c : Nat} {B B' D : Nat → Int}
theorem rMk {i : Nat} (hR : Ref σ) (h : i < 3) : σ 38 i = ((68 + 15 * i : Nat) : Int) ∧ σ 39 i = ((77 + 15 * i : Nat) : Int) := by
  rcases (show i = 0 ∨ i = 1 ∨ i = 2 by omega) with rfl | rfl | rfl <;> exact ⟨hR.at _ _ _ rfl, hR.at _ _ _ rfl⟩
theorem alM8 {i : Nat} (h : i < 3) : al Sh σ 39 38 i = some (σ 38 i) := by
  have := al_at (σ := σ) (isA_at (k := 39) (a := 38) (n := 3) (i := (i : Int)) rfl (by omega) (by omega))
  rw [Int.toNat_natCast, Int.toNat_natCast] at this
  exact this
theorem alM9 {i : Nat} (h : i < 3) : al Sh σ 35 39 i = some (σ 39 i) := by
  have := al_at (σ := σ) (isA_at (k := 35) (a := 39) (n := 3) (i := (i : Int)) rfl (by omega) (by omega))
  rw [Int.toNat_natCast, Int.toNat_natCast] at this
  exact this
theorem wlm {i : Nat} (h : i < 3) : wl (68 + 15 * i) := by
  rcases (show i = 0 ∨ i = 1 ∨ i = 2 by omega) with rfl | rfl | rfl
  · exact .inr (.inr (.inr (.inl rfl)))
  · exact .inr (.inr (.inr (.inr (.inl rfl))))
  · exact .inr (.inr (.inr (.inr (.inr rfl))))
theorem tlm {i : Nat} (h : i < 3) : tl (77 + 15 * i) := by
  rcases (show i = 0 ∨ i = 1 ∨ i = 2 by omega) with rfl | rfl | rfl
  · exact .inr (.inr (.inl rfl))
  · exact .inr (.inr (.inr (.inl rfl)))
  · exact .inr (.inr (.inr (.inr rfl)))
theorem gid_tSm {i b j : Nat} (hi : i < 3) (h : tSl (77 + 15 * i) b j) : gid b j = 8 := by
  obtain ⟨h1, h2, h3⟩ := h
  have h4 : 68 ≤ b ∧ b ≤ 112 := by omega
  clear h1 h2
  unfold gid
  grind
theorem gid_tS {b j : Nat} (h : tSl 14 b j) : gid b j = 7 := by
  obtain ⟨h1, h2, h3⟩ := h
  unfold gid
  grind
theorem fr_setcA {G : List Nat} {a : Nat} {f : Nat → Int} (h : ∀ j, ¬ f j = σ a j → gid a j ∈ G) : Fr G σ (setc σ a f) := by
  intro b j hb
  by_cases q : b = a
  · subst q
    rw [setc_same]
    exact Classical.byContradiction fun r => hb (h j r)
  · rw [setc_ne q]
theorem Rel.r7 (h : Rel σ) : R7 σ := h.2.2.2.2.2.2.2.1
theorem Rel.r8 (h : Rel σ) : R8 σ := h.2.2.2.2.2.2.2.2.1
theorem Rel.r6 (h : Rel σ) : R6 σ := h.2.2.2.2.2.2.1
theorem TR.o {σ σ' : Mem} {a : Nat} (h : TR σ a B) (hs : ∀ b j, a ≤ b → b ≤ a + 5 → σ' b j = σ b j) : TR σ' a B := h.cg' (fun b j q1 q2 _ => hs b j q1 q2) rfl (Int.le_refl _) (fun _ _ _ => rfl)
theorem x_mark {i : Nat} (h : Rel σ) (hi : σ 113 23 = i) (q : i < 3) : ∃ σ1, f_X11_mark 0 σ = some (((i + 1 : Nat) : Int), σ1) ∧ Fr [0, 1, 8] σ σ1 ∧ σ1 0 19 = 0 ∧ σ1 0 17 = ((i + 1 : Nat) : Int) ∧ WR σ1 (68 + 15 * i) (σ 118) (σ 120) ∧ TR σ1 (77 + 15 * i) (σ 118) ∧ (∀ b j, 1 ≤ b → b < 68 + 15 * i ∨ 68 + 15 * i + 15 ≤ b → σ1 b j = σ b j) := by
  have e17 : σ 0 17 = i := by rw [h.r8.1.1, hi]
  have hx := h.xh.st (v := 0)
  obtain ⟨σ1, a1, w1, f1⟩ := x_copyFrom (a := 68 + 15 * i) (c := 5) (wlm q) (.inl rfl) (by omega) hx.1 hx.2.1 hx.2.2
  have g1 : ∀ b j, b < 68 + 15 * i ∨ 68 + 15 * i + 9 ≤ b → σ1 b j = upm σ 0 19 0 b j := fun b j hb => f1 b j fun r => by obtain ⟨r1, r2, _⟩ := r; omega
  obtain ⟨σ2, a2, t2, f2⟩ := x_tcopy (a := 77 + 15 * i) (c := 14) (B := σ 118) (tlm q) (.inl rfl) (by omega) (f1.refW hx.1) (TR.o h.r7 fun b j q1 q2 => by rw [g1 b j (by omega), upm_o (by omega)])
  have g2 : ∀ b j, b < 77 + 15 * i ∨ 77 + 15 * i + 6 ≤ b → σ2 b j = σ1 b j := fun b j hb => f2 b j fun r => by obtain ⟨r1, r2, _⟩ := r; omega
  have fr : Fr [0, 1, 8] σ (upm σ2 0 17 ((i + 1 : Nat) : Int)) := by
    refine Fr.then (Fr.trans (Fr.trans (Fr.up (show gid 0 19 ∈ _ by decide)) (Fp.mono f1 fun b j r => ?_)) (Fp.mono f2 fun b j r => ?_)) (by decide)
    · unfold gs; rw [gid_wSm q r]; decide
    · unfold gs; rw [gid_tSm q r]; decide
  refine ⟨upm σ2 0 17 ((i + 1 : Nat) : Int), ?_, fr, ?_, upm_same, ?_, ?_, ?_⟩
  · have e1 : σ1 0 8 = 39 := (f1.refW hx.1).at 0 8 39 rfl
    have e2 : σ1 0 17 = i := by rw [g1 _ _ (by omega), upm_app, if_neg (by omega), e17]
    have e3 : σ2 0 17 = i := by rw [g2 _ _ (by omega), e2]
    unfold f_X11_mark f_X11_mark_b0 f_X11_mark_b15
    simp only [oX, if_true, gX, pX, obs, e17]
    rw [if_pos (by omega)]
    simp only [s_ref0, obs, if_true, gX, pX, hx.1.at 0 7 38 rfl, hx.1.at 0 3 5 rfl, show upm σ 0 19 0 0 17 = i by rw [upm_app, if_neg (by omega), e17], alM8 q, (rMk hx.1 q).1]
    rw [show f_X9_copyFrom ((68 + 15 * i : Nat) : Int) 5 (upm σ 0 19 0) = some σ1 from a1]
    simp only [obs, gX, pX, e1, e2, alM9 q, (rMk (f1.refW hx.1) q).2, (f1.refW hx.1).at 0 4 14 rfl]
    rw [show f_X5_copyFrom ((77 + 15 * i : Nat) : Int) 14 σ1 = some σ2 from a2]
    simp only [obs, gX, pX, e3]
    rw [w32_in (by omega) (by omega), upm_same]
    rfl
  · rw [upm_app, if_neg (by omega), g2 _ _ (by omega), g1 _ _ (by omega), upm_same]
  · exact w1.cg (fun b j q1 q2 => by rw [upm_o (by omega), g2 _ _ (by omega)]) (fun _ _ => rfl) (fun _ _ => rfl) hx.2.2
  · exact t2.o fun b j q1 q2 => by rw [upm_o (by omega)]
  · intro b j hb hc
    rw [upm_o (by omega), g2 _ _ (by omega), g1 _ _ (by omega), upm_o (by omega)]
theorem m_mark {i : Nat} (hR : Ref τ) (hi : τ 113 23 = i) (q : i < 3) : ∃ σ2, f_X12_mark 113 τ = some (((i + 1 : Nat) : Int), σ2) ∧ Fr [11, 18, 20] τ σ2 ∧ σ2 113 0 = 0 ∧ σ2 113 23 = ((i + 1 : Nat) : Int) ∧ σ2 118 = cpB (τ 118) 327 0 (i + 1) 327 ∧ σ2 120 = cpB (τ 120) 14 0 (i + 1) 14 := by
  have f0 : Fr [11, 18, 20] τ (upm (rf2 τ) 113 23 ((i + 1 : Nat) : Int)) := Fr.then (Fr.mono (fr_rf (v := 0)) (by decide)) (by decide)
  have e : f_X12_copy 113 0 ((i + 1 : Nat) : Int) (upm (rf2 τ) 113 23 ((i + 1 : Nat) : Int)) = some _ := m_copy (f := 0) (t := i + 1) (f0.ref (by decide) hR) (by omega) (by omega) (by omega)
  have k8 : upm (rf2 τ) 113 23 ((i + 1 : Nat) : Int) 118 = τ 118 := by unfold rf2; rw [upm_ne (by decide), upm_ne (by decide), upm_ne (by decide)]
  have k0 : upm (rf2 τ) 113 23 ((i + 1 : Nat) : Int) 120 = τ 120 := by unfold rf2; rw [upm_ne (by decide), upm_ne (by decide), upm_ne (by decide)]
  rw [k8, k0] at e
  refine ⟨setc (setc (upm (rf2 τ) 113 23 ((i + 1 : Nat) : Int)) 118 (cpB (τ 118) 327 0 (i + 1) 327)) 120 (cpB (τ 120) 14 0 (i + 1) 14), ?_, ?_, ?_, ?_, ?_, setc_same⟩
  rotate_left
  · refine f0.trans (Fr.trans (fr_setcA (a := 118) fun j hj => ?_) (fr_setcA (a := 120) fun j hj => ?_))
    · rw [k8] at hj
      unfold cpB at hj
      rw [gid118]
      by_cases r : 327 * (i + 1) ≤ j ∧ j < 327 * (i + 1) + 327
      · rw [if_neg (by omega), if_neg (by omega), if_pos (by omega)]; decide
      · rw [if_neg r] at hj; exact absurd rfl hj
    · rw [setc_ne (by decide), k0] at hj
      unfold cpB at hj
      rw [gid120]
      by_cases r : 14 * (i + 1) ≤ j ∧ j < 14 * (i + 1) + 14
      · rw [if_neg (by omega), if_pos (by omega)]; decide
      · rw [if_neg r] at hj; exact absurd rfl hj
  · rw [setc_ne (by decide), setc_ne (by decide), upm_app, if_neg (by omega)]; rfl
  · rw [setc_ne (by decide), setc_ne (by decide), upm_same]
  · rw [setc_ne (by decide), setc_same]
  · unfold f_X12_mark f_X12_mark_b0
    have k3 : rf2 τ 113 23 = i := by unfold rf2; rw [upm_app, if_neg (by omega), upm_app, if_neg (by omega), hi]
    simp only [oM, if_true, gM, pM, obs, rf2_e, k3]
    rw [if_neg (by omega), w32_in (by omega) (by omega), show (i : Int) + 1 = ((i + 1 : Nat) : Int) by omega]
    simp only [upm_same, e, obs, gM]
    rw [setc_ne (by decide), setc_ne (by decide), upm_same]
theorem ok_mark (h : Rel σ) : Ok (f_X11_mark 0) (f_X12_mark 113) σ := by
  obtain ⟨⟨m1, m2, m3⟩, m4⟩ := h.r8
  obtain ⟨i, hi⟩ := nat_of m2
  by_cases q : i < 3
  · obtain ⟨σ1, a1, f1, s1, c1, w1, t1, o1⟩ := x_mark h hi q
    have hh := f1.hi (by decide)
    obtain ⟨σ2, a2, f2, s2, c2, b2, d2⟩ := m_mark (τ := σ1) (f1.ref (by decide) h.1) (by rw [hh 113 (by omega), hi]) q
    have lo := f2.lo (by decide)
    rw [hh 118 (by omega)] at b2
    rw [hh 120 (by omega)] at d2
    refine ⟨_, σ1, σ2, a1, a2, h.step [0, 1, 8, 11, 18, 20] ((f1.mono (by decide)).trans (f2.mono (by decide))) (by decide) ?_ (fun q => absurd q (by decide)) (fun q => absurd q (by decide)) (fun q => absurd q (by decide)) (fun q => absurd q (by decide)) (fun q => absurd q (by decide)) (fun q => absurd q (by decide)) (fun _ => ?_) (fun q => absurd q (by decide))⟩
    · rw [s2, lo 0 (by omega), s1]
    · refine ⟨⟨by rw [lo 0 (by omega), c1, c2], by rw [c2]; omega, by rw [c2]; omega⟩, fun k hk => ?_⟩
      rw [c2] at hk
      by_cases r : k = i
      · subst r
        have e1 : ∀ j, j < 327 → blk σ2 (k + 1) j = σ 118 j := fun j hj => by
          unfold blk; rw [b2]; unfold cpB; rw [if_pos (by omega), show 327 * 0 + (327 * (k + 1) + j - 327 * (k + 1)) = j by omega]
        have e2 : ∀ j, j < 14 → wrd σ2 (k + 1) j = σ 120 j := fun j hj => by
          unfold wrd; rw [d2]; unfold cpB; rw [if_pos (by omega), show 14 * 0 + (14 * (k + 1) + j - 14 * (k + 1)) = j by omega]
        refine ⟨w1.cg (fun b j q1 q2 => by rw [lo b (by omega)]) (fun j hj => e1 j (by omega)) e2 h.xh.2.2, h.xh.2.2.cg (fun j hj => e1 j (by omega)), t1.cg' (fun b j q1 q2 _ => by rw [lo b (by omega)]) (e1 _ (by omega)) (by rw [e1 _ (by omega)]; exact Int.le_refl _) (fun j _ hj => e1 j hj), by rw [e1 _ (by omega)]; exact h.r6.2.2⟩
      · obtain ⟨k1, k2, k3, k4⟩ := m4 k (by omega)
        have e1 : ∀ j, j < 327 → blk σ2 (k + 1) j = blk σ (k + 1) j := fun j hj => by
          unfold blk; rw [b2]; unfold cpB; rw [if_neg (by omega)]
        have e2 : ∀ j, j < 14 → wrd σ2 (k + 1) j = wrd σ (k + 1) j := fun j hj => by
          unfold wrd; rw [d2]; unfold cpB; rw [if_neg (by omega)]
        have e3 : ∀ b j, 68 + 15 * k ≤ b → b < 68 + 15 * k + 15 → σ2 b j = σ b j := fun b j q1 q2 => by rw [lo b (by omega), o1 b j (by omega) (by omega)]
        exact ⟨k1.cg (fun b j q1 q2 => e3 b j (by omega) (by omega)) (fun j hj => e1 j (by omega)) e2 k2, k2.cg (fun j hj => e1 j (by omega)), k3.cg' (fun b j q1 q2 _ => e3 b j (by omega) (by omega)) (e1 _ (by omega)) (by rw [e1 _ (by omega)]; exact Int.le_refl _) (fun j _ hj => e1 j hj), by rw [e1 _ (by omega)]; exact k4⟩
  · refine Ok.mk (r := -1) (y := 7) h (XO.mk ?_) fun τ ht hg => MO.mkr ?_
    · unfold f_X11_mark f_X11_mark_b0 f_X11_mark_b15
      simp only [oX, if_true, gX, obs, m1, hi]
      rw [if_neg (by omega)]
      simp only [s_refn (show ¬ (7 : Int) = 0 by decide), obs, Int.one_ne_zero, if_false]
    · unfold f_X12_mark f_X12_mark_b0
      have k3 : rf2 τ 113 23 = i := by unfold rf2; rw [upm_app, if_neg (by omega), upm_app, if_neg (by omega), hg 113 (by omega), hi]
      simp only [oM, if_true, gM, pM, obs, rf2_e, s_refuse, k3]
      rw [if_pos (by omega)]
      rfl
/-! back -/
theorem x_back {i : Nat} (h : Rel σ) (hi : σ 113 23 = ((i + 1 : Nat) : Int)) (q : i < 3) : ∃ σ1, f_X11_back 0 σ = some (((i : Nat) : Int), σ1) ∧ Fr [0, 1, 6, 7, 8] σ σ1 ∧ σ1 0 19 = 0 ∧ σ1 0 17 = ((i : Nat) : Int) ∧ WR σ1 5 (blk σ (i + 1)) (wrd σ (i + 1)) ∧ TR σ1 14 (blk σ (i + 1)) ∧ (∀ b j, 20 ≤ b → σ1 b j = σ b j) := by
  obtain ⟨⟨m1, m2, m3⟩, m4⟩ := h.r8
  obtain ⟨k1, k2, k3, k4⟩ := m4 i (by rw [hi]; omega)
  have e17 : σ 0 17 = ((i + 1 : Nat) : Int) := by rw [m1, hi]
  have f0 : Fr [0, 1, 6, 7, 8] σ (upm (upm σ 0 19 0) 0 17 i) := (Fr.up (show gid 0 19 ∈ _ by decide)).then (by decide)
  have hR := f0.ref (by decide) h.1
  obtain ⟨σ1, a1, w1, f1⟩ := x_copyFrom (a := 5) (c := 68 + 15 * i) (.inl rfl) (wlm q) (by omega) hR (k1.cg (fun b j q1 q2 => by rw [upm_o (by omega), upm_o (by omega)]) (fun _ _ => rfl) (fun _ _ => rfl) k2) k2
  have g1 : ∀ b j, b < 5 ∨ 14 ≤ b → σ1 b j = upm (upm σ 0 19 0) 0 17 i b j := fun b j hb => f1 b j fun r => by obtain ⟨r1, r2, _⟩ := r; omega
  obtain ⟨σ2, a2, t2, f2⟩ := x_tcopy (a := 14) (c := 77 + 15 * i) (B := blk σ (i + 1)) (.inl rfl) (tlm q) (by omega) (f1.refW hR) (TR.o k3 fun b j q1 q2 => by rw [g1 b j (by omega), upm_o (by omega), upm_o (by omega)])
  have g2 : ∀ b j, b < 14 ∨ 20 ≤ b → σ2 b j = σ1 b j := fun b j hb => f2 b j fun r => by obtain ⟨r1, r2, _⟩ := r; omega
  have e2 : σ1 0 17 = i := by rw [g1 _ _ (by omega), upm_same]
  have e3 : σ2 0 17 = i := by rw [g2 _ _ (by omega), e2]
  refine ⟨σ2, ?_, ?_, ?_, e3, ?_, t2, ?_⟩
  · unfold f_X11_back f_X11_back_b0 f_X11_back_b14
    simp only [oX, if_true, gX, pX, obs, e17]
    rw [if_pos (by omega)]
    simp only [s_ref0, obs, if_true, gX, pX, show upm σ 0 19 0 0 17 = ((i + 1 : Nat) : Int) by rw [upm_app, if_neg (by omega), e17]]
    rw [w32_in (by omega) (by omega), show ((i + 1 : Nat) : Int) - 1 = i by omega]
    simp only [upm_same, hR.at 0 3 5 rfl, hR.at 0 7 38 rfl, alM8 q, obs, (rMk hR q).1]
    rw [show f_X9_copyFrom 5 ((68 + 15 * i : Nat) : Int) (upm (upm σ 0 19 0) 0 17 i) = some σ1 from a1]
    simp only [obs, gX, pX, e2, alM9 q, (rMk (f1.refW hR) q).2, (f1.refW hR).at 0 4 14 rfl, (f1.refW hR).at 0 8 39 rfl]
    rw [show f_X5_copyFrom 14 ((77 + 15 * i : Nat) : Int) σ1 = some σ2 from a2]
    simp only [obs, gX, e3]
  · refine Fr.trans (Fr.trans f0 (Fp.mono f1 fun b j r => ?_)) (Fp.mono f2 fun b j r => ?_)
    · unfold gs; rw [gid_wS r]; decide
    · unfold gs; rw [gid_tS r]; decide
  · rw [g2 _ _ (by omega), g1 _ _ (by omega), upm_app, if_neg (by omega), upm_same]
  · exact w1.cg (fun b j q1 q2 => by rw [g2 _ _ (by omega)]) (fun _ _ => rfl) (fun _ _ => rfl) k2
  · intro b j hb
    rw [g2 _ _ (by omega), g1 _ _ (by omega), upm_o (by omega), upm_o (by omega)]
theorem m_back {i : Nat} (hR : Ref τ) (hi : τ 113 23 = ((i + 1 : Nat) : Int)) (q : i < 3) : ∃ σ2, f_X12_back 113 τ = some (((i : Nat) : Int), σ2) ∧ Fr [11, 16, 17, 18, 20] τ σ2 ∧ σ2 113 0 = 0 ∧ σ2 113 23 = ((i : Nat) : Int) ∧ σ2 118 = cpB (τ 118) 327 (i + 1) 0 327 ∧ σ2 120 = cpB (τ 120) 14 (i + 1) 0 14 := by
  have f0 : Fr [11, 16, 17, 18, 20] τ (rf2 τ) := Fr.mono (fr_rf (v := 0)) (by decide)
  have e : f_X12_copy 113 ((i + 1 : Nat) : Int) 0 (rf2 τ) = some _ := m_copy (f := i + 1) (t := 0) (f0.ref (by decide) hR) (by omega) (by omega) (by omega)
  have k8 : rf2 τ 118 = τ 118 := by unfold rf2; rw [upm_ne (by decide), upm_ne (by decide)]
  have k0 : rf2 τ 120 = τ 120 := by unfold rf2; rw [upm_ne (by decide), upm_ne (by decide)]
  have k3 : rf2 τ 113 23 = ((i + 1 : Nat) : Int) := by unfold rf2; rw [upm_app, if_neg (by omega), upm_app, if_neg (by omega), hi]
  rw [k8, k0] at e
  refine ⟨upm (setc (setc (rf2 τ) 118 (cpB (τ 118) 327 (i + 1) 0 327)) 120 (cpB (τ 120) 14 (i + 1) 0 14)) 113 23 i, ?_, ?_, ?_, upm_same, ?_, ?_⟩
  · unfold f_X12_back f_X12_back_b0
    simp only [oM, if_true, gM, pM, obs, rf2_e, k3]
    rw [if_neg (by omega), e]
    simp only [obs, gM, pM]
    rw [setc_ne (by decide), setc_ne (by decide), k3, w32_in (by omega) (by omega), show ((i + 1 : Nat) : Int) - 1 = i by omega, upm_same]
  · refine Fr.then (f0.trans (Fr.trans (fr_setcA (a := 118) fun j hj => ?_) (fr_setcA (a := 120) fun j hj => ?_))) (by decide)
    · rw [k8] at hj
      unfold cpB at hj
      rw [gid118]
      by_cases r : 327 * 0 ≤ j ∧ j < 327 * 0 + 327
      · by_cases r5 : j < 55
        · rw [if_pos r5]; decide
        · rw [if_neg r5, if_pos (by omega)]; decide
      · rw [if_neg r] at hj; exact absurd rfl hj
    · rw [setc_ne (by decide), k0] at hj
      unfold cpB at hj
      rw [gid120]
      by_cases r : 14 * 0 ≤ j ∧ j < 14 * 0 + 14
      · rw [if_pos (by omega)]; decide
      · rw [if_neg r] at hj; exact absurd rfl hj
  · rw [upm_app, if_neg (by omega), setc_ne (by decide), setc_ne (by decide)]; rfl
  · rw [upm_ne (by decide), setc_ne (by decide), setc_same]
  · rw [upm_ne (by decide), setc_same]
theorem ok_back (h : Rel σ) : Ok (f_X11_back 0) (f_X12_back 113) σ := by
  obtain ⟨⟨m1, m2, m3⟩, m4⟩ := h.r8
  obtain ⟨n, hn⟩ := nat_of m2
  by_cases q : 0 < n
  · obtain ⟨i, rfl⟩ : ∃ i, n = i + 1 := ⟨n - 1, by omega⟩
    have hi3 : i < 3 := by omega
    obtain ⟨σ1, a1, f1, s1, c1, w1, t1, o1⟩ := x_back h hn hi3
    have hh := f1.hi (by decide)
    obtain ⟨σ2, a2, f2, s2, c2, b2, d2⟩ := m_back (τ := σ1) (f1.ref (by decide) h.1) (by rw [hh 113 (by omega), hn]) hi3
    have lo := f2.lo (by decide)
    rw [hh 118 (by omega)] at b2
    rw [hh 120 (by omega)] at d2
    obtain ⟨z1, z2, z3, z4⟩ := m4 i (by rw [hn]; omega)
    have e1 : ∀ j, j < 327 → σ2 118 j = blk σ (i + 1) j := fun j hj => by
      rw [b2]; unfold cpB blk; rw [if_pos (by omega)]; congr 1
    have e2 : ∀ j, j < 14 → σ2 120 j = wrd σ (i + 1) j := fun j hj => by
      rw [d2]; unfold cpB wrd; rw [if_pos (by omega)]; congr 1
    have r7 : R7 σ2 := t1.cg' (fun b j q1 q2 _ => by rw [lo b (by omega)]) (e1 _ (by omega)) (by rw [e1 _ (by omega)]; exact Int.le_refl _) (fun j _ hj => e1 j hj)
    refine ⟨_, σ1, σ2, a1, a2, h.step [0, 1, 6, 7, 8, 11, 16, 17, 18, 20] ((f1.mono (by decide)).trans (f2.mono (by decide))) (by decide) ?_ (fun q => absurd q (by decide)) (fun q => absurd q (by decide)) (fun q => absurd q (by decide)) (fun q => absurd q (by decide)) (fun _ => .inr ⟨⟨?_, ?_, ?_⟩, r7⟩) (fun _ => r7) (fun _ => ?_) (fun q => absurd q (by decide))⟩
    · rw [s2, lo 0 (by omega), s1]
    · exact w1.cg (fun b j q1 q2 => by rw [lo b (by omega)]) (fun j hj => e1 j (by omega)) e2 z2
    · exact z2.cg (fun j hj => e1 j (by omega))
    · rw [e1 _ (by omega)]; exact z4
    · refine ⟨⟨by rw [lo 0 (by omega), c1, c2], by rw [c2]; omega, by rw [c2]; omega⟩, fun k hk => ?_⟩
      rw [c2] at hk
      obtain ⟨k1, k2, k3, k4⟩ := m4 k (by rw [hn]; omega)
      have e1 : ∀ j, j < 327 → blk σ2 (k + 1) j = blk σ (k + 1) j := fun j hj => by
        unfold blk; rw [b2]; unfold cpB; rw [if_neg (by omega)]
      have e2 : ∀ j, j < 14 → wrd σ2 (k + 1) j = wrd σ (k + 1) j := fun j hj => by
        unfold wrd; rw [d2]; unfold cpB; rw [if_neg (by omega)]
      have e3 : ∀ b j, 68 + 15 * k ≤ b → b < 68 + 15 * k + 15 → σ2 b j = σ b j := fun b j q1 q2 => by rw [lo b (by omega), o1 b j (by omega)]
      exact ⟨k1.cg (fun b j q1 q2 => e3 b j (by omega) (by omega)) (fun j hj => e1 j (by omega)) e2 k2, k2.cg (fun j hj => e1 j (by omega)), k3.cg' (fun b j q1 q2 _ => e3 b j (by omega) (by omega)) (e1 _ (by omega)) (by rw [e1 _ (by omega)]; exact Int.le_refl _) (fun j _ hj => e1 j hj), by rw [e1 _ (by omega)]; exact k4⟩
  · have hn0 : n = 0 := by omega
    subst hn0
    refine Ok.mk (r := -1) (y := 8) h (XO.mk ?_) fun τ ht hg => MO.mkr ?_
    · unfold f_X11_back f_X11_back_b0 f_X11_back_b14
      simp only [oX, if_true, gX, obs, m1, hn]
      rw [if_neg (by omega)]
      simp only [s_refn (show ¬ (8 : Int) = 0 by decide), obs, Int.one_ne_zero, if_false]
    · unfold f_X12_back f_X12_back_b0
      have k3 : rf2 τ 113 23 = 0 := by unfold rf2; rw [upm_app, if_neg (by omega), upm_app, if_neg (by omega), hg 113 (by omega), hn]; rfl
      simp only [oM, if_true, gM, pM, obs, rf2_e, s_refuse, k3]
      rfl
end
