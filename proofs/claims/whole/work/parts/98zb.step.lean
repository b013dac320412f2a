/-! ===== terms read: STEPS with all that is in them ===== -/
section
variable {σ σ' σ1 τ τ' τ1 : Mem} {t V B B' : Nat → Int} {N k S w a : Nat}
theorem Sm.at_ {s : Nat} (h : Sm σ a k B s) (hs : ∀ m, 1 ≤ m → m ≤ 4 → σ' (a + m) k = σ (a + m) k) (e0 : B' 0 = B 0) (e1 : B' 1 = B 1) (e : ∀ i, i < 8 → B' (57 + 9 * s + i) = B (57 + 9 * s + i)) : Sm σ' a k B' s := by
  unfold Sm at h ⊢
  rw [hs 1 (by omega) (by omega), hs 2 (by omega) (by omega), hs 3 (by omega) (by omega), hs 4 (by omega) (by omega), e0, e1, show B' (57 + 9 * s) = B (57 + 9 * s) from e 0 (by omega), e 1 (by omega), e 2 (by omega), e 3 (by omega)]
  exact h
theorem Op'.at_ {s : Nat} (h : Op' σ a k B s) (hs : ∀ m, 1 ≤ m → m ≤ 4 → σ' (a + m) k = σ (a + m) k) (e0 : B' 0 = B 0) (e : ∀ i, i < 8 → B' (57 + 9 * s + i) = B (57 + 9 * s + i)) : Op' σ' a k B' s := by
  unfold Op' at h ⊢
  rw [hs 1 (by omega) (by omega), hs 2 (by omega) (by omega), hs 3 (by omega) (by omega), hs 4 (by omega) (by omega), e0, show B' (57 + 9 * s) = B (57 + 9 * s) from e 0 (by omega), e 1 (by omega), e 2 (by omega), e 3 (by omega), e 5 (by omega), e 6 (by omega), e 7 (by omega)]
  exact h
theorem Cd.mv2 {N M L P : Nat} (hs : ∀ m j, 1 ≤ m → m ≤ 5 → L ≤ j → j < M → σ' (a + m) j = σ (a + m) j) (h0 : B' 0 = B 0) (h1 : B' 1 = B 1) (hB : ∀ j, 57 + 9 * P ≤ j → j < 57 + 9 * N → B' j = B j) : ∀ (n d lo hi k k1 : Nat), P ≤ lo → hi ≤ N → L ≤ k → k1 ≤ M → Cd σ a B n d lo hi k k1 → Cd σ' a B' n d lo hi k k1 := by
  intro n
  induction n with
  | zero => intro d lo hi k k1 hP hN hL hM h; exact h
  | succ n ih =>
    intro d lo hi k k1 hP hN hL hM h
    unfold Cd at h ⊢
    rcases h with h | ⟨g1, g2, g3⟩ | ⟨d1, m, e, g1, g2, g3, g4, g5, g6, g7, g8⟩
    · exact .inl h
    · have l := Cd.lim _ _ _ _ _ _ g3
      refine .inr (.inl ⟨g1.at_ (fun m q1 q2 => hs m k q1 (by omega) hL (by omega)) h0 h1 (fun i hi => hB _ (by omega) (by omega)), by rw [hB _ (by omega) (by omega)]; exact g2, ih _ _ _ _ _ (by omega) hN (by omega) hM g3⟩)
    · have l := Cd.lim _ _ _ _ _ _ g4
      have l2 := Cd.lim _ _ _ _ _ _ g8
      exact .inr (.inr ⟨d1, m, e, g1, g2.at_ (fun m q1 q2 => hs m k q1 (by omega) hL (by omega)) h0 (fun i hi => hB _ (by omega) (by omega)), by rw [hB _ (by omega) (by omega)]; exact g3, ih _ _ _ _ _ (by omega) (by omega) (by omega) (by omega) g4, by rw [hs 1 m (by omega) (by omega) (by omega) (by omega)]; exact g5, by rw [hs 5 m (by omega) (by omega) (by omega) (by omega)]; exact g6, by rw [hs 5 k (by omega) (by omega) hL (by omega)]; exact g7, ih _ _ _ _ _ (by omega) hN (by omega) hM g8⟩)
theorem Co.at_ (h : Co σ τ t N) : σ 3 5 ≤ N := by
  obtain ⟨a', e, k1, _, _, _, k5, k6, _⟩ := h.2.1
  omega
/-- a STEP without a block -/
theorem j_plain {d s : Nat} {σ2 τ2 : Mem} {r : Int → Int → Mem → Option Mem} (hd : Dt σ τ S k w) (nb : ¬ (s = 7 ∨ s = 8)) (a1 : Xgo σ σ2 1) (a3 : Co σ2 τ2 t N) (a4 : Fp (QX k w) σ σ2) (a5 : Fp (QM S) τ τ2) (a6 : σ 3 5 < σ2 3 5) (a7 : PS s k S σ2 τ2) (a8 : σ2 31 1 = ((S + 1 : Nat) : Int) ∧ σ2 31 2 = ((k + 1 : Nat) : Int) ∧ τ2 113 25 = ((S + 1 : Nat) : Int)) (a9 : S < 30) (a11 : σ2 30 4 = w) : SO t N σ τ S k w d (f_X12_readStep_h142 r FU 113 w (bln s) ((1365 + 9 * S : Nat) : Int) τ2) some (fun σ' => σ 3 5 < σ' 3 5) := by
  obtain ⟨hu, ⟨d1, d2, d3⟩, ⟨d4, d5⟩, d6, d7⟩ := hd
  have u2 := hu.fp a4 a5
  have e : f_X12_readStep_h142 r FU 113 w (bln s) ((1365 + 9 * S : Nat) : Int) τ2 = some (upm τ2 118 (1365 + 9 * S + 8) (τ2 113 25)) := by
    rw [show FU = 199999 + 1 from rfl, hs_X12_readStep_h142]
    unfold f_X12_readStep_b142 f_X12_readStep_b170
    rw [show bln s = 0 by unfold bln; rw [if_neg (by omega)], if_pos rfl, if_pos rfl, m_192 u2.2.1 a9]
  have m3 : Fp (QM S) τ (upm τ2 118 (1365 + 9 * S + 8) (τ2 113 25)) := a5.then (by unfold QM; omega)
  refine .inl ⟨σ2, upm τ2 118 (1365 + 9 * S + 8) (τ2 113 25), 1, S + 1, k + 1, 1, a1, e, a3.c, ⟨hu.fp a4 m3, ⟨a8.1, by rw [upm_o (by decide), a8.2.2], by omega⟩, ⟨a8.2.1, by omega⟩, a11, d7⟩, a4, m3, by omega, ?_, a6⟩
  unfold Cd
  refine .inr (.inl ⟨(a7.1 nb).at_ (fun _ _ _ => rfl) ?_ ?_ (fun i hi => ?_), ?_, rfl, rfl⟩)
  · rw [Bt_0, Bt_0, upm_app, if_neg (by omega)]
  · rw [Bt_1, Bt_1, upm_app, if_neg (by omega)]
  · rw [Bt_s, Bt_s, upm_app, if_neg (by omega)]
  · rw [Bt_s, upm_same, a8.2.2]
    omega
/-- a STEP with a block -/
theorem j_block {d s : Nat} {σ2 τ2 : Mem} {G : Nat} (hd : Dt σ τ S k w) (bl : s = 7 ∨ s = 8) (a1 : Xgo σ σ2 1) (a3 : Co σ2 τ2 t N) (a4 : Fp (QX k w) σ σ2) (a5 : Fp (QM S) τ τ2) (a6 : σ 3 5 < σ2 3 5) (a7 : PS s k S σ2 τ2) (a8 : σ2 31 1 = ((S + 1 : Nat) : Int) ∧ σ2 31 2 = ((k + 1 : Nat) : Int) ∧ τ2 113 25 = ((S + 1 : Nat) : Int)) (a9 : S < 30) (a10 : w < 3 ∧ σ2 30 4 = ((w + 1 : Nat) : Int) ∧ σ2 37 w = k)
    (ih : ∀ (σ τ : Mem) (S k : Nat), Co σ τ t N → Dt σ τ S k (w + 1) → isK (σ 3) 21 = false → SO t N σ τ S k (w + 1) d (f_X12_readStep G 113 ((w + 1 : Nat) : Int) τ) some (fun σ' => σ 3 5 < σ' 3 5)) : SO t N σ τ S k w (d + 1) (f_X12_readStep_h142 (f_X12_readStep G) FU 113 w (bln s) ((1365 + 9 * S : Nat) : Int) τ2) some (fun σ' => σ 3 5 < σ' 3 5) := by
  obtain ⟨hu, ⟨d1, d2, d3⟩, ⟨d4, d5⟩, d6, d7⟩ := hd
  have u2 := hu.fp a4 a5
  have hN : N ≤ 900 := a3.1.1.2.2.2.1
  have b1 : bln s = 1 := by unfold bln; rw [if_pos (by omega)]
  rw [b1]
  have dt2 : Dt σ2 τ2 (S + 1) (k + 1) (w + 1) := ⟨u2, ⟨a8.1, a8.2.2, by omega⟩, ⟨a8.2.1, by omega⟩, a10.2.1, by omega⟩
  obtain ⟨a, _, ka, _⟩ := a3.2.1
  have L := j_loop (t := t) (N := N) (w := w + 1) (d := d) (G := G) (K := fun n τ => f_X12_readStep_h142 (f_X12_readStep G) n 113 w 1 ((1365 + 9 * S : Nat) : Int) τ) (fin := fun τ => f_X12_readStep_b170 (f_X12_readStep G) 113 1 ((1365 + 9 * S : Nat) : Int) τ) (stp := fun σ => isK (σ 3) 21) (fun n τ hb => mb_142 hb) (fun n σ τ h => by
      show f_X12_readStep_h142 (f_X12_readStep G) (n + 1) 113 w 1 ((1365 + 9 * S : Nat) : Int) τ = _
      rw [hs_X12_readStep_h142]
      unfold f_X12_readStep_b142
      rw [if_neg (by decide), gM, obs, if_pos h.2.2, m_isEnd h.2.1.kk, obs, ifb, wkk1 (by omega)]) ih (N + 1) a FU σ2 τ2 (S + 1) (k + 1) a3 dt2 ka (by omega) (by unfold FU; omega)
  rcases L with ⟨σ3, τ3, n, S3, k3, m, c1, c2, c3, c4, c5, c6, c7, c8, c9⟩ | ⟨σ3, τ3, n, c1, c2, c3, c4, c5, c6⟩
  · have c9 : isK (σ3 3) 21 = true := c9
    have c2 : f_X12_readStep_h142 (f_X12_readStep G) FU 113 w 1 ((1365 + 9 * S : Nat) : Int) τ2 = f_X12_readStep_b170 (f_X12_readStep G) 113 1 ((1365 + 9 * S : Nat) : Int) τ3 := c2
    have lm := Cd.lim _ _ _ _ _ _ c8
    have f3 : Fp (QX k w) σ σ3 := a4.trans (QXm c5 (by omega) (by omega))
    have m3 : Fp (QM S) τ τ3 := a5.trans (QMm c6 (by omega))
    have o3 : σ3 37 w = k := by rw [c5 37 w (by unfold QX; omega)]; exact a10.2.2
    have n3 := c3.at_
    obtain ⟨u3, ⟨e1, e2, e3⟩, ⟨e4, e5⟩, e6, e7⟩ := c4
    have z3 : ¬ σ3 3 4 = 0 := by rw [isK_w c9]; decide
    rw [c2, m_170 (by decide)]
    rcases j_close (o := k) (w := w) c3 ⟨u3, ⟨e1, e2, e3⟩, ⟨e4, e5⟩, e6, e7⟩ c9 o3 (by omega) with ⟨σc, σ4, τ4, g1, g2, g3, g4, g5, g6, g7, g8⟩ | ⟨σ4, τ4, g1, g2, g3, g4, g5⟩
    · have f4 : Fp (QX k w) σ σ4 := by
        refine (f3.trans ?_).trans (X0q g7)
        rw [g5]
        exact (Fp.up (by unfold QX; omega)).trans (cloX_f (by omega))
      have m4 : Fp (QM S) τ τ4 := m3.trans (M0q g4)
      have u4 := hu.fp f4 m4
      have t25 : τ4 113 25 = S3 := by rw [g4 113 25 (by unfold M0; omega), e2]
      have m5 : Fp (QM S) τ (upm τ4 118 (1365 + 9 * S + 8) (τ4 113 25)) := m4.then (by unfold QM; omega)
      have v := cloX_v (σ := upm σ3 30 4 (w : Int)) (k := k3) (o := k) (by omega)
      have x4 : ∀ b j, ¬ b = 3 → σ4 b j = cloX (upm σ3 30 4 (w : Int)) k3 k b j := fun b j hb => by rw [g6 b hb, g5]
      have x5 : ∀ b j, 32 ≤ b → b ≤ 36 → ¬ j = k3 → (b = 36 → ¬ j = k) → σ4 b j = σ3 b j := fun b j q1 q2 q3 q4 => by rw [x4 b j (by omega), cloX_o q1 q3 q4, upm_o (by omega)]
      have w0 : upm τ4 118 (1365 + 9 * S + 8) (τ4 113 25) 118 0 = τ2 118 0 := by
        rw [upm_app, if_neg (by omega), g4 118 0 (by unfold M0; omega), c6 118 0 (by unfold QM; omega)]
      have w1 : upm τ4 118 (1365 + 9 * S + 8) (τ4 113 25) 118 1 = τ2 118 1 := by
        rw [upm_app, if_neg (by omega), g4 118 1 (by unfold M0; omega), c6 118 1 (by unfold QM; omega)]
      refine .inl ⟨σ4, upm τ4 118 (1365 + 9 * S + 8) (τ4 113 25), 1 + n + 1, S3, k3 + 1, m + 1, (a1.trans c1).trans (Xgo.one u3.1 z3 g1), by rw [g2, obs, m_192 u4.2.1 a9], g3.c, ⟨hu.fp f4 m5, ⟨by rw [x4 31 1 (by decide), v.2.2.2.1, upm_o (by decide)]; exact e1, by rw [upm_o (by decide), t25], e3⟩, ⟨by rw [x4 31 2 (by decide), v.2.2.2.2], by omega⟩, by rw [x4 30 4 (by decide), cloX_c (by omega), upm_same], by omega⟩, f4, m5, by omega, ?_, by omega⟩
      unfold Cd
      refine .inr (.inr ⟨d, k3, S3, rfl, (a7.2 bl).at_ (fun i q1 q2 => ?_) ?_ (fun i hi => ?_), ?_, ?_, ?_, ?_, ?_, Cd.le 0 _ _ _ _ _ ⟨rfl, rfl⟩ _ (by omega)⟩)
      · rw [x5 _ _ (by omega) (by omega) (by omega) (by omega), c5 _ _ (by unfold QX; omega)]
      · rw [Bt_0, Bt_0, w0]
      · rw [Bt_s, Bt_s, upm_app, if_neg (by omega), g4 118 _ (by unfold M0; omega), c6 118 _ (by unfold QM; omega)]
      · rw [Bt_s, upm_same, t25]
      · refine Cd.mv2 (N := S3) (M := k3) (L := k + 1) (P := S + 1) (fun i j q1 q2 q3 q4 => x5 _ _ (by omega) (by omega) (by omega) (by omega)) ?_ ?_ (fun j q1 q2 => ?_) _ _ _ _ _ _ (Nat.le_refl _) (Nat.le_refl _) (Nat.le_refl _) (Nat.le_refl _) c8
        · rw [Bt_0, Bt_0, w0, c6 118 0 (by unfold QM; omega)]
        · rw [Bt_1, Bt_1, w1, c6 118 1 (by unfold QM; omega)]
        · unfold Bt blk
          rw [if_neg (by omega), if_neg (by omega), upm_app, if_neg (by omega), g4 118 _ (by unfold M0; omega)]
      · rw [x4 _ _ (by omega)]; exact v.1
      · rw [x4 _ _ (by omega)]; exact v.2.1
      · rw [x4 _ _ (by omega)]; exact v.2.2.1
    · have m4 : Fp (QM S) τ τ4 := m3.trans (M0q g5)
      have f4 : Fp (QX k w) σ σ4 := f3.trans g4
      have u4 := hu.fp f4 m4
      exact .inr ⟨σ4, upm τ4 118 (1365 + 9 * S + 8) (τ4 113 25), 1 + n + 0, (a1.trans c1).bad (Xbad.one u3.1 z3 g1), by rw [g2, obs, m_192 u4.2.1 a9], g3.c, f4, m4.then (by unfold QM; omega), by omega⟩
  · have c2 : f_X12_readStep_h142 (f_X12_readStep G) FU 113 w 1 ((1365 + 9 * S : Nat) : Int) τ2 = f_X12_readStep_b170 (f_X12_readStep G) 113 1 ((1365 + 9 * S : Nat) : Int) τ3 := c2
    have f3 : Fp (QX k w) σ σ3 := a4.trans (QXm c4 (by omega) (by omega))
    have m3 : Fp (QM S) τ τ3 := a5.trans (QMm c5 (by omega))
    have u3 := hu.fp f3 m3
    rw [c2, mb_170 c3.2.2 u3.2.1 a9]
    exact .inr ⟨σ3, upm τ3 118 (1365 + 9 * S + 8) (τ3 113 25), 1 + n, a1.bad c1, rfl, c3.c, f3, m3.then (by unfold QM; omega), by omega⟩
/-- a STEP read by both -/
theorem j_readStep : ∀ (d w G : Nat), w + d = 3 → d < G → ∀ (σ τ : Mem) (S k : Nat), Co σ τ t N → Dt σ τ S k w → (w = 0 → ¬ σ 3 4 = 0) → (¬ w = 0 → isK (σ 3) 21 = false) → SO t N σ τ S k w d (f_X12_readStep G 113 w τ) some (fun σ' => σ 3 5 < σ' 3 5) := by
  intro d
  induction d with
  | zero =>
    intro w G hw hG σ τ S k h hd h0 h1
    obtain ⟨G, rfl⟩ : ∃ x, G = x + 1 := ⟨G - 1, by omega⟩
    rw [hs_X12_readStep]
    rcases j_head (r := f_X12_readStep G) h hd h0 h1 with ⟨s, σ2, τ2, s9, a1, a2, a3, a4, a5, a6, a7, a8, a9, a10, a11⟩ | ⟨σ2, τ2, a1, a2, a3, a4, a5⟩
    · have nb : ¬ (s = 7 ∨ s = 8) := fun x => by have := (a10 x).1; omega
      rw [a2]
      exact j_plain hd nb a1 a3 a4 a5 a6 a7 a8 a9 (a11 nb)
    · exact .inr ⟨σ2, τ2, 0, a1, a2, a3, a4, a5, by have := h.at_; omega⟩
  | succ d ih =>
    intro w G hw hG σ τ S k h hd h0 h1
    obtain ⟨G, rfl⟩ : ∃ x, G = x + 1 := ⟨G - 1, by omega⟩
    rw [hs_X12_readStep]
    rcases j_head (r := f_X12_readStep G) h hd h0 h1 with ⟨s, σ2, τ2, s9, a1, a2, a3, a4, a5, a6, a7, a8, a9, a10, a11⟩ | ⟨σ2, τ2, a1, a2, a3, a4, a5⟩
    · rw [a2]
      by_cases bl : s = 7 ∨ s = 8
      · exact j_block hd bl a1 a3 a4 a5 a6 a7 a8 a9 (a10 bl) (fun σ τ S k h hd hk => ih (w + 1) G (by omega) (by omega) σ τ S k h hd (fun q => absurd q (by omega)) (fun _ => hk))
      · exact j_plain hd bl a1 a3 a4 a5 a6 a7 a8 a9 (a11 bl)
    · exact .inr ⟨σ2, τ2, 0, a1, a2, a3, a4, a5, by have := h.at_; omega⟩
end
