/-! ===== terms read: the tests ===== -/
section
variable {σ σ' σ1 τ τ' τ1 : Mem} {t V : Nat → Int} {N k S w : Nat}
theorem Co.n9 {v : Int} (h : Co σ τ t N) : Co (upm σ 3 9 v) τ t N := by
  obtain ⟨h1, h2, h3⟩ := h
  rw [show upm σ 3 9 v = setc σ 3 (up1 (σ 3) 9 v) from upm_setc]
  obtain ⟨x1, x2, x3, x4, x5, x6, x7, x8⟩ := h1.1
  refine ⟨⟨?_, h1.2⟩, ?_, h3⟩
  · rw [setc_same]
    exact ⟨by rw [up1_ne (by decide)]; exact x1, by rw [up1_ne (by decide)]; exact x2, by rw [up1_ne (by decide)]; exact x3, x4, by rw [setc_ne (by decide)]; exact x5, fun i hi => by rw [setc_ne (by decide)]; exact x6 i hi, by rw [up1_ne (by decide)]; exact x7, by rw [up1_ne (by decide)]; exact x8⟩
  · rw [setc_same]
    obtain ⟨a, ee, k1, k2, k3, k4, k5, k6, k7, k8⟩ := h2
    refine ⟨a, ee, by rw [up1_ne (by decide)]; exact k1, k2, by rw [up1_ne (by decide)]; exact k3, k4, k5, k6, by rw [up1_ne (by decide)]; exact k7, ?_⟩
    unfold TKk at k8 ⊢
    rw [up1_ne (by decide), up1_ne (by decide), up1_ne (by decide), up1_ne (by decide)]
    exact k8
/-- a comparison stands -/
def cmpB (V : Nat → Int) : Bool := decide (V 4 = 4 ∧ ¬ V 8 = 59)
theorem j_cmp (h : Co σ τ t N) : (cmpB (σ 3) = true ∧ ∃ σ' τ', f_X7_takeComparison 3 σ = some (1, σ') ∧ f_X12_must 113 1 τ = some τ' ∧ Co σ' τ' t N ∧ Fp X0 σ σ' ∧ Fp M0 τ τ' ∧ σ 3 5 ≤ σ' 3 5 ∧ σ' 3 9 = τ 113 17 ∧ τ 113 14 = 3 ∧ 60 ≤ τ 113 17 ∧ τ 113 17 ≤ 62 ∧ σ' 30 5 = σ 30 5) ∨ (cmpB (σ 3) = false ∧ ∃ σ' τ', f_X7_takeComparison 3 σ = some (0, σ') ∧ f_X12_must 113 0 τ = some τ' ∧ Bd σ' τ' ∧ Fp X0 σ σ' ∧ Fp M0 τ τ') := by
  have tk := h.2.1.kk
  have e := tk.sgn
  have ev := tk.sval
  have bad : ¬ (σ 3 4 = 4 ∧ ¬ σ 3 8 = 59) → (cmpB (σ 3) = false ∧ ∃ σ' τ', f_X7_takeComparison 3 σ = some (0, σ') ∧ f_X12_must 113 0 τ = some τ' ∧ Bd σ' τ' ∧ Fp X0 σ σ' ∧ Fp M0 τ τ') := by
    intro q
    obtain ⟨σ3, τ3, b1, b2, b3, b4⟩ := j_amiss h
    have e17 : f_X7_takeComparison_b17 3 σ = some (0, σ3) := by
      unfold f_X7_takeComparison_b17
      rw [b1, obs]
      rfl
    refine ⟨by unfold cmpB; exact decide_eq_false q, σ3, τ3, ?_, by rw [m_must0 h.2.2, b2], b4, b3.fx, b3.fm⟩
    unfold f_X7_takeComparison f_X7_takeComparison_b0
    rw [if_pos oTxt, gTx, obs, e17]
    by_cases z : σ 3 4 = 4
    · rw [if_pos z, gTx, obs, if_pos (by omega)]
    · rw [if_neg z]
  by_cases q : σ 3 4 = 4 ∧ ¬ σ 3 8 = 59
  · obtain ⟨σ3, τ3, a1, a2, a3, a4, a5, a6, a7⟩ := j_go (h.n9 (v := σ 3 8))
    obtain ⟨v1, v2, v3⟩ := ev q.1
    refine .inl ⟨by unfold cmpB; exact decide_eq_true q, σ3, τ3, ?_, by rw [m_must1 h.2.2 (by decide), a2], a4, (Fp.up (by unfold X0; omega)).trans a3.fx, a3.fm, ?_, by rw [a7, upm_same, v1], e.mp q.1, by omega, by omega, by rw [a3.x (by decide), upm_o (by decide)]⟩
    · unfold f_X7_takeComparison f_X7_takeComparison_b0
      simp only [oTxt, if_true, gTx, pTx, obs]
      rw [if_pos q.1, if_neg q.2, a1, obs]
    · rw [upm_app, if_neg (by omega)] at a5; exact a5
  · exact .inr (bad q)
theorem m_cmp {s0 : Int} (hS : S < 30) (tk : TKk V (τ 113)) : f_X12_readTest_b117 113 ((1365 + 9 * S : Nat) : Int) s0 (w32 (((1365 + 9 * S : Nat) : Int) + 7)) 118 τ = f_X12_readTest_b151 113 ((1365 + 9 * S : Nat) : Int) (if cmpB V = true then 1 else 0) 113 (upm τ 118 (1365 + 9 * S + 7) s0) := by
  have tk' : TKk V (upm τ 118 (1365 + 9 * S + 7) s0 113) := by rw [upm_ne (by decide)]; exact tk
  have ev := tk.sval
  unfold f_X12_readTest_b117 f_X12_readTest_b146 cmpB
  rw [stS7 hS, obs, show f_X12_isSign 113 60 (upm τ 118 (1365 + 9 * S + 7) s0) = _ from m_isSign (k := 60) tk', obs, ifb, show f_X12_isSign 113 62 (upm τ 118 (1365 + 9 * S + 7) s0) = _ from m_isSign (k := 62) tk', obs, ifb, show f_X12_isSign 113 61 (upm τ 118 (1365 + 9 * S + 7) s0) = _ from m_isSign (k := 61) tk', obs, ifb]
  by_cases q : V 4 = 4
  · obtain ⟨v1, v2, v3⟩ := ev q
    rcases (show V 8 = 59 ∨ V 8 = 60 ∨ V 8 = 61 ∨ V 8 = 62 by omega) with e | e | e | e <;> rw [q, e] <;> rfl
  · simp [q]
/-- a test's word and stone -/
theorem j_testHead {op : Nat} {wv : Int} (h : Co σ τ t N) (hd : Du σ τ) (hS : S < 30) (hs : τ 118 (1365 + 9 * S) = 7) (hop : isK (σ 3) op = true) :
    (∃ r : Nat, ∃ σ4 τ4, (∀ r2 r5, f_X6_readTest_b48 30 r2 r5 σ = if r2 = 0 then f_X6_readTest_b94 30 r2 r5 op σ4 else (f_X7_takeNumber 3 0 (w32 (σ4 5 0 - 1)) σ4).bind fun r24 => if r24.1 = 0 then some (0, r24.2) else f_X6_readTest_b94 30 r2 r5 op r24.2) ∧
      (f_X12_readTest_b15 113 ((1365 + 9 * S : Nat) : Int) wv 1 113 τ = if wv = 0 then (f_X12_count 113 0 (w32 (τ4 118 0 - 1)) τ4).bind fun r13 => (st_ Sh r13.2 20 118 (w32 (((1365 + 9 * S : Nat) : Int) + 2)) r13.1).bind fun σ15 => (gf Sh σ15 12 113 20).bind fun x16 => (f_X12_count 113 0 99 σ15).bind fun r17 => (st_ Sh r17.2 20 x16 (w32 (((1365 + 9 * S : Nat) : Int) + 3)) r17.1).bind fun σ19 => f_X12_readTest_b80 113 ((1365 + 9 * S : Nat) : Int) wv σ19 else f_X12_readTest_b80 113 ((1365 + 9 * S : Nat) : Int) wv τ4) ∧
      Co σ4 τ4 t N ∧ Fp X0 σ σ4 ∧ Fp (RM S) τ τ4 ∧ σ 3 5 ≤ σ4 3 5 ∧ σ4 30 5 = r ∧ (r : Int) < τ 118 0 ∧ τ4 118 (1365 + 9 * S) = 7 ∧ τ4 118 (1365 + 9 * S + 5) = wv ∧ τ4 118 (1365 + 9 * S + 1) = r) ∨
    (∃ σ4 τ4, (∀ r2 r5, f_X6_readTest_b48 30 r2 r5 σ = some (0, σ4)) ∧ f_X12_readTest_b15 113 ((1365 + 9 * S : Nat) : Int) wv 1 113 τ = some τ4 ∧ Bd σ4 τ4 ∧ Fp X0 σ σ4 ∧ Fp (RM S) τ τ4) := by
  have k7 : σ 3 7 = op := by unfold isK at hop; rw [decide_eq_true_iff] at hop; exact hop.2
  obtain ⟨σ2, τ2, a1, a2, a3, a4, a5, a6, _⟩ := j_go h
  have g2 : Fp (RM S) τ (upm τ2 118 (1365 + 9 * S + 5) wv) := fS (M0r a3.fm) (by omega)
  have d2 := hd.rp a3.fx g2
  have c2 : Co σ2 (upm τ2 118 (1365 + 9 * S + 5) wv) t N := a4.c
  have ex : ∀ r2 r5, f_X6_readTest_b48 30 r2 r5 σ = (f_X6_takeStone 30 σ2).bind fun r19 => if r19.1 = 0 then some (0, r19.2) else if r2 = 0 then f_X6_readTest_b94 30 r2 r5 op r19.2 else (gf Sh r19.2 6 30 0).bind fun x21 => (gf Sh r19.2 6 30 1).bind fun x22 => (gf Sh r19.2 9 x22 0).bind fun x23 => (f_X7_takeNumber x21 0 (w32 (x23 - 1)) r19.2).bind fun r24 => if r24.1 = 0 then some (0, r24.2) else f_X6_readTest_b94 30 r2 r5 op r24.2 := by
    intro r2 r5
    unfold f_X6_readTest_b48
    rw [gTr, obs, hd.1.at 30 0 3 rfl, gTx, obs, k7, obs, a1, obs]
  have em : f_X12_readTest_b15 113 ((1365 + 9 * S : Nat) : Int) wv 1 113 τ = (f_X12_readTold 113 0 0 (upm τ2 118 (1365 + 9 * S + 5) wv)).bind fun r9 => (st_ Sh r9.2 20 118 (w32 (((1365 + 9 * S : Nat) : Int) + 1)) r9.1).bind fun σ11 => if wv = 0 then (gf Sh σ11 12 113 20).bind fun x12 => (f_X12_readPlace 113 σ11).bind fun r13 => (st_ Sh r13.2 20 x12 (w32 (((1365 + 9 * S : Nat) : Int) + 2)) r13.1).bind fun σ15 => (gf Sh σ15 12 113 20).bind fun x16 => (f_X12_count 113 0 99 σ15).bind fun r17 => (st_ Sh r17.2 20 x16 (w32 (((1365 + 9 * S : Nat) : Int) + 3)) r17.1).bind fun σ19 => f_X12_readTest_b80 113 ((1365 + 9 * S : Nat) : Int) wv σ19 else f_X12_readTest_b80 113 ((1365 + 9 * S : Nat) : Int) wv σ11 := by
    unfold f_X12_readTest_b15
    rw [m_must1 h.2.2 (by decide), a2, obs, gM, obs, (hd.rp a3.fx (M0r (S := S) a3.fm)).2.1.at 113 20 118 rfl, stS5 hS, obs, gM, obs, if_pos (by rw [c2.2.2]; decide), gM, obs, d2.2.1.at 113 20 118 rfl]
  rcases j_told c2 d2 with ⟨r, σ4, τ4, b1, b2, b4, bx, bm, b5, b6, b7⟩ | ⟨σ4, τ4, b1, b2, b4, bx, bm⟩
  · have f4 := a3.fx.trans bx
    have g4 : Fp (RM S) τ (upm τ4 118 (1365 + 9 * S + 1) r) := fS (g2.trans (M0r bm)) (by omega)
    have d4 := hd.rp f4 g4
    have q3 : upm τ2 118 (1365 + 9 * S + 5) wv 118 0 = τ 118 0 := g2 118 0 (by unfold RM; omega)
    rw [q3] at b7
    refine .inl ⟨r, σ4, upm τ4 118 (1365 + 9 * S + 1) r, fun r2 r5 => ?_, ?_, b4.c, f4, g4, by omega, b6, b7, ?_, ?_, upm_same⟩
    · rw [ex, b1, obs]
      dsimp only
      rw [if_neg (by decide)]
      simp only [gTr, obs, d4.1.at 30 0 3 rfl, d4.1.at 30 1 5 rfl, show gf Sh σ4 9 5 0 = some (σ4 5 0) from gW (.inl rfl)]
    · rw [em, b2, obs]
      dsimp only
      rw [stS1 hS, obs, gM, obs, d4.2.1.at 113 20 118 rfl, m_place d4.2.1]
    · rw [upm_app, if_neg (by omega), bm 118 _ (by unfold M0; omega), upm_app, if_neg (by omega), a3.m (by decide)]; exact hs
    · rw [upm_app, if_neg (by omega), bm 118 _ (by unfold M0; omega), upm_same]
  · have f4 := a3.fx.trans bx
    have g4 : Fp (RM S) τ (upm τ4 118 (1365 + 9 * S + 1) 0) := fS (g2.trans (M0r bm)) (by omega)
    have d4 := hd.rp f4 g4
    have ex2 : ∀ r2 r5, f_X6_readTest_b48 30 r2 r5 σ = some (0, σ4) := fun r2 r5 => by rw [ex, b1, obs]; rfl
    have e80 : ∀ ρ : Mem, 0 < ρ 113 12 → f_X12_readTest_b80 113 ((1365 + 9 * S : Nat) : Int) wv ρ = some ρ := fun ρ hρ => by
      unfold f_X12_readTest_b80
      rw [gM, obs, if_pos hρ]
    rw [b2, obs] at em
    dsimp only at em
    rw [stS1 hS, obs] at em
    by_cases z : wv = 0
    · have g5 : Fp (RM S) τ (upm (upm τ4 118 (1365 + 9 * S + 1) 0) 118 (1365 + 9 * S + 2) 0) := fS g4 (by omega)
      have d5 := hd.rp f4 g5
      rw [if_pos z, gM, obs, d4.2.1.at 113 20 118 rfl, m_place d4.2.1, mb_count (b4.c (j := 1365 + 9 * S + 1) (v := 0)).2.2, obs] at em
      dsimp only at em
      rw [stS2 hS, obs, gM, obs, d5.2.1.at 113 20 118 rfl, mb_count (b4.c.c (j := 1365 + 9 * S + 2) (v := 0)).2.2, obs] at em
      dsimp only at em
      rw [stS3 hS, obs, e80 _ b4.c.c.c.2.2] at em
      exact .inr ⟨σ4, _, ex2, em, b4.c.c.c, f4, fS g5 (by omega)⟩
    · rw [if_neg z, e80 _ b4.c.2.2] at em
      exact .inr ⟨σ4, _, ex2, em, b4.c, f4, g4⟩
theorem isK_no {k j : Nat} (h : isK V k = true) (hj : ¬ j = k) : isK V j = false := by rw [isK_1 h]; exact decide_eq_false hj
theorem x_testWords (hR : Ref σ) : f_X6_readTest 30 σ = if isK (σ 3) 18 = true then f_X6_readTest_b48 30 1 (if isK (σ 3) 3 = true then 1 else 0) σ else if isK (σ 3) 3 = true then f_X6_readTest_b48 30 0 1 σ else if isK (σ 3) 19 = true then f_X6_readTest_b48 30 0 0 σ else (f_X7_refuse 3 2 σ).bind fun r11 => (bz r11.1).bind fun _ => some (r11.1, r11.2) := by
  unfold f_X6_readTest f_X6_readTest_b0
  simp only [oTr, if_true, gTr, obs, hR.at 30 0 3 rfl]
  rw [show f_X7_isWord 3 18 σ = _ from x_isWord (k := 18), obs, show f_X7_isWord 3 3 σ = _ from x_isWord (k := 3), obs, show f_X7_isWord 3 19 σ = _ from x_isWord (k := 19), obs, ifb, ifb, ifb]
  by_cases q1 : isK (σ 3) 18 = true
  · simp only [q1, ↓reduceIte]
  · by_cases q2 : isK (σ 3) 3 = true
    · simp only [q1, q2, ↓reduceIte, Bool.false_eq_true, if_false]
    · simp only [q1, q2, ↓reduceIte, Bool.false_eq_true, if_false]
theorem m_b80n {wv : Int} (h0 : ¬ wv = 2) : f_X12_readTest_b80 113 ((1365 + 9 * S : Nat) : Int) wv τ = some τ := by
  unfold f_X12_readTest_b80
  rw [gM, obs, if_neg h0, ite_self]
/-- when -/
theorem j_test (h : Co σ τ t N) (hd : Du σ τ) (h2 : σ 31 2 = k) (hk : k < 60) (h1 : σ 31 1 = S) (hS : S < 30) (hs : τ 118 (1365 + 9 * S) = 7) : RO t N σ τ k S (fun σ' τ' => Op' σ' 31 k (Bt τ') S) (f_X6_readTest 30 σ) (f_X12_readTest 113 ((1365 + 9 * S : Nat) : Int) τ) := by
  have tk := h.2.1.kk
  have em : f_X12_readTest 113 ((1365 + 9 * S : Nat) : Int) τ = if tsW (σ 3) < 0 then f_X12_readTest_b15 113 ((1365 + 9 * S : Nat) : Int) (tsW (σ 3)) 0 113 τ else f_X12_readTest_b15 113 ((1365 + 9 * S : Nat) : Int) (tsW (σ 3)) 1 113 τ := by
    unfold f_X12_readTest f_X12_readTest_b0
    rw [if_pos oM, m_testWord tk, obs]
  rw [em, x_testWords hd.1]
  by_cases k18 : isK (σ 3) 18 = true
  · have e3 := isK_no (j := 3) k18 (by decide)
    have et : tsW (σ 3) = 0 := by unfold tsW; rw [if_pos k18]
    rw [if_pos k18, e3, et, if_neg (by decide), if_neg (by decide)]
    rcases j_testHead (wv := 0) h hd hS hs k18 with ⟨r, σ4, τ4, a1, a2, a3, a4, a5, a6, a7, a8, a9, a10, a11⟩ | ⟨σ4, τ4, a1, a2, a3, a4, a5⟩
    · have d4 := hd.rp a4 a5
      have p4 := d4.p0
      have q4 : τ4 118 0 = τ 118 0 := a5 118 0 (by unfold RM; omega)
      rw [a1, if_neg (by decide), a2, if_pos rfl, p4.1]
      rcases j_num (lo := 0) (hi := w32 (τ4 118 0 - 1)) a3 with ⟨n, σ5, τ5, c1, c2, c3, c4, c5, c6, c7, c8⟩ | ⟨σ5, τ5, c1, c2, c3, c4⟩
      · have f5 := a4.trans c3.fx
        have g5 : Fp (RM S) τ (upm τ5 118 (1365 + 9 * S + 2) n) := fS (a5.trans (M0r c3.fm)) (by omega)
        have d5 := hd.rp f5 g5
        rw [c1, c2, obs, obs]
        dsimp only
        rw [if_neg (by decide), stS2 hS, obs, gM, obs, d5.2.1.at 113 20 118 rfl]
        unfold f_X6_readTest_b94 f_X6_readTest_b110 f_X6_readTest_b136
        rw [if_pos rfl, gTr, obs, d5.1.at 30 0 3 rfl, gTx, obs, if_neg (by decide), obs, c6]
        rcases j_num (lo := 0) (hi := 99) (c4.c (j := 1365 + 9 * S + 2) (v := n)) with ⟨n2, σ6, τ6, e1, e2, e3, e4, e5, e6, e7, e8⟩ | ⟨σ6, τ6, e1, e2, e3, e4⟩
        · have f6 := f5.trans e3.fx
          have g6 : Fp (RM S) τ (upm τ6 118 (1365 + 9 * S + 3) n2) := fS (g5.trans (M0r e3.fm)) (by omega)
          have d6 := hd.rp f6 g6
          have v5 : σ6 30 5 = r := by rw [e3.x (by decide), c3.x (by decide), a7]
          rw [e1, e2, obs, obs]
          dsimp only
          rw [if_neg (by decide), if_pos rfl, stS3 hS, obs, m_b80n (by decide)]
          unfold f_X6_readTest_b155
          simp only [gTr, obs, d6.1.at 30 0 3 rfl, d6.1.at 30 2 31 rfl, gTx, e6, v5]
          refine RO.add (op := 18) (a := r) (b := n) (c := n2) e4.c hd f6 g6 h2 hk h1 hS (by decide) (by omega) (.inr ?_) rfl rfl
          simp only [Bt_s, Bt_s0, Bt_0]
          have v0 : upm τ6 118 (1365 + 9 * S + 3) n2 118 (1365 + 9 * S) = 7 := by
            rw [upm_app, if_neg (by omega), e3.m (by decide), upm_app, if_neg (by omega), c3.m (by decide)]; exact a9
          have v1 : upm τ6 118 (1365 + 9 * S + 3) n2 118 (1365 + 9 * S + 1) = r := by
            rw [upm_app, if_neg (by omega), e3.m (by decide), upm_app, if_neg (by omega), c3.m (by decide)]; exact a11
          have v2 : upm τ6 118 (1365 + 9 * S + 3) n2 118 (1365 + 9 * S + 2) = n := by
            rw [upm_app, if_neg (by omega), e3.m (by decide), upm_same]
          have v3 : upm τ6 118 (1365 + 9 * S + 3) n2 118 (1365 + 9 * S + 3) = n2 := upm_same
          have v55 : upm τ6 118 (1365 + 9 * S + 3) n2 118 (1365 + 9 * S + 5) = 0 := by
            rw [upm_app, if_neg (by omega), e3.m (by decide), upm_app, if_neg (by omega), c3.m (by decide)]; exact a10
          have q0 : upm τ6 118 (1365 + 9 * S + 3) n2 118 0 = τ 118 0 := g6 118 0 (by unfold RM; omega)
          rw [v0, v1, v2, v3, v55, q0]
          rw [w32_in (by omega) (by omega)] at c8
          exact ⟨rfl, ⟨addX_v.2.1, by omega, a8⟩, .inl ⟨addX_v.1, rfl, ⟨addX_v.2.2.1, c7, by omega⟩, addX_v.2.2.2.1, e7, e8⟩⟩
        · rw [e1, e2, obs, obs]
          dsimp only
          rw [if_pos rfl, stS3 hS, obs, m_b80n (by decide)]
          exact RO.bad e4.c (f5.trans e3.fx) (fS (g5.trans (M0r e3.fm)) (by omega)) rfl rfl
      · have g5 : Fp (RM S) τ (upm τ5 118 (1365 + 9 * S + 2) 0) := fS (a5.trans (M0r c3.fm)) (by omega)
        have d5 := hd.rp (a4.trans c3.fx) g5
        rw [c1, c2, obs, obs]
        dsimp only
        rw [if_pos rfl, stS2 hS, obs, gM, obs, d5.2.1.at 113 20 118 rfl, mb_count (c4.c (j := 1365 + 9 * S + 2) (v := 0)).2.2, obs]
        dsimp only
        rw [stS3 hS, obs, m_b80n (by decide)]
        exact RO.bad c4.c.c (a4.trans c3.fx) (fS g5 (by omega)) rfl rfl
    · rw [a1, a2]
      exact RO.bad a3 a4 a5 rfl rfl
  · rw [if_neg k18]
    by_cases k3 : isK (σ 3) 3 = true
    · have et : tsW (σ 3) = 2 := by unfold tsW; rw [if_neg k18, isK_no (j := 19) k3 (by decide), if_neg (by decide), if_pos k3]
      rw [if_pos k3, et, if_neg (by decide)]
      rcases j_testHead (wv := 2) h hd hS hs k3 with ⟨r, σ4, τ4, a1, a2, a3, a4, a5, a6, a7, a8, a9, a10, a11⟩ | ⟨σ4, τ4, a1, a2, a3, a4, a5⟩
      · have d4 := hd.rp a4 a5
        rw [a1, if_pos rfl, a2, if_neg (by decide)]
        have e80 : f_X12_readTest_b80 113 ((1365 + 9 * S : Nat) : Int) 2 τ4 = f_X12_readTest_b117 113 ((1365 + 9 * S : Nat) : Int) (if τ4 113 14 = 3 then τ4 113 17 else 0) (w32 (((1365 + 9 * S : Nat) : Int) + 7)) 118 τ4 := by
          unfold f_X12_readTest_b80
          rw [gM, obs, if_neg (by rw [a3.2.2]; decide), if_pos rfl, gM, obs, gM, obs, gM, obs, d4.2.1.at 113 20 118 rfl]
          split <;> rfl
        rw [e80, m_cmp hS a3.2.1.kk]
        unfold f_X6_readTest_b94 f_X12_readTest_b151
        rw [if_neg (by decide), gTr, obs, d4.1.at 30 0 3 rfl]
        rcases j_cmp (a3.c (j := 1365 + 9 * S + 7) (v := if τ4 113 14 = 3 then τ4 113 17 else 0)) with ⟨c0, σ5, τ5, c1, c2, c4, cx, cm, c5, c6, c7, c8, c9, c10⟩ | ⟨c0, σ5, τ5, c1, c2, c4, cx, cm⟩
        · rw [upm_o (by decide)] at c6 c7 c8 c9
          have f5 := a4.trans cx
          have g5 : Fp (RM S) τ τ5 := (fS a5 (by omega)).trans (M0r cm)
          have d5 := hd.rp f5 g5
          rw [c1, obs, c0, if_pos rfl, c2, obs, gM, obs, d5.2.1.at 113 20 118 rfl]
          dsimp only
          rw [if_neg (by decide)]
          unfold f_X6_readTest_b110 f_X6_readTest_b136
          rw [gTr, obs, d5.1.at 30 0 3 rfl, gTx, obs, if_pos rfl, if_neg (by decide), obs, c6]
          rcases j_num (lo := 0) (hi := 9) c4 with ⟨n2, σ6, τ6, e1, e2, e3, e4, e5, e6, e7, e8⟩ | ⟨σ6, τ6, e1, e2, e3, e4⟩
          · have f6 := f5.trans e3.fx
            have g6 : Fp (RM S) τ (upm τ6 118 (1365 + 9 * S + 6) n2) := fS (g5.trans (M0r e3.fm)) (by omega)
            have d6 := hd.rp f6 g6
            have v5 : σ6 30 5 = σ5 30 5 := by rw [e3.x (by decide)]
            have v6 : σ5 30 5 = r := by rw [c10, a7]
            rw [e1, e2, obs, obs]
            dsimp only
            rw [if_neg (by decide), stS6 hS, obs]
            unfold f_X6_readTest_b155
            simp only [gTr, obs, d6.1.at 30 0 3 rfl, d6.1.at 30 2 31 rfl, gTx, e6, v5, v6]
            refine RO.add (op := 3) (a := r) (b := τ4 113 17) (c := n2) e4.c hd f6 g6 h2 hk h1 hS (by decide) (by omega) (.inr ?_) rfl rfl
            simp only [Bt_s, Bt_s0, Bt_0]
            have w_ : ∀ i, upm τ4 118 (1365 + 9 * S + 7) (if τ4 113 14 = 3 then τ4 113 17 else 0) 118 i = τ5 118 i := fun i => (cm 118 i (by unfold M0; omega)).symm
            have v0 : upm τ6 118 (1365 + 9 * S + 6) n2 118 (1365 + 9 * S) = 7 := by
              rw [upm_app, if_neg (by omega), e3.m (by decide), ← w_, upm_app, if_neg (by omega)]; exact a9
            have v1 : upm τ6 118 (1365 + 9 * S + 6) n2 118 (1365 + 9 * S + 1) = r := by
              rw [upm_app, if_neg (by omega), e3.m (by decide), ← w_, upm_app, if_neg (by omega)]; exact a11
            have v55 : upm τ6 118 (1365 + 9 * S + 6) n2 118 (1365 + 9 * S + 5) = 2 := by
              rw [upm_app, if_neg (by omega), e3.m (by decide), ← w_, upm_app, if_neg (by omega)]; exact a10
            have v66 : upm τ6 118 (1365 + 9 * S + 6) n2 118 (1365 + 9 * S + 6) = n2 := upm_same
            have v77 : upm τ6 118 (1365 + 9 * S + 6) n2 118 (1365 + 9 * S + 7) = τ4 113 17 := by
              rw [upm_app, if_neg (by omega), e3.m (by decide), ← w_, upm_same, if_pos c7]
            have q0 : upm τ6 118 (1365 + 9 * S + 6) n2 118 0 = τ 118 0 := g6 118 0 (by unfold RM; omega)
            rw [v0, v1, v55, v66, v77, q0]
            exact ⟨rfl, ⟨addX_v.2.1, by omega, a8⟩, .inr (.inr ⟨addX_v.1, rfl, ⟨addX_v.2.2.1, c8, c9⟩, addX_v.2.2.2.1, e7, e8⟩)⟩
          · rw [e1, e2, obs, obs]
            dsimp only
            rw [if_pos rfl, stS6 hS, obs]
            exact RO.bad e4.c (f5.trans e3.fx) (fS (g5.trans (M0r e3.fm)) (by omega)) rfl rfl
        · have g5 : Fp (RM S) τ τ5 := (fS a5 (by omega)).trans (M0r cm)
          have d5 := hd.rp (a4.trans cx) g5
          rw [show (if cmpB (σ4 3) = true then (1 : Int) else 0) = 0 by rw [c0]; rfl, c1, obs, c2, obs, gM, obs, d5.2.1.at 113 20 118 rfl, mb_count c4.2.2, obs]
          dsimp only
          rw [if_pos rfl, stS6 hS, obs]
          exact RO.bad c4.c (a4.trans cx) (fS g5 (by omega)) rfl rfl
      · rw [a1, a2]
        exact RO.bad a3 a4 a5 rfl rfl
    · rw [if_neg k3]
      by_cases k19 : isK (σ 3) 19 = true
      · have et : tsW (σ 3) = 1 := by unfold tsW; rw [if_neg k18, if_pos k19]
        rw [if_pos k19, et, if_neg (by decide)]
        rcases j_testHead (wv := 1) h hd hS hs k19 with ⟨r, σ4, τ4, a1, a2, a3, a4, a5, a6, a7, a8, a9, a10, a11⟩ | ⟨σ4, τ4, a1, a2, a3, a4, a5⟩
        · have d4 := hd.rp a4 a5
          have q0 : τ4 118 0 = τ 118 0 := a5 118 0 (by unfold RM; omega)
          rw [a1, if_pos rfl, a2, if_neg (by decide), m_b80n (by decide)]
          unfold f_X6_readTest_b94 f_X6_readTest_b110 f_X6_readTest_b136 f_X6_readTest_b155
          simp only [gTr, obs, d4.1.at 30 0 3 rfl, d4.1.at 30 2 31 rfl, gTx, a7, ↓reduceIte]
          refine RO.add (op := 19) (a := r) (b := σ4 3 9) (c := σ4 3 9) a3 hd a4 a5 h2 hk h1 hS (by decide) a6 (.inr ?_) rfl rfl
          simp only [Bt_s, Bt_s0, Bt_0]
          rw [a9, a10, a11, q0]
          exact ⟨rfl, ⟨addX_v.2.1, by omega, a8⟩, .inr (.inl ⟨addX_v.1, rfl⟩)⟩
        · rw [a1, a2]
          exact RO.bad a3 a4 a5 rfl rfl
      · have et : tsW (σ 3) = -1 := by unfold tsW; rw [if_neg k18, if_neg k19, if_neg k3]
        obtain ⟨σ3, τ3, b1, b2, b3, b4⟩ := j_amiss h
        rw [if_neg k19, et, if_pos (by decide)]
        unfold f_X12_readTest_b15
        rw [m_must0 h.2.2, b2, obs, gM, obs, (hd.rp b3.fx (M0r (S := S) b3.fm)).2.1.at 113 20 118 rfl, stS5 hS, obs, gM, obs, if_neg (by have := (b4.c (j := 1365 + 9 * S + 5) (v := -1)).2.2; omega), b1, obs]
        exact RO.bad b4.c b3.fx (fS (M0r b3.fm) (by omega)) rfl rfl
end
