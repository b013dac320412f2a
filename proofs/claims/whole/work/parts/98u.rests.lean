/-! ===== terms read: the rests of STEPS ===== -/
section
variable {σ σ' σ1 τ τ' τ1 : Mem} {t : Nat → Int} {N k S w : Nat}
theorem stS1 {v : Int} (hS : S < 30) : st_ Sh τ 20 118 (w32 (((1365 + 9 * S : Nat) : Int) + 1)) v = some (upm τ 118 (1365 + 9 * S + 1) v) := stS (i := 1) (n := 1) hS (by omega) rfl
theorem stS2 {v : Int} (hS : S < 30) : st_ Sh τ 20 118 (w32 (((1365 + 9 * S : Nat) : Int) + 2)) v = some (upm τ 118 (1365 + 9 * S + 2) v) := stS (i := 2) (n := 2) hS (by omega) rfl
theorem stS3 {v : Int} (hS : S < 30) : st_ Sh τ 20 118 (w32 (((1365 + 9 * S : Nat) : Int) + 3)) v = some (upm τ 118 (1365 + 9 * S + 3) v) := stS (i := 3) (n := 3) hS (by omega) rfl
theorem stS5 {v : Int} (hS : S < 30) : st_ Sh τ 20 118 (w32 (((1365 + 9 * S : Nat) : Int) + 5)) v = some (upm τ 118 (1365 + 9 * S + 5) v) := stS (i := 5) (n := 5) hS (by omega) rfl
theorem stS6 {v : Int} (hS : S < 30) : st_ Sh τ 20 118 (w32 (((1365 + 9 * S : Nat) : Int) + 6)) v = some (upm τ 118 (1365 + 9 * S + 6) v) := stS (i := 6) (n := 6) hS (by omega) rfl
theorem stS7 {v : Int} (hS : S < 30) : st_ Sh τ 20 118 (w32 (((1365 + 9 * S : Nat) : Int) + 7)) v = some (upm τ 118 (1365 + 9 * S + 7) v) := stS (i := 7) (n := 7) hS (by omega) rfl
theorem stS8 {v : Int} (hS : S < 30) : st_ Sh τ 20 118 (w32 (((1365 + 9 * S : Nat) : Int) + 8)) v = some (upm τ 118 (1365 + 9 * S + 8) v) := stS (i := 8) (n := 8) hS (by omega) rfl
/-- a stone that must be told -/
theorem j_told (h : Co σ τ t N) (hd : Du σ τ) : (∃ r : Nat, ∃ σ' τ', f_X6_takeStone 30 σ = some (1, σ') ∧ f_X12_readTold 113 0 0 τ = some ((r : Int), τ') ∧ Co σ' τ' t N ∧ Fp X0 σ σ' ∧ Fp M0 τ τ' ∧ σ 3 5 ≤ σ' 3 5 ∧ σ' 30 5 = r ∧ (r : Int) < τ 118 0) ∨ (∃ σ' τ', f_X6_takeStone 30 σ = some (0, σ') ∧ f_X12_readTold 113 0 0 τ = some (0, τ') ∧ Bd σ' τ' ∧ Fp X0 σ σ' ∧ Fp M0 τ τ') := by
  have tk := h.2.1.kk
  have ex : f_X6_takeStone 30 σ = if nmd (σ 3) = true then (f_X9_stoneNamed 5 (σ 3 6) σ).bind fun r => if r = -1 then (f_X7_refuse (upm σ 30 5 r 30 0) 3 (upm σ 30 5 r)).bind fun r5 => (bz r5.1).bind fun _ => some (r5.1, r5.2) else (f_X7_step (upm σ 30 5 r 30 0) (upm σ 30 5 r)).bind fun r20 => some (1, r20) else (f_X7_refuse 3 2 σ).bind fun r5 => (bz r5.1).bind fun _ => some (r5.1, r5.2) := by
    unfold f_X6_takeStone f_X6_takeStone_b0
    simp only [oTr, if_true, gTr, pTr, obs, hd.1.at 30 0 3 rfl, hd.1.at 30 1 5 rfl, gTx, upm_same]
    rw [x_isName, obs, ifb]
  by_cases z : nmd (σ 3) = true
  · obtain ⟨r1, s1, s2, s3⟩ := j_stoneNamed (a := 5) (b := 0) (.inl rfl) hd.1 hd.2.1 (by omega) hd.2.2.1 hd.2.2.2 tk z
    obtain ⟨nm, pos, w2⟩ := tk.nm z
    have R2 : Ref (upm σ 30 5 r1) := hd.1.up rfl
    have em := m_told (V := σ 3) h.2.2 tk (show f_X12_named 113 0 0 τ = some r1 from s2) (by rcases s3 with q | ⟨p, q, _⟩ <;> omega)
    rw [if_pos z] at em ex
    rw [show f_X9_stoneNamed 5 (σ 3 6) σ = some r1 from s1, obs, R2.at 30 0 3 rfl] at ex
    have c2 : Co (upm σ 30 5 r1) τ t N := h.cell (upm_ne (by decide)) (upm_ne (by decide)) (upm_ne (by decide)) rfl rfl
    have fx0 : Fp X0 σ (upm σ 30 5 r1) := Fp.up (by unfold X0; omega)
    by_cases y : r1 = -1
    · obtain ⟨σ3, τ3, b1, b2, b3, b4⟩ := j_fail (c := 3) c2 (by decide) (by rw [upm_o (by decide), w2]; decide)
      refine .inr ⟨σ3, τ3, by rw [ex, if_pos y, b1, obs]; rfl, by rw [em, if_neg (by omega), b2, obs], b4, fx0.trans b3.fx, b3.fm⟩
    · obtain ⟨σ3, τ3, a1, a2, a3, a4, a5, a6, _⟩ := j_go c2
      rcases s3 with q | ⟨p, rfl, p1, _⟩
      · exact absurd q y
      · have np := hd.2.2.2.nP_le
        refine .inl ⟨p, σ3, τ3, by rw [ex, if_neg y, a1, obs], by rw [em, if_pos (by omega), a2, obs], a4, fx0.trans a3.fx, a3.fm, ?_, ?_, ?_⟩
        · rw [upm_o (by decide)] at a5; exact a5
        · rw [a3.x (by decide), upm_same]
        · have : blk τ 0 0 = τ 118 0 := rfl
          omega
  · obtain ⟨σ3, τ3, b1, b2, b3, b4⟩ := j_amiss h
    rw [if_neg z] at ex
    refine .inr ⟨σ3, τ3, by rw [ex, b1, obs]; rfl, ?_, b4, b3.fx, b3.fm⟩
    unfold f_X12_readTold f_X12_readTold_b0
    simp only [oM, if_true, gM, obs]
    rw [if_pos h.2.2, m_isName tk, obs, ifb, if_neg z, b2, obs, mb_told18 b4.2.2]
theorem m_place (hR : Ref τ) : f_X12_readPlace 113 τ = f_X12_count 113 0 (w32 (τ 118 0 - 1)) τ := by
  unfold f_X12_readPlace f_X12_readPlace_b0
  rw [if_pos oM, gM, obs, hR.at 113 20 118 rfl, alC (by omega) (by omega), obs]
  exact o_eta _
/-- a count: years, rounds -/
theorem j_count {op hi s : Int} (h : Co σ τ t N) (hd : Du σ τ) (h2 : σ 31 2 = k) (hk : k < 60) (h1 : σ 31 1 = S) (hS : S < 30) (hop : ¬ op = 21) (hs : τ 118 (1365 + 9 * S) = s) : RO t N σ τ k S (fun σ' τ' => σ' 32 k = op ∧ τ' 118 (1365 + 9 * S) = s ∧ σ' 33 k = τ' 118 (1365 + 9 * S + 1) ∧ 1 ≤ τ' 118 (1365 + 9 * S + 1) ∧ τ' 118 (1365 + 9 * S + 1) ≤ hi) (f_X6_readCount 30 op hi σ) ((f_X12_count 113 1 hi τ).bind fun r4 => (st_ Sh r4.2 20 118 (w32 (((1365 + 9 * S : Nat) : Int) + 1)) r4.1).bind fun σ6 => some σ6) := by
  unfold f_X6_readCount f_X6_readCount_b0
  rw [if_pos oTr, gTr, obs, hd.1.at 30 0 3 rfl]
  rcases j_num (lo := 1) (hi := hi) h with ⟨n, σ2, τ2, b1, b2, b3, b4, b5, b6, b7, b8⟩ | ⟨σ2, τ2, b1, b2, b3, b4⟩
  · have R2 : Ref σ2 := b3.fw.1.ref (by decide) hd.1
    rw [b1, b2, obs, obs]
    dsimp only
    rw [if_neg (by decide), stS1 hS, obs]
    simp only [gTr, obs, R2.at 30 0 3 rfl, R2.at 30 2 31 rfl, gTx, b6]
    refine RO.add (op := op) (a := n) (b := 0) (c := 0) b4.c hd b3.fx (fS (M0r b3.fm) (by omega)) h2 hk h1 hS hop (by omega) ⟨addX_v.1, ?_, ?_, ?_, ?_⟩ rfl rfl
    · rw [upm_app, if_neg (by omega), b3.m (by decide)]; exact hs
    · rw [upm_same]; exact addX_v.2.1
    · rw [upm_same]; exact b7
    · rw [upm_same]; exact b8
  · rw [b1, b2, obs, obs]
    dsimp only
    rw [if_pos rfl, stS1 hS, obs]
    exact RO.bad b4.c b3.fx (fS (M0r b3.fm) (by omega)) rfl rfl
/-- try -/
theorem j_try (h : Co σ τ t N) (hd : Du σ τ) (h2 : σ 31 2 = k) (hk : k < 60) (h1 : σ 31 1 = S) (hS : S < 30) (hs : τ 118 (1365 + 9 * S) = 1) : RO t N σ τ k S (fun σ' τ' => Sm σ' 31 k (Bt τ') S) (f_X6_readTry 30 σ) ((f_X12_count 113 0 99 τ).bind fun r8 => (st_ Sh r8.2 20 118 (w32 (((1365 + 9 * S : Nat) : Int) + 1)) r8.1).bind fun σ10 => (gf Sh σ10 12 113 20).bind fun x11 => (f_X12_readPlace 113 σ10).bind fun r12 => (st_ Sh r12.2 20 x11 (w32 (((1365 + 9 * S : Nat) : Int) + 2)) r12.1).bind fun σ14 => (gf Sh σ14 12 113 20).bind fun x15 => (f_X12_count 113 0 1 σ14).bind fun r16 => (st_ Sh r16.2 20 x15 (w32 (((1365 + 9 * S : Nat) : Int) + 3)) r16.1).bind fun σ18 => some σ18) := by
  unfold f_X6_readTry f_X6_readTry_b0
  rw [if_pos oTr, gTr, obs, hd.1.at 30 0 3 rfl]
  have mb : ∀ ρ : Mem, Ref ρ → 0 < ρ 113 12 → f_X12_readPlace 113 ρ = some (0, ρ) := fun ρ hR hb => by rw [m_place hR, mb_count hb]
  rcases j_num (lo := 0) (hi := 99) h with ⟨n, σ2, τ2, b1, b2, b3, b4, b5, b6, b7, b8⟩ | ⟨σ2, τ2, b1, b2, b3, b4⟩
  · have g2 : Fp (RM S) τ (upm τ2 118 (1365 + 9 * S + 1) n) := fS (M0r b3.fm) (by omega)
    have d2 : Du σ2 (upm τ2 118 (1365 + 9 * S + 1) n) := hd.rp b3.fx g2
    have p2 := d2.p0
    have p0 : upm τ2 118 (1365 + 9 * S + 1) n 118 0 = τ 118 0 := g2 118 0 (by unfold RM; omega)
    rw [b1, b2, obs, obs]
    dsimp only
    rw [if_neg (by decide), stS1 hS, obs, gM, obs, d2.2.1.at 113 20 118 rfl, m_place d2.2.1]
    simp only [gTr, obs, d2.1.at 30 0 3 rfl, d2.1.at 30 1 5 rfl, gTx, b6, show gf Sh σ2 9 5 0 = some (σ2 5 0) from gW (.inl rfl), p2.1]
    rcases j_num (lo := 0) (hi := w32 (upm τ2 118 (1365 + 9 * S + 1) n 118 0 - 1)) b4.c with ⟨n2, σ3, τ3, c1, c2, c3, c4, c5, c6, c7, c8⟩ | ⟨σ3, τ3, c1, c2, c3, c4⟩
    · have f3 := b3.fx.trans c3.fx
      have g3 : Fp (RM S) τ (upm τ3 118 (1365 + 9 * S + 2) n2) := fS (g2.trans (M0r c3.fm)) (by omega)
      have d3 : Du σ3 (upm τ3 118 (1365 + 9 * S + 2) n2) := hd.rp f3 g3
      rw [c1, c2, obs, obs]
      dsimp only
      rw [if_neg (by decide), stS2 hS, obs, gM, obs, d3.2.1.at 113 20 118 rfl]
      simp only [gTr, obs, d3.1.at 30 0 3 rfl, gTx, c6]
      rcases j_num (lo := 0) (hi := 1) (c4.c (j := 1365 + 9 * S + 2) (v := n2)) with ⟨n3, σ4, τ4, e1, e2, e3, e4, e5, e6, e7, e8⟩ | ⟨σ4, τ4, e1, e2, e3, e4⟩
      · have f4 := f3.trans e3.fx
        have g4 : Fp (RM S) τ (upm τ4 118 (1365 + 9 * S + 3) n3) := fS (g3.trans (M0r e3.fm)) (by omega)
        have d4 : Du σ4 (upm τ4 118 (1365 + 9 * S + 3) n3) := hd.rp f4 g4
        rw [e1, e2, obs, obs]
        dsimp only
        rw [if_neg (by decide), stS3 hS, obs]
        simp only [gTr, obs, d4.1.at 30 0 3 rfl, d4.1.at 30 2 31 rfl, gTx, e6]
        have q0 : upm τ4 118 (1365 + 9 * S + 3) n3 118 0 = τ 118 0 := g4 118 0 (by unfold RM; omega)
        refine RO.add (op := 11) (a := n) (b := n2) (c := n3) e4.c hd f4 g4 h2 hk h1 hS (by decide) (by omega) (.inr (.inl ?_)) rfl rfl
        simp only [Bt_s, Bt_s0, Bt_0]
        have v0 : upm τ4 118 (1365 + 9 * S + 3) n3 118 (1365 + 9 * S) = 1 := by
          rw [upm_app, if_neg (by omega), e3.m (by decide), upm_app, if_neg (by omega), c3.m (by decide), upm_app, if_neg (by omega), b3.m (by decide)]; exact hs
        have v1 : upm τ4 118 (1365 + 9 * S + 3) n3 118 (1365 + 9 * S + 1) = n := by
          rw [upm_app, if_neg (by omega), e3.m (by decide), upm_app, if_neg (by omega), c3.m (by decide), upm_same]
        have v2 : upm τ4 118 (1365 + 9 * S + 3) n3 118 (1365 + 9 * S + 2) = n2 := by
          rw [upm_app, if_neg (by omega), e3.m (by decide), upm_same]
        have v3 : upm τ4 118 (1365 + 9 * S + 3) n3 118 (1365 + 9 * S + 3) = n3 := upm_same
        rw [v0, v1, v2, v3, q0]
        rw [p0, w32_in (by omega) (by omega)] at c8
        exact ⟨addX_v.1, rfl, ⟨addX_v.2.1, b7, b8⟩, ⟨addX_v.2.2.1, c7, by omega⟩, addX_v.2.2.2.1, e7, e8⟩
      · rw [e1, e2, obs, obs]
        dsimp only
        rw [if_pos rfl, stS3 hS, obs]
        exact RO.bad e4.c (f3.trans e3.fx) (fS (g3.trans (M0r e3.fm)) (by omega)) rfl rfl
    · have g3 : Fp (RM S) τ (upm τ3 118 (1365 + 9 * S + 2) 0) := fS (g2.trans (M0r c3.fm)) (by omega)
      have d3 := hd.rp (b3.fx.trans c3.fx) g3
      rw [c1, c2, obs, obs]
      dsimp only
      rw [if_pos rfl, stS2 hS, obs, gM, obs, d3.2.1.at 113 20 118 rfl, mb_count (c4.c (j := 1365 + 9 * S + 2) (v := 0)).2.2, obs]
      dsimp only
      rw [stS3 hS, obs]
      exact RO.bad c4.c.c (b3.fx.trans c3.fx) (fS g3 (by omega)) rfl rfl
  · have g2 : Fp (RM S) τ (upm τ2 118 (1365 + 9 * S + 1) 0) := fS (M0r b3.fm) (by omega)
    have d2 := hd.rp b3.fx g2
    have g3 : Fp (RM S) τ (upm (upm τ2 118 (1365 + 9 * S + 1) 0) 118 (1365 + 9 * S + 2) 0) := fS g2 (by omega)
    have d3 := hd.rp b3.fx g3
    rw [b1, b2, obs, obs]
    dsimp only
    rw [if_pos rfl, stS1 hS, obs, gM, obs, d2.2.1.at 113 20 118 rfl, mb _ d2.2.1 (b4.c (j := 1365 + 9 * S + 1) (v := 0)).2.2, obs]
    dsimp only
    rw [stS2 hS, obs, gM, obs, d3.2.1.at 113 20 118 rfl, mb_count (b4.c.c (j := 1365 + 9 * S + 2) (v := 0)).2.2, obs]
    dsimp only
    rw [stS3 hS, obs]
    exact RO.bad b4.c.c.c b3.fx (fS g3 (by omega)) rfl rfl
/-- kind, harsh, clear -/
theorem j_named {op s : Int} (h : Co σ τ t N) (hd : Du σ τ) (h2 : σ 31 2 = k) (hk : k < 60) (h1 : σ 31 1 = S) (hS : S < 30) (hop : op = 10 + s) (hs : τ 118 (1365 + 9 * S) = s) (hs2 : 2 ≤ s ∧ s ≤ 4) : RO t N σ τ k S (fun σ' τ' => Sm σ' 31 k (Bt τ') S) (f_X6_readStone 30 op σ) ((f_X12_readTold 113 0 0 τ).bind fun r4 => (st_ Sh r4.2 20 118 (w32 (((1365 + 9 * S : Nat) : Int) + 1)) r4.1).bind fun σ6 => some σ6) := by
  unfold f_X6_readStone f_X6_readStone_b0
  rw [if_pos oTr]
  rcases j_told h hd with ⟨r, σ2, τ2, b1, b2, b4, bx, bm, b5, b6, b7⟩ | ⟨σ2, τ2, b1, b2, b4, bx, bm⟩
  · have g2 : Fp (RM S) τ (upm τ2 118 (1365 + 9 * S + 1) r) := fS (M0r bm) (by omega)
    have d2 := hd.rp bx g2
    rw [b1, b2, obs, obs]
    dsimp only
    rw [if_neg (by decide), stS1 hS, obs]
    simp only [gTr, obs, d2.1.at 30 2 31 rfl, b6]
    refine RO.add (op := op) (a := r) (b := 0) (c := 0) b4.c hd bx g2 h2 hk h1 hS (by omega) b5 (.inr (.inr (.inl ?_))) rfl rfl
    simp only [Bt_s, Bt_s0, Bt_0]
    have v0 : upm τ2 118 (1365 + 9 * S + 1) r 118 (1365 + 9 * S) = s := by
      rw [upm_app, if_neg (by omega), bm 118 _ (by unfold M0; omega)]; exact hs
    have q0 : upm τ2 118 (1365 + 9 * S + 1) r 118 0 = τ 118 0 := g2 118 0 (by unfold RM; omega)
    rw [v0, upm_same, q0, ← hop]
    exact ⟨hs2, addX_v.1, addX_v.2.1, by omega, b7⟩
  · rw [b1, b2, obs, obs]
    dsimp only
    rw [if_pos rfl, stS1 hS, obs]
    exact RO.bad b4.c bx (fS (M0r bm) (by omega)) rfl rfl
/-- any, stop -/
theorem j_none {op s : Int} (h : Co σ τ t N) (hd : Du σ τ) (h2 : σ 31 2 = k) (hk : k < 60) (h1 : σ 31 1 = S) (hS : S < 30) (hs : τ 118 (1365 + 9 * S) = s) (ho : (op = 16 ∧ s = 6) ∨ (op = 22 ∧ s = 9)) : RO t N σ τ k S (fun σ' τ' => Sm σ' 31 k (Bt τ') S) ((f_X5_add 31 op 0 0 0 σ).bind fun r => some (1, r)) (some τ) := by
  refine RO.add (op := op) (a := 0) (b := 0) (c := 0) h hd Fp.refl Fp.refl h2 hk h1 hS (by omega) (Int.le_refl _) ?_ rfl rfl
  unfold Sm
  rw [Bt_s0, hs, addX_v.1]
  rcases ho with ⟨rfl, rfl⟩ | ⟨rfl, rfl⟩
  · exact .inr (.inr (.inr (.inr (.inl ⟨rfl, rfl⟩))))
  · exact .inr (.inr (.inr (.inr (.inr ⟨rfl, rfl⟩))))
/-- fly -/
theorem j_fly (h : Co σ τ t N) (hd : Du σ τ) (h2 : σ 31 2 = k) (hk : k < 60) (h1 : σ 31 1 = S) (hS : S < 30) (hs : τ 118 (1365 + 9 * S) = 5) : RO t N σ τ k S (fun σ' τ' => Sm σ' 31 k (Bt τ') S) (f_X6_readFly 30 σ) ((f_X12_readTold 113 0 1 τ).bind fun r26 => (st_ Sh r26.2 20 118 (w32 (((1365 + 9 * S : Nat) : Int) + 1)) r26.1).bind fun σ28 => (gf Sh σ28 12 113 20).bind fun x29 => (f_X12_readTold 113 0 0 σ28).bind fun r30 => (st_ Sh r30.2 20 x29 (w32 (((1365 + 9 * S : Nat) : Int) + 2)) r30.1).bind fun σ32 => some σ32) := by
  have tk := h.2.1.kk
  have ex : f_X6_readFly 30 σ = if nmd (σ 3) = true then (f_X9_crowNamed 5 (σ 3 6) σ).bind fun r11 => if r11 = -1 then (f_X7_refuse 3 3 σ).bind fun r5 => (bz r5.1).bind fun _ => some (r5.1, r5.2) else (f_X7_step 3 σ).bind fun r18 => (f_X6_takeStone 30 r18).bind fun r20 => if r20.1 = 0 then some (0, r20.2) else (f_X5_add (r20.2 30 2) 15 r11 (r20.2 30 5) 0 r20.2).bind fun r24 => some (1, r24) else (f_X7_refuse 3 2 σ).bind fun r5 => (bz r5.1).bind fun _ => some (r5.1, r5.2) := by
    unfold f_X6_readFly f_X6_readFly_b0
    simp only [oTr, if_true, gTr, obs, hd.1.at 30 0 3 rfl, hd.1.at 30 1 5 rfl, gTx]
    rw [x_isName, obs, ifb]
  have bad : ∀ σ3 τ3 : Mem, Bd σ3 τ3 → Fp X0 σ σ3 → Fp M0 τ τ3 → f_X6_readFly 30 σ = some (0, σ3) → f_X12_readTold 113 0 1 τ = some (0, τ3) → RO t N σ τ k S (fun σ' τ' => Sm σ' 31 k (Bt τ') S) (f_X6_readFly 30 σ) ((f_X12_readTold 113 0 1 τ).bind fun r26 => (st_ Sh r26.2 20 118 (w32 (((1365 + 9 * S : Nat) : Int) + 1)) r26.1).bind fun σ28 => (gf Sh σ28 12 113 20).bind fun x29 => (f_X12_readTold 113 0 0 σ28).bind fun r30 => (st_ Sh r30.2 20 x29 (w32 (((1365 + 9 * S : Nat) : Int) + 2)) r30.1).bind fun σ32 => some σ32) := by
    intro σ3 τ3 hb f g e1 e2
    have g2 : Fp (RM S) τ (upm τ3 118 (1365 + 9 * S + 1) 0) := fS (M0r g) (by omega)
    have d2 := hd.rp f g2
    rw [e1, e2, obs]
    dsimp only
    rw [stS1 hS, obs, gM, obs, d2.2.1.at 113 20 118 rfl, mb_told (hb.c (j := 1365 + 9 * S + 1) (v := 0)).2.2, obs]
    dsimp only
    rw [stS2 hS, obs]
    exact RO.bad hb.c.c f (fS g2 (by omega)) rfl rfl
  by_cases z : nmd (σ 3) = true
  · obtain ⟨r1, s1, s2, s3⟩ := j_crowNamed (a := 5) (b := 0) (.inl rfl) hd.1 hd.2.1 (by omega) hd.2.2.1 hd.2.2.2 tk z
    obtain ⟨nm, pos, w2⟩ := tk.nm z
    have em := m_told (V := σ 3) h.2.2 tk (show f_X12_named 113 0 1 τ = some r1 from s2) (by rcases s3 with q | ⟨p, q, _⟩ <;> omega)
    rw [if_pos z] at em ex
    rw [show f_X9_crowNamed 5 (σ 3 6) σ = some r1 from s1, obs] at ex
    by_cases y : r1 = -1
    · obtain ⟨σ3, τ3, b1, b2, b3, b4⟩ := j_fail (c := 3) h (by decide) (by rw [w2]; decide)
      exact bad σ3 τ3 b4 b3.fx b3.fm (by rw [ex, if_pos y, b1, obs]; rfl) (by rw [em, if_neg (by omega), b2, obs])
    · obtain ⟨σ3, τ3, a1, a2, a3, a4, a5, a6, _⟩ := j_go h
      rcases s3 with q | ⟨p, rfl, p1⟩
      · exact absurd q y
      · have np := hd.2.2.2.nK_le
        have g3 : Fp (RM S) τ (upm τ3 118 (1365 + 9 * S + 1) p) := fS (M0r a3.fm) (by omega)
        have d3 := hd.rp a3.fx g3
        rw [ex, if_neg y, a1, obs, em, if_pos (by omega), a2, obs, obs]
        dsimp only
        rw [stS1 hS, obs, gM, obs, d3.2.1.at 113 20 118 rfl]
        rcases j_told (a4.c (j := 1365 + 9 * S + 1) (v := p)) d3 with ⟨r, σ4, τ4, b1, b2, b4, bx, bm, b5, b6, b7⟩ | ⟨σ4, τ4, b1, b2, b4, bx, bm⟩
        · have f4 := a3.fx.trans bx
          have g4 : Fp (RM S) τ (upm τ4 118 (1365 + 9 * S + 2) r) := fS (g3.trans (M0r bm)) (by omega)
          have d4 := hd.rp f4 g4
          rw [b1, b2, obs, obs]
          dsimp only
          rw [if_neg (by decide), stS2 hS, obs, d4.1.at 30 2 31 rfl, b6]
          refine RO.add (op := 15) (a := p) (b := r) (c := 0) b4.c hd f4 g4 h2 hk h1 hS (by decide) (by omega) (.inr (.inr (.inr (.inl ?_)))) rfl rfl
          simp only [Bt_s, Bt_s0, Bt_0, Bt_1]
          have v0 : upm τ4 118 (1365 + 9 * S + 2) r 118 (1365 + 9 * S) = 5 := by
            rw [upm_app, if_neg (by omega), bm 118 _ (by unfold M0; omega), upm_app, if_neg (by omega), a3.m (by decide)]; exact hs
          have v1 : upm τ4 118 (1365 + 9 * S + 2) r 118 (1365 + 9 * S + 1) = p := by
            rw [upm_app, if_neg (by omega), bm 118 _ (by unfold M0; omega), upm_same]
          have q0 : upm τ4 118 (1365 + 9 * S + 2) r 118 0 = τ 118 0 := g4 118 0 (by unfold RM; omega)
          have q1 : upm τ4 118 (1365 + 9 * S + 2) r 118 1 = τ 118 1 := g4 118 1 (by unfold RM; omega)
          have q3 : upm τ3 118 (1365 + 9 * S + 1) p 118 0 = τ 118 0 := g3 118 0 (by unfold RM; omega)
          rw [v0, v1, upm_same, q0, q1]
          rw [q3] at b7
          have e1 : blk τ 0 1 = τ 118 1 := rfl
          exact ⟨addX_v.1, rfl, ⟨addX_v.2.1, by omega, by omega⟩, addX_v.2.2.1, by omega, b7⟩
        · rw [b1, b2, obs, obs]
          dsimp only
          rw [if_pos rfl, stS2 hS, obs]
          exact RO.bad b4.c (a3.fx.trans bx) (fS (g3.trans (M0r bm)) (by omega)) rfl rfl
  · obtain ⟨σ3, τ3, b1, b2, b3, b4⟩ := j_amiss h
    rw [if_neg z] at ex
    refine bad σ3 τ3 b4 b3.fx b3.fm (by rw [ex, b1, obs]; rfl) ?_
    unfold f_X12_readTold f_X12_readTold_b0
    simp only [oM, if_true, gM, obs]
    rw [if_pos h.2.2, m_isName tk, obs, ifb, if_neg z, b2, obs, mb_told18 b4.2.2]
end
