/-! ===== the calls cuts, cutOf, ended ===== -/
section
variable {σ τ : Mem} {B D N : Nat → Int}
theorem gid12x {b j : Nat} (h : b = 123 ∨ b = 124 ∨ b = 125) : gid b j = 20 := by
  have h1 : isRf b j = false := by rcases h with rfl | rfl | rfl <;> exact isRf_cell rfl
  unfold gid
  rcases h with rfl | rfl | rfl <;> simp [h1]
def fewM (B N : Nat → Int) (n : Nat) : Int := ff (fun c => (Sc (lfm B N n) (fun k => (aS B).testBit k) (nP B) 0 c 0 0).isSome) (sz (aS B) + 1) 0
theorem Sc_m {n c : Nat} (hB : BV B) (hh : hop B N n = false) : Sc (lfm B N n) (fun k => (aS B).testBit k) (nP B) 0 c 0 0 = Sc (lfb (aS B) (tqM B N n) (tqE B N n)) (fun k => (aS B).testBit k) 10 0 c 0 0 := by
  have hn := hB.nP_le
  have e1 : lfm B N n = lfb (aS B) (tqM B N n) (tqE B N n) := by
    funext K H
    rw [lfm_eq, hh]
    rfl
  rw [e1]
  have := @Sc_ext (lfb (aS B) (tqM B N n) (tqE B N n)) (fun k => (aS B).testBit k) (nP B) (10 - nP B) 0 c 0 0 (fun k hk => by rw [aS_bit]; simp; omega)
  rw [show nP B + (10 - nP B) = 10 by omega] at this
  exact this.symm
theorem fewM_eq {n : Nat} (hB : BV B) : fewM B N n = if hop B N n = true then -1 else few (aS B) (tqM B N n) (tqE B N n) := by
  cases hh : hop B N n
  · rw [if_neg (by decide)]
    exact ff_cg fun c _ _ => by rw [Sc_m hB hh]
  · rw [if_pos rfl]
    have e0 : ∀ K H, lfm B N n K H = false := fun K H => by rw [lfm_eq, hh]; rfl
    unfold fewM
    rcases ff_spec (fun c => (Sc (lfm B N n) (fun k => (aS B).testBit k) (nP B) 0 c 0 0).isSome) (sz (aS B) + 1) 0 with ⟨f1, f2⟩ | ⟨k, f1, f2, f3, f4, f5⟩
    · exact f1
    · rw [Sc_lf0 e0] at f4
      cases f4
theorem m_cut_h {n : Nat} (d : dM τ B N n) : ∃ τ', f_X12_cutting_h81 FU 113 n 0 τ = some (fewM B N n, τ') ∧ (∀ b j, ¬ b = 125 → τ' b j = τ b j) ∧ ∀ c K' H' : Nat, fewM B N n = c → Sc (lfm B N n) (fun k => (aS B).testBit k) (nP B) 0 c 0 0 = some (K', H') → ∀ k, k < nP B → τ' 125 k = wy K' H' k := by
  have hB := d.1.2.2.nP_le
  have sl := sz_le (aS B)
  have := up_all (Q := fun m c => ∀ τ1, (∀ b j, ¬ b = 125 → τ1 b j = τ b j) → ∃ τ', f_X12_cutting_h81 m 113 n c τ1 = some (ff (fun c => (Sc (lfm B N n) (fun k => (aS B).testBit k) (nP B) 0 c 0 0).isSome) (sz (aS B) + 1) c, τ') ∧ (∀ b j, ¬ b = 125 → τ' b j = τ b j) ∧ ∀ d K' H' : Nat, ff (fun c => (Sc (lfm B N n) (fun k => (aS B).testBit k) (nP B) 0 c 0 0).isSome) (sz (aS B) + 1) c = d → Sc (lfm B N n) (fun k => (aS B).testBit k) (nP B) 0 d 0 0 = some (K', H') → ∀ k, k < nP B → τ' 125 k = wy K' H' k) (sz (aS B) + 1) (fun m τ1 f1 => ?_) (fun m c hc ih τ1 f1 => ?_) (by unfold FU; omega)
  · exact this τ fun _ _ _ => rfl
  · have d1 := d.fp f1
    rw [hs_X12_cutting_h81]
    unfold f_X12_cutting_b81
    simp only [m_stones d1.1.1 d1.1.2.1 d1.1.2.2, obs, s_sizeOf (aS_lt d1.1.2.2)]
    rw [if_pos (by omega), ff_N]
    exact ⟨τ1, rfl, f1, fun x K' H' hx => by omega⟩
  · have d1 := d.fp f1
    obtain ⟨τ2, g1, g2⟩ := m_cutsFrom (B := B) (N := N) (n := n) (nP B) FR 0 c 0 0 τ1 (by omega) (show nP B < 40 by omega) d1 (fun k _ => ⟨Nat.zero_testBit k, Nat.zero_testBit k⟩) (by omega) (by omega) (by omega)
    have f2 : ∀ b j, ¬ b = 125 → τ2 b j = τ b j := fun b j hb => by rw [g1 b j (by omega), f1 b j hb]
    rw [hs_X12_cutting_h81]
    unfold f_X12_cutting_b81
    simp only [m_stones d1.1.1 d1.1.2.1 d1.1.2.2, obs, s_sizeOf (aS_lt d1.1.2.2)]
    rw [if_neg (by omega), ff_s hc]
    rcases g2 with ⟨K', H', g3, g4, g5⟩ | ⟨g3, g4⟩
    · rw [show f_X12_cutsFrom FR 113 0 (c : Int) n 0 0 τ1 = _ from g4, obs]
      dsimp only
      rw [if_neg (by decide), g3]
      simp only [Option.isSome_some, if_true]
      refine ⟨τ2, rfl, f2, fun x K2 H2 hx hs => ?_⟩
      have : x = c := by omega
      subst this
      rw [g3] at hs
      cases hs
      exact fun k hk => g5 k (by omega) hk
    · rw [show f_X12_cutsFrom FR 113 0 (c : Int) n 0 0 τ1 = _ from g4, obs]
      dsimp only
      rw [if_pos rfl, w32_in (by omega) (by omega), g3]
      simp only [Option.isSome_none, Bool.false_eq_true, if_false]
      exact ih τ2 f2
theorem m_cutting {t n : Nat} (h : MH τ B) (ht : t < 4) (hn : n ≤ 6) (ho : ∀ i, i < n → okC B (rw3 τ t) i = true) : ∃ τ', f_X12_cutting 113 t n τ = some (fewM B (rw3 τ t) n, τ') ∧ Fr [20] τ τ' ∧ τ' 118 = τ 118 ∧ ∀ c K' H' : Nat, fewM B (rw3 τ t) n = c → Sc (lfm B (rw3 τ t) n) (fun k => (aS B).testBit k) (nP B) 0 c 0 0 = some (K', H') → ∀ k, k < nP B → τ' 125 k = wy K' H' k := by
  have hB := h.2.2.nP_le
  unfold f_X12_cutting f_X12_cutting_b0
  rw [if_pos oM]
  have := up_all (Q := fun m i => ∀ τ1, Fr [20] τ τ1 → τ1 116 = τ 116 → τ1 118 = τ 118 → dM τ1 B (rw3 τ t) i → ∃ τ', f_X12_cutting_h2 m 113 t n i τ1 = some (fewM B (rw3 τ t) n, τ') ∧ Fr [20] τ τ' ∧ τ' 118 = τ 118 ∧ ∀ c K' H' : Nat, fewM B (rw3 τ t) n = c → Sc (lfm B (rw3 τ t) n) (fun k => (aS B).testBit k) (nP B) 0 c 0 0 = some (K', H') → ∀ k, k < nP B → τ' 125 k = wy K' H' k) n (fun m τ1 f1 a1 a2 d1 => ?_) (fun m i hi ih τ1 f1 a1 a2 d1 => ?_) (by unfold FU; omega)
  · exact this τ Fr.refl rfl rfl ⟨h, by omega, fun i hi => by omega⟩
  · rw [hs_X12_cutting_h2]
    unfold f_X12_cutting_b2
    rw [if_pos (by omega)]
    obtain ⟨τ', g1, g2, g3⟩ := m_cut_h d1
    refine ⟨τ', g1, f1.trans fun b j hb => g2 b j fun q => hb ?_, ?_, g3⟩
    · unfold gs
      rw [gid12x (.inr (.inr q))]
      decide
    · funext j
      rw [g2 _ _ (by decide), a2]
  · obtain ⟨g, q, q1, q2, hg, hq, hw, eT1, eS1⟩ := okC_d (ho i hi) h.2.2
    have hm := d1.1
    have eN : ∀ (τ2 : Mem), Ref τ2 → τ2 116 = τ 116 → ∀ j, j < 60 → f_X12_numberOf 113 t (j : Nat) τ2 = some (rw3 τ t j) := fun τ2 h2 e2 j hj => by rw [m_numberOf h2 ht hj]; unfold rw3; rw [Int.toNat_natCast, e2]
    have lT := @tS_lt B g q h.2.2
    have r2 : Ref (upm τ1 123 i ((tS B (g : Int) (q : Int) : Nat) : Int)) := hm.1.up (isRf_cell rfl)
    have hm2 : MH (upm τ1 123 i ((tS B (g : Int) (q : Int) : Nat) : Int)) B := ⟨r2, by rw [upm_ne (by decide)]; exact hm.2.1, hm.2.2⟩
    have a3 : upm τ1 123 i ((tS B (g : Int) (q : Int) : Nat) : Int) 116 = τ 116 := by rw [upm_ne (by decide)]; exact a1
    rw [hs_X12_cutting_h2]
    unfold f_X12_cutting_b2
    rw [if_neg (by omega), w32_in (z := 3 * (i : Int)) (by omega) (by omega), w32_in (z := 3 * (i : Int) + 1) (by omega) (by omega), w32_in (z := 3 * (i : Int) + 2) (by omega) (by omega), show 3 * (i : Int) = ((3 * i : Nat) : Int) by omega, show ((3 * i : Nat) : Int) + 1 = ((3 * i + 1 : Nat) : Int) by omega, show ((3 * i : Nat) : Int) + 2 = ((3 * i + 2 : Nat) : Int) by omega, eN τ1 hm.1 a1 _ (by omega), obs, q2, gM, obs, eN τ1 hm.1 a1 _ (by omega), obs, q1, hm.1.at 113 29 123 rfl, w32_in (z := (g : Int)) (by omega) (by omega), w32_in (z := (q : Int)) (by omega) (by omega), m_turnedFrom hm.1 hm.2.1 hm.2.2 (by omega), obs, st123 (by omega), obs, gM, obs, r2.at 113 30 124 rfl, eN _ r2 a3 _ (by omega), obs, m_stone' hm2 (by omega), obs]
    unfold f_X12_cutting_b71
    simp only [st124 (σ := upm τ1 123 i ((tS B (g : Int) (q : Int) : Nat) : Int)) (show i < 6 by omega), obs]
    rw [w32_in (z := (i : Int) + 1) (by omega) (by omega), w32_in (z := rw3 τ t (3 * i + 2)) (by omega) (by omega), w32_in (z := rw3 τ t (3 * i + 2) + 0) (by omega) (by omega), w32_in (z := rw3 τ t (3 * i + 2) + 2) (by omega) (by omega)]
    have key : ∀ v : Int, v = (wnt B (rw3 τ t) i : Nat) → ∃ τ', f_X12_cutting_h2 m 113 t n ((i : Int) + 1) (upm (upm τ1 123 i ((tS B (g : Int) (q : Int) : Nat) : Int)) 124 i v) = some (fewM B (rw3 τ t) n, τ') ∧ Fr [20] τ τ' ∧ τ' 118 = τ 118 ∧ ∀ c K' H' : Nat, fewM B (rw3 τ t) n = c → Sc (lfm B (rw3 τ t) n) (fun k => (aS B).testBit k) (nP B) 0 c 0 0 = some (K', H') → ∀ k, k < nP B → τ' 125 k = wy K' H' k := by
      intro v hv
      refine ih _ ((f1.then (by rw [gid12x (.inl rfl)]; decide)).then (by rw [gid12x (.inr (.inl rfl))]; decide)) (by rw [upm_ne (by decide), upm_ne (by decide)]; exact a1) (by rw [upm_ne (by decide), upm_ne (by decide)]; exact a2) ⟨⟨r2.up (isRf_cell rfl), by rw [upm_ne (by decide), upm_ne (by decide)]; exact hm.2.1, hm.2.2⟩, by omega, fun j hj => ?_⟩
      by_cases e0 : j = i
      · subst e0
        rw [upm_o (by omega), upm_same, upm_same, hv, eT1]
        exact ⟨rfl, rfl, lT⟩
      · rw [upm_o (by omega), upm_app, if_neg (by omega), upm_app, if_neg (by omega), upm_o (by omega)]
        exact d1.2.2 j (by omega)
    have ew : ((wnt B (rw3 τ t) i : Nat) : Int) = rw3 τ t (3 * i + 2) + if stn B q = true then 2 else 0 := by
      unfold wnt
      rw [eT1, eS1]
      rcases hw with hw | hw <;> rw [hw] <;> cases stn B q <;> rfl
    by_cases s : stn B q = true
    · rw [if_pos s, if_neg (by decide)]
      exact key _ (by rw [ew, if_pos s])
    · rw [if_neg s, if_pos rfl]
      exact key _ (by rw [ew, if_neg s])
theorem yCut_ge {t n : Int} : 0 ≤ yCut σ t n := by
  unfold yCut yCx yTh
  grind
/-- what the reference says before it cuts -/
def yPre (σ : Mem) (t n : Int) : Int := if yTh (σ 115) t n 6 = 0 then yCm0 (σ 118) (rw3 σ t) n.toNat else yTh (σ 115) t n 6
theorem m_preC {t n : Int} (ht : MH τ (σ 118)) (hg : ∀ b, 113 ≤ b → τ b = σ b) (hn : R32 n) : f_X12_whyNoCuts 113 t n (upm τ 113 1 0) = some (yPre σ t n) := by
  have er1 : rw3 (upm τ 113 1 0) t = rw3 σ t := rw3_cg (by rw [upm_ne (by decide)]; exact hg 116 (by omega))
  rw [m_whyNoCuts ht.r1 hn, er1, upm_ne (show 115 ≠ 113 by decide), hg 115 (by omega)]
  rfl
theorem yPre_c {t n : Int} (hB : BV (σ 118)) : (yPre σ t n = 0 ∧ (yCut σ t n = 0 ∨ yCut σ t n = 8) ∧ (yCut σ t n = 8 ↔ fewM (σ 118) (rw3 σ t) n.toNat = -1) ∧ ∃ a k : Nat, t = a ∧ n = k ∧ a < 4 ∧ k ≤ 6 ∧ ∀ i, i < k → okC (σ 118) (rw3 σ a) i = true) ∨ (0 < yPre σ t n ∧ yCut σ t n = yPre σ t n) := by
  have hf := @fewM_eq (σ 118) (rw3 σ t) n.toNat hB
  by_cases hy : yTh (σ 115) t n 6 = 0
  · have e1 : yPre σ t n = yCm0 (σ 118) (rw3 σ t) n.toNat := by unfold yPre; rw [if_pos hy]
    have e2 : yCut σ t n = yCx (σ 118) (rw3 σ t) n.toNat := by unfold yCut; rw [if_pos hy]
    rw [e1, e2]
    unfold yCm0 yCx
    by_cases z : ff (fun i => !okC (σ 118) (rw3 σ t) i) n.toNat 0 = -1
    · refine .inl ⟨by rw [if_pos z], ?_, ?_, ?_⟩
      · rw [if_pos z]; split <;> simp
      · rw [if_pos z, hf]
        cases hop (σ 118) (rw3 σ t) n.toNat
        · simp
        · simp
      · obtain ⟨a, k, rfl, rfl, ha, hk, hl⟩ := yTh0 hy
        rw [Int.toNat_natCast] at z
        refine ⟨a, k, rfl, rfl, ha, by omega, fun i hi => ?_⟩
        rcases ff_spec (fun i => !okC (σ 118) (rw3 σ a) i) k 0 with ⟨f1, f2⟩ | ⟨j, f1, f2, f3, f4, f5⟩
        · have := f2 i (by omega) hi
          simpa using this
        · omega
    · refine .inr ⟨by rw [if_neg z]; omega, by rw [if_neg z, if_neg z]⟩
  · have e1 : yPre σ t n = yTh (σ 115) t n 6 := by unfold yPre; rw [if_neg hy]
    have e2 : yCut σ t n = yTh (σ 115) t n 6 := by unfold yCut; rw [if_neg hy]
    refine .inr ⟨?_, by rw [e1, e2]⟩
    rw [e1]
    unfold yTh at hy ⊢
    grind
theorem wayX_m {σ' : Mem} {n : Nat} (hB : BV B) (hy : ¬ fewM B N n = -1) (w : wayX σ' B N n) : ∃ c K' H' : Nat, fewM B N n = c ∧ Sc (lfm B N n) (fun k => (aS B).testBit k) (nP B) 0 c 0 0 = some (K', H') ∧ K' < 1024 ∧ H' < 1024 ∧ σ' 54 7 = (K' : Nat) ∧ σ' 54 8 = (H' : Nat) ∧ σ' 54 9 = (c : Nat) := by
  obtain ⟨c, K', H', w1, w2, w3, w4, w5⟩ := w
  have hh : hop B N n = false := by
    cases q : hop B N n
    · rfl
    · rw [fewM_eq hB, q] at hy
      exact absurd rfl hy
  have sp := Sc_spec w2 (fun k _ => ⟨Nat.zero_testBit k, Nat.zero_testBit k⟩) (by omega) (by omega) (by omega)
  refine ⟨c, K', H', ?_, by rw [Sc_m hB hh]; exact w2, sp.2.2.2.2.1, sp.2.2.2.2.2, w3, w4, w5⟩
  rw [fewM_eq hB, hh]
  exact w1
theorem ok_cuts {t n : Int} (h : Rel σ) (hn : R32 n) : Ok (f_X11_cuts 0 t n) (f_X12_cuts 113 t n) σ := by
  have hx := h.xh
  obtain ⟨σ', g1, g2, g3⟩ := x_cutsWhy (t := t) h hn
  have hR := g2.ref (by decide) h.1
  rcases yPre_c (σ := σ) (t := t) (n := n) hx.2.2 with ⟨p1, p2, p3, a, k, rfl, rfl, ha, hk, ho⟩ | ⟨p1, p2⟩
  · rw [Int.toNat_natCast] at p3 g3
    have mp : ∀ τ, MH τ (σ 118) → (∀ b, 113 ≤ b → τ b = σ b) → ∃ τ', f_X12_cuts 113 a k τ = (if 0 ≤ fewM (σ 118) (rw3 σ a) k then some (fewM (σ 118) (rw3 σ a) k, τ') else some (-1, upm τ' 113 0 8)) ∧ Fr [11, 20] τ τ' ∧ τ' 113 0 = 0 := by
      intro τ ht hg
      have h3 := ht.r1.r0 (v := 0)
      have er : rw3 (upm (upm τ 113 1 0) 113 0 0) a = rw3 σ a := rw3_cg (by rw [upm_ne (by decide), upm_ne (by decide)]; exact hg 116 (by omega))
      obtain ⟨τ', k1, k2, k3, k4⟩ := m_cutting (n := k) h3 ha hk (by rw [er]; exact ho)
      rw [er] at k1
      refine ⟨τ', ?_, Fr.trans fr_rf (k2.mono (by decide)), by rw [k2.at (a := 113) (j := 0) rfl (by decide), upm_same]⟩
      unfold f_X12_cuts f_X12_cuts_b0
      simp only [oM, if_true, pM, gM, obs, m_preC ht hg hn, p1, upm_same, Int.le_refl, k1, s_refuse]
    by_cases z : yCut σ a k = 0
    · have hf : ¬ fewM (σ 118) (rw3 σ a) k = -1 := fun q => by have := p3.mpr q; omega
      obtain ⟨c, K', H', w1, w2, w3, w4, w5, w6, w7⟩ := wayX_m hx.2.2 hf (g3 z)
      refine Ok.mk (r := c) (y := 0) h ⟨upm σ' 0 19 0, ?_, g2.x01, upm_same⟩ fun τ ht hg => ?_
      · unfold f_X11_cuts f_X11_cuts_b0
        simp only [oX, if_true, g1, obs, z, s_ref0, gX, (hR.up (v := 0) (show isRf 0 19 = false from rfl)).at 0 13 54 rfl, gCt]
        rw [upm_o (by omega), w7]
      · obtain ⟨τ', m1, m2, m3⟩ := mp τ ht hg
        exact ⟨τ', by rw [m1, w1, if_pos (by omega)], m2, m3⟩
    · have z8 := p2.resolve_left z
      have hf := p3.mp z8
      refine Ok.mk (r := -1) (y := 8) h ⟨upm σ' 0 19 8, ?_, g2.x01, upm_same⟩ fun τ ht hg => ?_
      · unfold f_X11_cuts f_X11_cuts_b0
        simp only [oX, if_true, g1, obs, z8, s_refn (show ¬ (8 : Int) = 0 by decide)]
        rfl
      · obtain ⟨τ', m1, m2, m3⟩ := mp τ ht hg
        exact ⟨_, by rw [m1, hf, if_neg (by decide)], m2.then (by decide), upm_same⟩
  · have hy : ¬ yCut σ t n = 0 := by omega
    refine Ok.mk (r := -1) (y := yCut σ t n) h ⟨upm σ' 0 19 _, ?_, g2.x01, upm_same⟩ fun τ ht hg => MO.mk ?_
    · unfold f_X11_cuts f_X11_cuts_b0
      simp only [oX, if_true, g1, obs, s_refn hy]
      rfl
    · unfold f_X12_cuts f_X12_cuts_b0
      simp only [oM, if_true, pM, gM, obs, m_preC ht hg hn, upm_same]
      rw [if_neg (by omega), p2]
theorem x_cutOn {K H k : Nat} (hK : K < 1024) (hH : H < 1024) (hk : k < 10) (e1 : σ 54 7 = (K : Nat)) (e2 : σ 54 8 = (H : Nat)) : f_X0_cutOn 54 k σ = some (wy K H k) := by
  unfold f_X0_cutOn f_X0_cutOn_b0 wy
  simp only [oCt, if_true, gCt, obs, e1, e2]
  rw [bit_at (by omega) (by omega), bit_at (by omega) (by omega)]
  cases K.testBit k <;> cases H.testBit k <;> rfl
theorem ok_cutOf {t n p : Int} (h : Rel σ) (hn : R32 n) : Ok (f_X11_cutOf 0 t n p) (f_X12_cutOf 113 t n p) σ := by
  have hx := h.xh
  by_cases ht4 : 0 ≤ t ∧ t < 4
  · by_cases hp : isP (σ 118) p
    · obtain ⟨j, rfl, hj, hj10⟩ := isP_nat hp hx.2.2
      have xe : f_X11_cutOf 0 t n j σ = f_X11_cutOf_b24 0 t n j 0 σ := by
        unfold f_X11_cutOf f_X11_cutOf_b0
        simp only [oX, if_true, s_isTray, obs, gX, h.1.at 0 3 5 rfl, w_isPlace hx]
        rw [if_pos ht4, if_pos (show 0 ≤ (j : Int) ∧ (j : Int) < σ 118 0 from hp), if_neg (by decide), if_neg (by decide)]
      obtain ⟨σ', g1, g2, g3⟩ := x_cutsWhy (t := t) h hn
      have hR := g2.ref (by decide) h.1
      rcases yPre_c (σ := σ) (t := t) (n := n) hx.2.2 with ⟨p1, p2, p3, a, k, rfl, rfl, ha, hk, ho⟩ | ⟨p1, p2⟩
      · rw [Int.toNat_natCast] at p3 g3
        have mp : ∀ τ, MH τ (σ 118) → (∀ b, 113 ≤ b → τ b = σ b) → ∃ τ', f_X12_cutOf 113 a k j τ = (if 0 ≤ fewM (σ 118) (rw3 σ a) k then some (τ' 125 j, τ') else some (-1, upm τ' 113 0 8)) ∧ Fr [11, 20] τ τ' ∧ τ' 113 0 = 0 ∧ ∀ c K' H' : Nat, fewM (σ 118) (rw3 σ a) k = c → Sc (lfm (σ 118) (rw3 σ a) k) (fun k => (aS (σ 118)).testBit k) (nP (σ 118)) 0 c 0 0 = some (K', H') → ∀ k, k < nP (σ 118) → τ' 125 k = wy K' H' k := by
          intro τ ht hg
          have h3 := ht.r1.r0 (v := 0)
          have er : rw3 (upm (upm τ 113 1 0) 113 0 0) a = rw3 σ a := rw3_cg (by rw [upm_ne (by decide), upm_ne (by decide)]; exact hg 116 (by omega))
          obtain ⟨τ', k1, k2, k3, k4⟩ := m_cutting (n := k) h3 ha hk (by rw [er]; exact ho)
          rw [er] at k1 k4
          have hm := h3.fr k2 k3
          refine ⟨τ', ?_, Fr.trans fr_rf (k2.mono (by decide)), by rw [k2.at (a := 113) (j := 0) rfl (by decide), upm_same], k4⟩
          unfold f_X12_cutOf f_X12_cutOf_b0 f_X12_cutOf_b37
          simp only [oM, if_true, pM, gM, obs, m_preC ht hg hn, p1, upm_same, Int.le_refl, k1, s_refuse, m_isPlaceAt h3.1 h3.2.1 h3.2.2, hm.1.at 113 31 125 rfl, al125 (σ := τ') hj10]
          rw [if_neg (by decide), if_pos (show 0 ≤ (j : Int) ∧ (j : Int) < σ 118 0 from hp), if_neg (by decide)]
        by_cases z : yCut σ a k = 0
        · have hf : ¬ fewM (σ 118) (rw3 σ a) k = -1 := fun q => by have := p3.mpr q; omega
          obtain ⟨c, K', H', w1, w2, w3, w4, w5, w6, w7⟩ := wayX_m hx.2.2 hf (g3 z)
          refine Ok.mk (r := wy K' H' j) (y := 0) h ⟨upm σ' 0 19 0, ?_, g2.x01, upm_same⟩ fun τ ht hg => ?_
          · rw [xe]
            unfold f_X11_cutOf_b24 f_X11_cutOf_b30
            simp only [g1, obs, z, s_ref0, if_true, gX, (hR.up (v := 0) (show isRf 0 19 = false from rfl)).at 0 13 54 rfl]
            rw [x_cutOn w3 w4 hj10 (by rw [upm_o (by omega)]; exact w5) (by rw [upm_o (by omega)]; exact w6), obs]
          · obtain ⟨τ', m1, m2, m3, m4⟩ := mp τ ht hg
            exact ⟨τ', by rw [m1, w1, if_pos (by omega), m4 c K' H' w1 w2 j hj], m2, m3⟩
        · have z8 := p2.resolve_left z
          have hf := p3.mp z8
          refine Ok.mk (r := -1) (y := 8) h ⟨upm σ' 0 19 8, ?_, g2.x01, upm_same⟩ fun τ ht hg => ?_
          · rw [xe]
            unfold f_X11_cutOf_b24 f_X11_cutOf_b30
            simp only [g1, obs, z8, s_refn (show ¬ (8 : Int) = 0 by decide)]
            rfl
          · obtain ⟨τ', m1, m2, m3, m4⟩ := mp τ ht hg
            exact ⟨_, by rw [m1, hf, if_neg (by decide)], m2.then (by decide), upm_same⟩
      · have hy : ¬ yCut σ t n = 0 := by omega
        refine Ok.mk (r := -1) (y := yCut σ t n) h ⟨upm σ' 0 19 _, ?_, g2.x01, upm_same⟩ fun τ ht hg => MO.mk ?_
        · rw [xe]
          unfold f_X11_cutOf_b24 f_X11_cutOf_b30
          simp only [g1, obs, s_refn hy]
          rfl
        · have h3 := ht.r1.r0 (v := yPre σ t n)
          unfold f_X12_cutOf f_X12_cutOf_b0 f_X12_cutOf_b37
          simp only [oM, if_true, pM, gM, obs, m_preC ht hg hn, upm_same, m_isPlaceAt h3.1 h3.2.1 h3.2.2]
          rw [if_pos (show 0 ≤ (j : Int) ∧ (j : Int) < σ 118 0 from hp), if_neg (show ¬ (1 : Int) = 0 by decide), if_neg (show ¬ yPre σ t n ≤ 0 by omega), p2]
          split <;> rfl
    · refine Ok.mk (r := -1) (y := 2) h (XO.mk ?_) fun τ ht hg => ?_
      · unfold f_X11_cutOf f_X11_cutOf_b0 f_X11_cutOf_b30
        simp only [oX, if_true, s_isTray, obs, gX, h.1.at 0 3 5 rfl, w_isPlace hx]
        rw [if_pos ht4, if_neg (show ¬ (0 ≤ p ∧ p < σ 118 0) from hp), if_neg (by decide), if_pos rfl, s_refn (by decide), obs]
        rfl
      · have h3 := ht.r1.r0 (v := yPre σ t n)
        have n1 : ¬ yPre σ t n = 1 := by
          unfold yPre yTh yCm0
          grind
        refine ⟨upm (upm (upm τ 113 1 0) 113 0 (yPre σ t n)) 113 0 2, ?_, fr_rf.then (by decide), upm_same⟩
        unfold f_X12_cutOf f_X12_cutOf_b0 f_X12_cutOf_b37
        simp only [oM, if_true, pM, gM, obs, m_preC ht hg hn, upm_same, m_isPlaceAt h3.1 h3.2.1 h3.2.2]
        rw [if_neg n1, if_neg (show ¬ (0 ≤ p ∧ p < σ 118 0) from hp), if_pos rfl, if_neg (by decide)]
  · have e1 : yPre σ t n = 1 := by unfold yPre yTh; grind
    have e2 : yCut σ t n = 1 := by unfold yCut yTh; grind
    obtain ⟨σ', g1, g2, g3⟩ := x_cutsWhy (t := t) h hn
    refine Ok.mk (r := -1) (y := 1) h ⟨upm σ' 0 19 1, ?_, g2.x01, upm_same⟩ fun τ ht hg => MO.mk ?_
    · unfold f_X11_cutOf f_X11_cutOf_b0 f_X11_cutOf_b24 f_X11_cutOf_b30
      simp only [oX, if_true, s_isTray, obs, g1, e2, s_refn (show ¬ (1 : Int) = 0 by decide)]
      rw [if_neg ht4, if_pos rfl]
      rfl
    · unfold f_X12_cutOf f_X12_cutOf_b0 f_X12_cutOf_b37
      simp only [oM, if_true, pM, gM, obs, m_preC ht hg hn, e1, upm_same]
      rfl
end
