/-! ===== a wall read: crow ===== -/
section
variable {σ σ' σ1 τ τ' τ1 : Mem} {t B D D' V : Nat → Int} {N : Nat}
theorem WR.names {a : Nat} (h : WR σ a B D) (h1 : ∀ p, p < nP B → D' p = D p) (h2 : ∀ w, w < nK B → D' (10 + w) = D (10 + w)) : WR σ a B D' := by
  obtain ⟨g, k1, k2, k3, k4⟩ := h
  exact ⟨g, k1, k2, fun p hp => by rw [h1 p hp]; exact k3 p hp, fun w hw => by rw [h2 w hw]; exact k4 w hw⟩
theorem mb_told {b s : Int} (h : 0 < τ 113 12) : f_X12_readTold 113 b s τ = some (0, τ) := by
  unfold f_X12_readTold f_X12_readTold_b0 f_X12_readTold_b18
  simp only [oM, if_true, gM, obs]
  rw [if_neg (by omega), if_neg (by omega)]
theorem mb_told18 {b s : Int} (h : 0 < τ 113 12) : f_X12_readTold_b18 113 b s τ = some (0, τ) := by
  unfold f_X12_readTold_b18
  rw [gM, obs, if_neg (by omega)]
theorem m_told {b s r : Int} (h0 : τ 113 12 = 0) (hk : TKk V (τ 113)) (hn : f_X12_named 113 b s τ = some r) (hr : r = -1 ∨ 0 ≤ r) : f_X12_readTold 113 b s τ = if nmd V = true then (if 0 ≤ r then (f_X12_advance 113 τ).bind fun ρ => some (r, ρ) else (f_X12_fail 113 3 (τ 113 15) τ).bind fun ρ => some (0, ρ)) else (f_X12_amiss 113 τ).bind fun ρ => some (0, ρ) := by
  unfold f_X12_readTold f_X12_readTold_b0
  simp only [oM, if_true, gM, obs]
  rw [if_pos h0, m_isName hk, obs, ifb]
  by_cases q : nmd V = true
  · rw [if_pos q, if_pos q]
    unfold f_X12_readTold_b18 f_X12_readTold_b47
    rw [gM, obs, if_pos (by omega), hn, obs]
    by_cases z : 0 ≤ r
    · rw [if_pos z, if_pos z, m_must1 h0 (by decide), show imax 0 r = r by unfold imax; split <;> omega]
    · rw [if_neg z, if_neg z, gM, obs, m_fail h0, obs, obs, mb_must (by rw [upm_app, if_neg (by omega), upm_same]; decide), obs, show imax 0 r = 0 by unfold imax; split <;> omega]
  · rw [if_neg q, if_neg q, m_amiss h0, obs, obs, mb_told18]
    rw [upm_app, if_neg (by omega), upm_same]
    split <;> decide
theorem mb_37 {w p s : Int} (h : 0 < τ 113 12) : f_X12_readCrow_b37 113 w p s τ = some τ := by
  have e : ∀ v : Int, f_X12_readCrow_b48 113 w p s v 113 τ = some τ := fun v => by
    unfold f_X12_readCrow_b48
    rw [mb_must h, obs, gM, obs, if_neg (by omega)]
  unfold f_X12_readCrow_b37
  rw [e, e, ite_self]
theorem mb_crow2 {w : Int} (h : 0 < τ 113 12) : ((f_X12_readTold 113 4 0 τ).bind fun r7 => (gf Sh r7.2 12 113 12).bind fun x9 => if x9 ≤ 0 then (f_X12_sideWord 113 r7.2).bind fun r10 => f_X12_readCrow_b37 113 w r7.1 r10 r7.2 else f_X12_readCrow_b37 113 w r7.1 0 r7.2) = some τ := by
  rw [mb_told h, obs, gM, obs]
  dsimp only
  rw [if_neg (by omega), mb_37 h]
theorem mb_crow1 {w : Int} (h : 0 < τ 113 12) : ((f_X12_isOn 113 τ).bind fun r3 => (f_X12_must 113 r3 τ).bind fun r5 => (f_X12_readTold 113 4 0 r5).bind fun r7 => (gf Sh r7.2 12 113 12).bind fun x9 => if x9 ≤ 0 then (f_X12_sideWord 113 r7.2).bind fun r10 => f_X12_readCrow_b37 113 w r7.1 r10 r7.2 else f_X12_readCrow_b37 113 w r7.1 0 r7.2) = some τ := by
  obtain ⟨r, hr⟩ := @s_isOn τ
  rw [hr, obs, mb_must h, obs, mb_crow2 h]
/-- the end of a crow's part -/
theorem j_crowEnd {w p : Nat} {f d v : Int} (h : Co σ τ t N) (hB : BV B) (hv : Dv σ τ B D (up1 D (10 + w) d)) (hw : w = nK B) (hw4 : w < 4) (hp : p < nP B) (hs : stn B p = true) (hf : f = 0 ∨ f = 1) (nm : Nm v d) (hy : yt B) (hz : ∀ q, q < 10 → stn B q = false → D q = 0) : (∃ σ' τ', f_X10_readCrow_b149 20 v p f σ = some (0, σ') ∧ (f_X12_readCrow_b48 113 w p f 1 113 τ).bind endM = some τ' ∧ Bd σ' τ' ∧ Fw σ σ' τ τ') ∨ ∃ σ' τ', f_X10_readCrow_b149 20 v p f σ = some (1, σ') ∧ (f_X12_readCrow_b48 113 w p f 1 113 τ).bind endM = some τ' ∧ Co σ' τ' t N ∧ Dw σ' τ' ∧ Fw σ σ' τ τ' ∧ σ 3 5 ≤ σ' 3 5 := by
  have np := hB.nP_le
  obtain ⟨σ2, τ2, a1, a2, a3, a4, a5, a6, _⟩ := j_go h
  have v2 := Dv.dl hB hv a3
  obtain ⟨r1, r2, r3, r4, r5, r6⟩ := v2
  obtain ⟨σ3, b1, b2, b3⟩ := x_addCrow (a := 21) (p := p) (f := f) (v := v) (d := d) w21 r1 r3 hB (by omega) hp hf nm
  unfold f_X10_readCrow_b149 f_X12_readCrow_b48
  rw [gWr, obs, hv.1.at 20 0 3 rfl, a1, obs, gWr, obs, r1.at 20 1 21 rfl, show f_X9_addCrow 21 v p f σ2 = some σ3 from b1, obs, gWr, obs, (b3.refW r1).at 20 0 3 rfl, m_must1 h.2.2 (by decide), a2, obs, gM, obs, if_pos a4.2.2, show f_X12_hatches 113 4 w p f τ2 = _ from m_hatches (b := 4) r2 (by omega) hw4, obs, obs]
  generalize hS : setc τ2 118 (up1 (up1 (up1 (τ2 118) (327 * 4 + (47 + w)) p) (327 * 4 + (51 + w)) f) (327 * 4 + 1) ((w : Int) + 1)) = τ3
  have f3 : Fr [20] τ2 τ3 := by
    rw [← hS]
    refine Fr.setc fun j hj => ?_
    rw [gid118]
    by_cases q : j < 1308
    · exact absurd (by rw [up1_ne (by omega), up1_ne (by omega), up1_ne (by omega)]) hj
    · rw [if_neg (by omega), if_neg (by omega), if_neg q]; decide
  have t113 : ∀ b, ¬ b = 118 → τ3 b = τ2 b := fun b hb => by rw [← hS, setc_ne hb]
  have e4 : blk τ3 4 = hatB B (nK B) p f := by
    funext j
    rw [← hS, ← hw, ← r4]
    unfold blk hatB
    rw [setc_same]
    unfold up1
    grind
  have e5 : wrd τ3 4 = up1 D (10 + nK B) d := by rw [wrd_cg (t113 120 (by decide)), r5, hw]
  have c3 : Co σ3 τ3 t N := a4.cell (wS21_o b3 (by omega)) (wS21_o b3 (by omega)) (wS21_o b3 (by omega)) (t113 113 (by decide)) (t113 117 (by decide))
  have d3 : Dw σ3 τ3 := by
    refine ⟨b3.refW r1, f3.ref (by decide) r2, by rw [e4, e5]; exact b2, ?_, ⟨?_, ?_⟩, ?_⟩
    · rw [e4]
      exact BV_hat hB (by omega) hf (.inr ⟨by omega, by omega, by rw [Int.toNat_natCast]; exact hs⟩)
    · rw [wS21_o b3 (by omega), t113 113 (by decide)]; exact r6
    · rw [e4]; exact hy.cg (hatB_o (by omega) (by omega) (by omega)) (hatB_o (by omega) (by omega) (by omega)) (hatB_o (by omega) (by omega) (by omega))
    · intro q hq hsq
      rw [e4, stn_hat hq] at hsq
      rw [e5, up1_ne (by omega)]
      exact hz q hq hsq
  have F3 : Fw σ σ3 τ τ3 := a3.fw.trans ⟨fr_wS21 b3, f3⟩
  have at3 : σ3 3 = σ2 3 := wS21_o b3 (by omega)
  rcases j_end c3 d3 with ⟨σa, τa, x1, x2, x3, x4, x5, x6⟩ | ⟨σa, τa, x1, x2, x3, x4⟩
  · exact .inr ⟨σa, τa, by rw [x1, obs]; rfl, x2, x3, x4, F3.trans x5, by rw [at3] at x6; omega⟩
  · exact .inl ⟨σa, τa, by rw [x1, obs]; rfl, x2, x3, F3.trans x4⟩
theorem j_crow (h : Co σ τ t N) (hd : Dw σ τ) (hw : σ 3 4 = 2) : PO t N σ τ (f_X10_readCrow 20 σ) ((f_X12_readCrow 113 τ).bind endM) := by
  have hB := hd.2.2.2.1
  have np := hB.nP_le
  have hn := hB.nK_le
  have emS : f_X12_readCrow 113 τ = (f_X12_readNew 113 ((1 : Nat) : Int) ((4 : Nat) : Int) τ).bind fun r1 => (f_X12_isOn 113 r1.2).bind fun r3 => (f_X12_must 113 r3 r1.2).bind fun r5 => (f_X12_readTold 113 4 0 r5).bind fun r7 => (gf Sh r7.2 12 113 12).bind fun x9 => if x9 ≤ 0 then (f_X12_sideWord 113 r7.2).bind fun r10 => f_X12_readCrow_b37 113 r1.1 r7.1 r10 r7.2 else f_X12_readCrow_b37 113 r1.1 r7.1 0 r7.2 := by
    unfold f_X12_readCrow f_X12_readCrow_b0
    rw [if_pos oM]
    rfl
  rw [emS]
  unfold f_X10_readCrow f_X10_readCrow_b0
  simp only [oWr, if_true, gWr, obs, hd.1.at 20 1 21 rfl, hd.1.at 20 0 3 rfl]
  rw [show gf Sh σ 9 21 7 = some (σ 21 7) from gW w21, obs, hd.2.2.1.1.2.2.1]
  by_cases z : blk τ 4 1 < 4
  · rw [if_pos z]
    rcases j_new (s := 1) (most := 4) (k := nK (blk τ 4)) h hd hw (by omega) hn.2.symm (by omega) (by omega) with ⟨σ2, σ3, τ3, d, a1, a2, a3, a4, a5, a6, a7, a8, a9, a10⟩ | ⟨σ2, σ3, τ3, a1, a2, a3, a4, a5, a6⟩
    · rw [a3, obs, a1, obs, a9.at 20 0 3 rfl, gTx, obs, a2, obs]
      dsimp only
      rw [if_neg (by decide), a8.1.at 20 0 3 rfl, m_isOn a4.2.1.kk, obs]
      rcases j_word (k := 7) a4 rfl with ⟨σ4, τ4, b1, b2, b3, b4, b5⟩ | ⟨σ4, τ4, b1, b2, b3, b4⟩
      · have v4 := Dv.dl hB a8 b3
        rw [show f_X7_takeWord 3 7 σ3 = some (1, σ4) from b1, obs, b2, obs]
        dsimp only
        rw [if_neg (by decide), v4.1.at 20 0 3 rfl, v4.1.at 20 1 21 rfl, gTx, obs, x_isName, obs, ifb]
        have w4 : WR σ4 21 (blk τ4 4) (wrd τ4 4) := by
          rw [v4.2.2.2.1, v4.2.2.2.2.1]
          exact v4.2.2.1.names (fun p hp => up1_ne (by omega)) (fun w hw => up1_ne (by omega))
        have hB4 : BV (blk τ4 4) := by rw [v4.2.2.2.1]; exact hB
        by_cases y : nmd (σ4 3) = true
        · obtain ⟨r, s1, s2, s3⟩ := j_stoneNamed (a := 21) (b := 4) w21 v4.1 v4.2.1 (by omega) w4 hB4 b4.2.1.kk y
          obtain ⟨nmw, posw, k2w⟩ := b4.2.1.kk.nm y
          have hto := m_told (b := 4) (s := 0) b4.2.2 b4.2.1.kk s2 (by rcases s3 with s3 | ⟨p, s3, _⟩ <;> omega)
          rw [if_pos y] at hto ⊢
          rw [hto, show f_X9_stoneNamed 21 (σ4 3 6) σ4 = some r from s1, obs]
          rcases s3 with s3 | ⟨p, rfl, hp, hpw⟩
          · rw [if_pos s3, if_neg (by omega)]
            obtain ⟨σ5, τ5, c1, c2, c3, c4⟩ := j_fail (c := 3) b4 (by decide) (by rw [k2w]; decide)
            rw [c1, obs, c2, obs, obs, gM, obs]
            dsimp only
            have := c4.2.2
            rw [if_neg (by omega), mb_37 c4.2.2, obs, endM_bad c4.2.2]
            exact .inr ⟨σ5, τ5, rfl, rfl, c4, (a5.trans b3.fw).trans c3.fw⟩
          · rw [if_neg (by omega), if_pos (by omega)]
            obtain ⟨σ5, τ5, c1, c2, c3, c4, c5, c6, _⟩ := j_go b4
            have v5 := Dv.dl hB v4 c3
            rw [c1, obs, c2, obs, obs, gM, obs, v5.1.at 20 0 3 rfl]
            dsimp only
            rw [if_pos (by rw [c4.2.2]; decide), m_sideWord c4.2.1.kk, obs, show f_X7_isWord 3 8 σ5 = _ from x_isWord (k := 8), obs, show f_X7_isWord 3 9 σ5 = _ from x_isWord (k := 9), obs]
            have hpB : p < nP (blk τ 4) := by rw [v4.2.2.2.1] at hp; exact hp
            have hst : stn (blk τ 4) p = true := by
              refine Classical.byContradiction fun q => ?_
              have q2 := hd.2.2.2.2.2 p (by omega) (by simpa using q)
              rw [v4.2.2.2.2.1, up1_ne (by omega), q2] at hpw
              omega
            have end_ : ∀ f : Int, f = 0 ∨ f = 1 → PO t N σ τ (f_X10_readCrow_b149 20 (σ2 3 6) p f σ5) ((f_X12_readCrow_b48 113 (nK (blk τ 4) : Nat) p f 1 113 τ5).bind endM) := by
              intro f hf
              rcases j_crowEnd (w := nK (blk τ 4)) (p := p) (f := f) (d := d) (v := σ2 3 6) c4 hB v5 rfl (by omega) hpB hst hf a7 hd.2.2.2.2.1.2 hd.2.2.2.2.2 with ⟨σa, τa, x1, x2, x3, x4⟩ | ⟨σa, τa, x1, x2, x3, x4, x5, x6⟩
              · exact .inr ⟨σa, τa, x1, x2, x3, ((a5.trans b3.fw).trans c3.fw).trans x4⟩
              · exact .inl ⟨σa, τa, x1, x2, x3, x4, ((a5.trans b3.fw).trans c3.fw).trans x5, by omega⟩
            unfold f_X12_readCrow_b37
            by_cases k8 : isK (σ5 3) 8 = true
            · rw [if_pos k8, if_pos k8, if_neg (by decide), if_neg (by decide)]
              exact end_ 1 (.inr rfl)
            · rw [if_neg k8, if_neg k8, if_pos rfl]
              by_cases k9 : isK (σ5 3) 9 = true
              · rw [if_pos k9, if_pos k9, if_neg (by decide), if_neg (by decide)]
                exact end_ 0 (.inl rfl)
              · rw [if_neg k9, if_neg k9, if_pos rfl, if_pos (by decide)]
                obtain ⟨σ6, τ6, e1, e2, e3, e4⟩ := j_amiss c4
                unfold f_X12_readCrow_b48
                rw [e1, obs, m_must0 c4.2.2, e2, obs, gM, obs, if_neg (by have := e4.2.2; omega), obs, endM_bad e4.2.2]
                exact .inr ⟨σ6, τ6, rfl, rfl, e4, ((a5.trans b3.fw).trans c3.fw).trans e3.fw⟩
        · obtain ⟨r, s2⟩ : ∃ r, f_X12_named 113 4 0 τ4 = some r ∧ (r = -1 ∨ 0 ≤ r) := by
            have n4 := hB4.nP_le
            refine ⟨_, m_named (b := 4) (s := 0) (n := nP (blk τ4 4)) v4.2.1 (by omega) (by omega) n4.2.symm ⟨n4.1, by omega⟩, ?_⟩
            rcases ff_spec (fun p => decide (wrd τ4 4 (10 * 0 + p) = τ4 113 19)) (nP (blk τ4 4)) 0 with ⟨q, _⟩ | ⟨k, q1, _⟩ <;> omega
          have hto := m_told (b := 4) (s := 0) b4.2.2 b4.2.1.kk s2.1 s2.2
          rw [if_neg y] at hto ⊢
          rw [hto]
          obtain ⟨σ5, τ5, c1, c2, c3, c4⟩ := j_amiss b4
          rw [c1, obs, c2, obs, obs, gM, obs]
          dsimp only
          have := c4.2.2
          rw [if_neg (by omega), mb_37 c4.2.2, obs, endM_bad c4.2.2]
          exact .inr ⟨σ5, τ5, rfl, rfl, c4, (a5.trans b3.fw).trans c3.fw⟩
      · rw [show f_X7_takeWord 3 7 σ3 = some (0, σ4) from b1, obs, b2, obs, mb_crow2 b4.2.2]
        dsimp only
        rw [if_pos rfl, obs, endM_bad b4.2.2]
        exact .inr ⟨σ4, τ4, rfl, rfl, b4, a5.trans b3.fw⟩
    · rw [a3, obs, a1, obs, a6.at 20 0 3 rfl, gTx, obs, a2, obs]
      dsimp only
      rw [if_pos rfl, mb_crow1 a4.2.2, obs, endM_bad a4.2.2]
      exact .inr ⟨σ3, τ3, rfl, rfl, a4, a5⟩
  · obtain ⟨σ2, τ2, a1, a2, a3, a4⟩ := j_fail (c := 6) h (by decide) (by rw [hw]; decide)
    have en : f_X12_readNew 113 ((1 : Nat) : Int) ((4 : Nat) : Int) τ = some (0, τ2) := by
      unfold f_X12_readNew f_X12_readNew_b0 f_X12_readNew_b26
      simp only [oM, if_true, gM, obs, hd.2.1.at 113 20 118 rfl]
      rw [show al Sh τ 20 118 (w32 (1308 + ((1 : Nat) : Int))) = some (blk τ 4 1) from alB (j := 1) (by omega), obs, if_pos (by omega), a2, obs, if_neg (by have := a4.2.2; omega)]
    rw [if_neg z, a1, obs, en, obs, mb_crow1 a4.2.2, obs, endM_bad a4.2.2]
    exact .inr ⟨σ2, τ2, rfl, rfl, a4, a3.fw⟩
end
