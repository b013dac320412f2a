/-! ===== a wall read: stone ===== -/
section
variable {σ σ' σ1 τ τ' τ1 : Mem} {t B D D' : Nat → Int} {N : Nat}
theorem mb_moss {p l : Int} (h : 0 < τ 113 12) : ((f_X12_isMoss 113 τ).bind fun r7 => (f_X12_perhaps 113 r7 τ).bind fun r9 => if r9.1 = 0 then f_X12_readStone_b42 113 p l 0 r9.2 else (f_X12_count 113 0 9 r9.2).bind fun r11 => f_X12_readStone_b42 113 p l r11.1 r11.2) = some τ := by
  obtain ⟨r, hr⟩ := @s_isMos τ
  rw [hr, obs, mb_perhaps h, obs]
  dsimp only
  rw [if_pos rfl, mb_42 h]
theorem m_behind {v lo hi : Int} : f_X12_behindWord 113 v lo hi τ = (f_X12_must 113 v τ).bind fun r1 => f_X12_count 113 lo hi r1 := by
  unfold f_X12_behindWord f_X12_behindWord_b0
  rw [if_pos oM]
  cases f_X12_must 113 v τ with
  | none => rfl
  | some r => rw [obs, obs]; exact o_eta _
theorem mb_rest {p : Int} (h : 0 < τ 113 12) : ((f_X12_isLenient 113 τ).bind fun r3 => (f_X12_behindWord 113 r3 0 30 τ).bind fun r5 => (f_X12_isMoss 113 r5.2).bind fun r7 => (f_X12_perhaps 113 r7 r5.2).bind fun r9 => if r9.1 = 0 then f_X12_readStone_b42 113 p r5.1 0 r9.2 else (f_X12_count 113 0 9 r9.2).bind fun r11 => f_X12_readStone_b42 113 p r5.1 r11.1 r11.2) = some τ := by
  obtain ⟨r, hr⟩ := @s_isLen τ
  rw [hr, obs, m_behind, mb_must h, obs, mb_count h, obs]
  exact mb_moss h
theorem j_stone (h : Co σ τ t N) (hd : Dw σ τ) (hw : σ 3 4 = 2) : PO t N σ τ (f_X10_readStone 20 σ) ((f_X12_readStone 113 τ).bind endM) := by
  have hB := hd.2.2.2.1
  have hn := hB.nP_le
  have emS : f_X12_readStone 113 τ = (f_X12_readNew 113 ((0 : Nat) : Int) ((10 : Nat) : Int) τ).bind fun r1 => (f_X12_isLenient 113 r1.2).bind fun r3 => (f_X12_behindWord 113 r3 0 30 r1.2).bind fun r5 => (f_X12_isMoss 113 r5.2).bind fun r7 => (f_X12_perhaps 113 r7 r5.2).bind fun r9 => if r9.1 = 0 then f_X12_readStone_b42 113 r1.1 r5.1 0 r9.2 else (f_X12_count 113 0 9 r9.2).bind fun r11 => f_X12_readStone_b42 113 r1.1 r5.1 r11.1 r11.2 := by
    unfold f_X12_readStone f_X12_readStone_b0
    rw [if_pos oM]
    rfl
  rw [emS]
  unfold f_X10_readStone f_X10_readStone_b0
  simp only [oWr, if_true, gWr, obs, hd.1.at 20 1 21 rfl, hd.1.at 20 0 3 rfl, x_isFull21 hd]
  by_cases z : blk τ 4 0 < 10
  · rw [if_pos z, if_pos rfl]
    rcases j_new (s := 0) (most := 10) (k := nP (blk τ 4)) h hd hw (by omega) hn.2.symm (by omega) (by omega) with ⟨σ2, σ3, τ3, d, a1, a2, a3, a4, a5, a6, a7, a8, a9, a10⟩ | ⟨σ2, σ3, τ3, a1, a2, a3, a4, a5, a6⟩
    · rw [a3, obs, a1, obs, a9.at 20 0 3 rfl, gTx, obs, a2, obs]
      dsimp only
      rw [if_neg (by decide), a8.1.at 20 0 3 rfl, m_isLenient a4.2.1.kk, obs, m_behind]
      rcases j_word (k := 2) a4 rfl with ⟨σ4, τ4, b1, b2, b3, b4, b5⟩ | ⟨σ4, τ4, b1, b2, b3, b4⟩
      · have v4 := Dv.dl hB a8 b3
        rw [show f_X7_takeWord 3 2 σ3 = some (1, σ4) from b1, obs, b2, obs]
        dsimp only
        rw [if_neg (by decide), v4.1.at 20 0 3 rfl]
        rcases j_num (lo := 0) (hi := 30) b4 with ⟨n, σ5, τ5, c1, c2, c3, c4, c5, c6, c7, c8⟩ | ⟨σ5, τ5, c1, c2, c3, c4⟩
        · have v5 := Dv.dl hB v4 c3
          rw [c1, obs, c2, obs]
          dsimp only
          rw [if_neg (by decide), v5.1.at 20 0 3 rfl, gTx, obs, c6, m_isMoss c4.2.1.kk, obs]
          rcases j_perhaps (k := 3) (lo := 0) (hi := 9) (wo := 0) c4 v5.1 rfl (by decide) with ⟨mv, σ6, τ6, d1, d2, d3, d4, d5, d6⟩ | ⟨mv, σ6, τ6, d1, d2, d3, d4⟩
          · have v6 := Dv.dl hB v5 d3
            rw [show f_X10_readPerhaps 20 3 0 9 0 σ5 = some (mv, σ6) from d1, obs, d2 (fun m ρ => f_X12_readStone_b42 113 (nP (blk τ 4) : Nat) n m ρ)]
            dsimp only
            rw [if_neg (by omega)]
            unfold f_X12_readStone_b42
            rw [m_isStrong d4.2.1.kk, obs]
            rcases j_perhaps (k := 4) (lo := 1) (hi := 9) (wo := 3) d4 v6.1 rfl (by decide) with ⟨sv, σ7, τ7, e1, e2, e3, e4, e5, e6⟩ | ⟨sv, σ7, τ7, e1, e2, e3, e4⟩
            · have v7 := Dv.dl hB v6 e3
              obtain ⟨r1, r2, r3, r4, r5, r6⟩ := v7
              rw [show f_X10_readPerhaps 20 4 1 9 3 σ6 = some (sv, σ7) from e1, obs, e2 (fun s ρ => f_X12_readStone_b65 113 (nP (blk τ 4) : Nat) n mv s ρ)]
              unfold f_X10_readStone_b106
              dsimp only
              rw [if_neg (by omega), gWr, obs, r1.at 20 1 21 rfl]
              obtain ⟨σ8, g1, g2, g3⟩ := x_addPlace (v := σ2 3 6) (d := d) w21 r1 r3 hB (by omega) a7
              have R8 := g3.refW r1
              have hB8 := BV_pl hB (by omega)
              have n8 := nP_pl hB
              obtain ⟨σ9, k1, k2, k3⟩ := x_setStone (p := nP (blk τ 4)) (l := n) (m := mv) (s := sv) w21 R8 g2 hB8 (by omega)
              have g9 : Fp (wS 21) σ7 σ9 := Fp.trans g3 k3
              have e80 : σ8 21 0 = blk τ 4 0 + 1 := by rw [g2.1.1]; exact up1_eq
              rw [show f_X9_addPlace 21 (σ2 3 6) σ7 = some σ8 from g1, obs, gWr, obs, obs, R8.at 20 1 21 rfl, show gf Sh σ8 9 21 0 = some (σ8 21 0) from gW w21, obs, e80, w32_in (by omega) (by omega), show blk τ 4 0 + 1 - 1 = ((nP (blk τ 4) : Nat) : Int) by omega, show f_X9_setStone 21 (nP (blk τ 4) : Nat) n mv sv σ8 = some σ9 from k1, obs, gWr, obs, (k3.refW R8).at 20 0 3 rfl]
              unfold f_X12_readStone_b65
              rw [gM, obs, if_pos (by rw [e4.2.2]; decide), show f_X12_sets 113 4 (nP (blk τ 4) : Nat) n sv τ7 = _ from m_sets (b := 4) r2 (by omega) (by omega), obs]
              generalize hS : setc τ7 118 (up1 (up1 (up1 (up1 (τ7 118) (327 * 4 + (7 + nP (blk τ 4))) 1) (327 * 4 + (17 + nP (blk τ 4))) n) (327 * 4 + (27 + nP (blk τ 4))) 0) (327 * 4 + (37 + nP (blk τ 4))) sv) = τ8
              have f8 : Fr [20] τ7 τ8 := by
                rw [← hS]
                refine Fr.setc fun j hj => ?_
                rw [gid118]
                by_cases q : j < 1308
                · exact absurd (by rw [up1_ne (by omega), up1_ne (by omega), up1_ne (by omega), up1_ne (by omega)]) hj
                · rw [if_neg (by omega), if_neg (by omega), if_neg q]; decide
              have R8m : Ref τ8 := f8.ref (by decide) r2
              have b8 : ∀ j, blk τ8 4 j = if j = 37 + nP (blk τ 4) then sv else if j = 27 + nP (blk τ 4) then 0 else if j = 17 + nP (blk τ 4) then n else if j = 7 + nP (blk τ 4) then 1 else blk τ 4 j := by
                intro j
                rw [← hS, ← r4]
                unfold blk
                rw [setc_same]
                unfold up1
                grind
              have w35 : w32 (1335 + ((nP (blk τ 4) : Nat) : Int)) = ((1308 + (27 + nP (blk τ 4)) : Nat) : Int) := by rw [w32_in (by omega) (by omega)]; omega
              rw [gM, obs, R8m.at 113 20 118 rfl, w35, stB (by omega), obs]
              have e0 : blk (upm τ8 118 (1308 + (27 + nP (blk τ 4))) mv) 4 0 = blk τ 4 0 := by rw [blk_up, up1_ne (by omega), b8, if_neg (by omega), if_neg (by omega), if_neg (by omega), if_neg (by omega)]
              rw [gM, obs, (show Ref (upm τ8 118 (1308 + (27 + nP (blk τ 4))) mv) from R8m.up (isRf_cell rfl)).at 113 20 118 rfl, show al Sh (upm τ8 118 (1308 + (27 + nP (blk τ 4))) mv) 20 118 1308 = some _ from alB (j := 0) (by omega), obs, e0, w32_in (by omega) (by omega), show st_ Sh (upm τ8 118 (1308 + (27 + nP (blk τ 4))) mv) 20 118 1308 (blk τ 4 0 + 1) = some (upm (upm τ8 118 (1308 + (27 + nP (blk τ 4))) mv) 118 1308 (blk τ 4 0 + 1)) from stB (j := 0) (by omega), obs, obs]
              generalize hT : upm (upm τ8 118 (1308 + (27 + nP (blk τ 4))) mv) 118 1308 (blk τ 4 0 + 1) = τ9
              have f9 : Fr [20] τ7 τ9 := by rw [← hT]; exact f8.trans (Fr.trans fr_B (fr_B (j := 0)))
              have t113 : ∀ b, ¬ b = 118 → τ9 b = τ7 b := fun b hb => by rw [← hT, upm_ne hb, upm_ne hb, ← hS, setc_ne hb]
              have b9 : blk τ9 4 = setB (plB (blk τ 4)) (nP (blk τ 4)) n mv sv := by
                rw [← hT, show upm (upm τ8 118 (1308 + (27 + nP (blk τ 4))) mv) 118 1308 (blk τ 4 0 + 1) = upm (upm τ8 118 (1308 + (27 + nP (blk τ 4))) mv) 118 (1308 + 0) (blk τ 4 0 + 1) from rfl, blk_up, blk_up]
                funext j
                rw [setB_at]
                unfold up1
                rw [b8]
                unfold plB up1
                grind
              have w9 : wrd τ9 4 = up1 (wrd τ 4) (nP (blk τ 4)) d := by rw [wrd_cg (t113 120 (by decide)), r5, show 10 * 0 + nP (blk τ 4) = nP (blk τ 4) by omega]
              have c9 : Co σ9 τ9 t N := e4.cell (wS21_o g9 (by omega)) (wS21_o g9 (by omega)) (wS21_o g9 (by omega)) (t113 113 (by decide)) (t113 117 (by decide))
              have d9 : Dw σ9 τ9 := by
                refine ⟨g9.refW r1, f9.ref (by decide) r2, by rw [b9, w9]; exact k2, ?_, ⟨?_, ?_⟩, ?_⟩
                · rw [b9]
                  exact BV_setB hB8 (by omega) (by omega) (by omega) (by omega)
                · rw [wS21_o g9 (by omega), t113 113 (by decide)]; exact r6
                · rw [b9]
                  have o : ∀ j, j = 3 ∨ 55 ≤ j → setB (plB (blk τ 4)) (nP (blk τ 4)) n mv sv j = blk τ 4 j := fun j hj => by rw [setB_at, if_neg (by omega), if_neg (by omega), if_neg (by omega), if_neg (by omega), plB_o (by omega)]
                  exact hd.2.2.2.2.1.2.cg (o 3 (by omega)) (o 55 (by omega)) (o 56 (by omega))
                · intro p hp hs
                  rw [b9, stn_setB (by omega) hp, stn_pl] at hs
                  rw [w9]
                  by_cases q : p = nP (blk τ 4)
                  · rw [q] at hs; simp at hs
                  · rw [up1_ne q]
                    exact hd.2.2.2.2.2 p hp (by simpa [q] using hs)
              have F9 : Fw σ σ9 τ τ9 := ((((a5.trans b3.fw).trans c3.fw).trans d3.fw).trans e3.fw).trans ⟨fr_wS21 g9, f9⟩
              have at9 : σ9 3 = σ7 3 := wS21_o g9 (by omega)
              rcases j_end c9 d9 with ⟨σa, τa, x1, x2, x3, x4, x5, x6⟩ | ⟨σa, τa, x1, x2, x3, x4⟩
              · exact .inl ⟨σa, τa, by rw [x1, obs]; rfl, x2, x3, x4, F9.trans x5, by rw [at9] at x6; omega⟩
              · exact .inr ⟨σa, τa, by rw [x1, obs]; rfl, x2, x3, F9.trans x4⟩
            · rw [show f_X10_readPerhaps 20 4 1 9 3 σ6 = some (-1, σ7) from e1, obs, e2 (fun s ρ => f_X12_readStone_b65 113 (nP (blk τ 4) : Nat) n mv s ρ)]
              unfold f_X10_readStone_b106
              dsimp only
              rw [if_pos rfl, mb_65 e4.2.2, obs, endM_bad e4.2.2]
              exact .inr ⟨σ7, τ7, rfl, rfl, e4, (((a5.trans b3.fw).trans c3.fw).trans d3.fw).trans e3.fw⟩
          · rw [show f_X10_readPerhaps 20 3 0 9 0 σ5 = some (-1, σ6) from d1, obs, d2 (fun m ρ => f_X12_readStone_b42 113 (nP (blk τ 4) : Nat) n m ρ)]
            unfold f_X10_readStone_b106
            dsimp only
            rw [if_pos rfl, if_pos rfl, mb_42 d4.2.2, obs, endM_bad d4.2.2]
            exact .inr ⟨σ6, τ6, rfl, rfl, d4, ((a5.trans b3.fw).trans c3.fw).trans d3.fw⟩
        · rw [c1, obs, c2, obs]
          dsimp only
          rw [if_pos rfl, mb_moss c4.2.2, obs, endM_bad c4.2.2]
          exact .inr ⟨σ5, τ5, rfl, rfl, c4, (a5.trans b3.fw).trans c3.fw⟩
      · rw [show f_X7_takeWord 3 2 σ3 = some (0, σ4) from b1, obs, b2, obs, mb_count b4.2.2, obs]
        dsimp only
        rw [if_pos rfl, mb_moss b4.2.2, obs, endM_bad b4.2.2]
        exact .inr ⟨σ4, τ4, rfl, rfl, b4, a5.trans b3.fw⟩
    · rw [a3, obs, a1, obs, a6.at 20 0 3 rfl, gTx, obs, a2, obs]
      dsimp only
      rw [if_pos rfl, mb_rest a4.2.2, obs, endM_bad a4.2.2]
      exact .inr ⟨σ3, τ3, rfl, rfl, a4, a5⟩
  · obtain ⟨σ2, τ2, a1, a2, a3, a4⟩ := j_fail (c := 6) h (by decide) (by rw [hw]; decide)
    have en : f_X12_readNew 113 ((0 : Nat) : Int) ((10 : Nat) : Int) τ = some (0, τ2) := by
      unfold f_X12_readNew f_X12_readNew_b0 f_X12_readNew_b26
      simp only [oM, if_true, gM, obs, hd.2.1.at 113 20 118 rfl]
      rw [show al Sh τ 20 118 (w32 (1308 + ((0 : Nat) : Int))) = some (blk τ 4 0) from alB (j := 0) (by omega), obs, if_pos (by omega), a2, obs, if_neg (by have := a4.2.2; omega)]
    rw [if_neg z, if_neg (by decide), a1, obs, en, obs, mb_rest a4.2.2, obs, endM_bad a4.2.2]
    exact .inr ⟨σ2, τ2, rfl, rfl, a4, a3.fw⟩
end
