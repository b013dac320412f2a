/-! ===== wall ===== -/
section
variable {σ σ' τ τ' s : Mem} {t : Nat → Int} {N : Nat}
theorem ok_wall {v : Int} (h : Rel σ) : Ok (f_X11_wall 0 v) (f_X12_wall 113 v) σ := by
  obtain ⟨⟨g1, g2, g3⟩, g4⟩ := h.2.2.2.2.1
  by_cases q : 0 ≤ v ∧ v ≤ σ 113 8
  · obtain ⟨n, rfl⟩ := nat_of q.1
    have fs : Fr [0, 1, 4] σ (upm (upm σ 0 19 0) 0 16 0) := (Fr.up (show gid 0 19 ∈ _ by decide)).then (by decide)
    have Rs := fs.ref (by decide) h.1
    generalize hS : upm (upm σ 0 19 0) 0 16 0 = s at *
    have s_o : ∀ b, ¬ b = 0 → s b = σ b := fun b hb => by rw [← hS, upm_ne hb, upm_ne hb]
    have s19 : s 0 19 = 0 := by rw [← hS, upm_app, if_neg (by decide), upm_same]
    have s16 : s 0 16 = 0 := by rw [← hS, upm_same]
    have ex : ∀ r σ', (f_X7_begin 3 n s).bind (f_X10_reads 20) = some (r, σ') → Ref σ' → f_X11_wall 0 n σ = if r = 0 then f_X11_wall_b56 0 10 0 σ' else f_X11_wall_b56 0 0 0 σ' := by
      intro r σ' he hR
      unfold f_X11_wall f_X11_wall_b0 f_X11_wall_b18
      rw [if_pos oX, if_neg (by omega), gX, obs, g1, if_pos q.2, s_ref0, obs]
      dsimp only
      rw [if_pos rfl, pX, obs, hS, gX, obs, Rs.at 0 2 3 rfl]
      cases qb : f_X7_begin 3 n s with
      | none => rw [qb] at he; cases he
      | some r6 =>
        rw [qb, obs] at he
        rw [obs, gX, obs]
        have : r6 0 5 = 20 := by
          have hb0 : ∀ i, i < 900 → s 2 i = σ 117 i ∧ -128 ≤ σ 117 i ∧ σ 117 i ≤ 127 := fun i hi => by rw [s_o 2 (by decide)]; exact g4 i hi
          obtain ⟨V, W, a1, _, _, a4, _⟩ := j_start (v := n) Rs h.1 (by rw [s_o 4 (by decide)]; exact h.2.2.2.2.2.2.2.2.2.2) hb0 (by omega)
          rw [qb] at a1
          rw [Option.some.inj a1]
          exact ((fr_x3 a4).ref (by decide) Rs).at 0 5 20 rfl
        rw [this, he, obs]
    have h4 : s 4 = SG 4 := by rw [s_o 4 (by decide)]; exact h.2.2.2.2.2.2.2.2.2.2
    have em : ∀ τ : Mem, τ 113 = σ 113 → f_X12_wall 113 n τ = mWall (rf2 τ) n := by
      intro τ ht
      have e8 : rf2 τ 113 8 = σ 113 8 := by unfold rf2; rw [upm_app, if_neg (by decide), upm_app, if_neg (by decide), ht]
      unfold f_X12_wall f_X12_wall_b0 f_X12_starts f_X12_starts_b0 mWall
      simp only [oM, if_true, gM, pM, obs, rf2_e, e8]
      rw [if_neg (by omega), if_neg (by omega), if_pos (by omega)]
      unfold st4
      cases f_X12_advance 113 (upm (upm (upm (upm (rf2 τ) 113 9 n) 113 8 0) 113 16 0) 113 12 0) with
      | none => rfl
      | some r => rfl
    have hb0 : ∀ i, i < 900 → s 2 i = σ 117 i ∧ -128 ≤ σ 117 i ∧ σ 117 i ≤ 127 := fun i hi => by rw [s_o 2 (by decide)]; exact g4 i hi
    have b2 : ∀ σ', Fr [0, 5] s σ' → Fr [0, 1, 4, 5, 6, 7] σ σ' := fun σ' f => (fs.mono (by decide)).trans (f.mono (by decide))
    rcases j_wall (n := n) Rs h.1 h4 hb0 (by omega) with ⟨σ', τd, a1, _, _, ad, a5, _, _⟩ | ⟨σ', τd, a1, _, _, a5, _, _⟩
    · have R' := a5.ref (by decide) Rs
      have R2 : Ref (upm σ' 0 19 0) := R'.up rfl
      have mkW : ∀ τ', Dw σ' τ' → WR (upm σ' 0 19 0) 21 (blk τ' 4) (wrd τ' 4) := fun τ' d => d.2.2.1.cg (fun b j q1 q2 => upm_o (by omega)) (fun _ _ => rfl) (fun _ _ => rfl) d.2.2.2.1
      obtain ⟨σ3, c1, _, c3⟩ := x_copyFrom (a := 5) (c := 21) (.inl rfl) w21 (by omega) R2 (mkW τd ad) ad.2.2.2.1
      have R3 := c3.refW R2
      have p14 : ∀ {ρ : Mem} {j : Nat} {v : Int}, pf Sh ρ 5 14 j v = some (upm ρ 14 j v) := pTm t14
      have f4 : Fr [0, 1, 4, 5, 6, 7] σ (upm (upm (upm σ3 14 0 0) 14 1 0) 14 2 0) := by
        refine (((Fr.trans ((b2 _ a5).then (show gid 0 19 ∈ _ by decide)) (Fp.mono c3 fun b j r => ?_)).then (show gid 14 0 ∈ _ by decide)).then (by decide)).then (by decide)
        unfold gs; rw [gid_wS r]; decide
      have R4 := f4.ref (by decide) h.1
      have hi := f4.hi (by decide)
      generalize hF : upm (upm (upm σ3 14 0 0) 14 1 0) 14 2 0 = σ4 at *
      have f4o : ∀ b, ¬ b = 14 → σ4 b = σ3 b := fun b hb => by rw [← hF, upm_ne hb, upm_ne hb, upm_ne hb]
      have exf : f_X11_wall 0 n σ = some (σ4 5 0, σ4) := by
        rw [ex 1 σ' a1 R', if_neg (by decide)]
        unfold f_X11_wall_b56
        rw [s_ref0, obs]
        dsimp only
        rw [if_pos rfl, gX, obs, gX, obs, R2.at 0 3 5 rfl, R2.at 0 5 20 rfl, gWr, obs, R2.at 20 1 21 rfl, show f_X9_copyFrom 5 21 (upm σ' 0 19 0) = some σ3 from c1, obs, gX, obs, R3.at 0 4 14 rfl]
        unfold f_X5_forget f_X5_forget_b0
        rw [if_pos (show isO Sh 5 14 = true from rfl), p14, obs, p14, obs, p14, obs, hF, obs, gX, obs, R4.at 0 3 5 rfl, w_g, obs]
      have Rr : Ref (rf2 σ4) := (R4.up rfl).up rfl
      have rr : ∀ b, ¬ b = 113 → rf2 σ4 b = σ4 b := fun b hb => by unfold rf2; rw [upm_ne hb, upm_ne hb]
      rcases j_wall (s := s) (τ := rf2 σ4) (n := n) Rs Rr h4 (fun i hi2 => by rw [rr 117 (by decide), hi 117 (by omega)]; exact hb0 i hi2) (by omega) with ⟨σx, τ', d1, d2, d3, d4, _, d6, d7⟩ | ⟨σx, τ', d1, _⟩
      · have es : σx = σ' := by rw [a1] at d1; exact (Prod.mk.inj (Option.some.inj d1)).2.symm
        subst es
        obtain ⟨σy, y1, y2, _⟩ := x_copyFrom (a := 5) (c := 21) (.inl rfl) w21 (by omega) R2 (mkW τ' d4) d4.2.2.2.1
        have ey : σy = σ3 := by rw [c1] at y1; exact (Option.some.inj y1).symm
        subst ey
        have f5 : Fr [11, 14, 15, 16, 17, 20] σ4 (upm (upm τ' 113 10 0) 113 11 (-1)) := ((Fr.trans (Fr.mono (fr_rf (v := 0)) (by decide)) (d6.mono (by decide))).then (show gid 113 10 ∈ _ by decide)).then (by decide)
        have R5m := f5.ref (by decide) R4
        have k8 : upm (upm τ' 113 10 0) 113 11 (-1) 118 = τ' 118 := by rw [upm_ne (by decide), upm_ne (by decide)]
        have k0 : upm (upm τ' 113 10 0) 113 11 (-1) 120 = τ' 120 := by rw [upm_ne (by decide), upm_ne (by decide)]
        have e := m_copy (f := 4) (t := 0) R5m (by omega) (by omega) (by omega)
        rw [k8, k0] at e
        generalize hZ : setc (setc (upm (upm τ' 113 10 0) 113 11 (-1)) 118 (cpB (τ' 118) 327 4 0 327)) 120 (cpB (τ' 120) 14 4 0 14) = σz at e
        have z113 : ∀ j, σz 113 j = upm (upm τ' 113 10 0) 113 11 (-1) 113 j := fun j => by rw [← hZ, setc_ne (by decide), setc_ne (by decide)]
        have zb : ∀ j, j < 327 → σz 118 j = blk τ' 4 j := fun j hj => by
          rw [← hZ, setc_ne (by decide), setc_same]; unfold cpB blk; rw [if_pos (by omega)]; congr 1
        have zd : ∀ j, j < 14 → σz 120 j = wrd τ' 4 j := fun j hj => by
          rw [← hZ, setc_same]; unfold cpB wrd; rw [if_pos (by omega)]; congr 1
        have f6 : Fr [11, 14, 15, 16, 17, 20] σ4 σz := by
          rw [← hZ]
          refine f5.trans (Fr.trans (fr_setcA (a := 118) fun j hj => ?_) (fr_setcA (a := 120) fun j hj => ?_))
          · rw [k8] at hj
            unfold cpB at hj
            rw [gid118]
            by_cases r : 327 * 0 ≤ j ∧ j < 327 * 0 + 327
            · by_cases r5 : j < 55
              · rw [if_pos r5]; decide
              · rw [if_neg r5, if_pos (by omega)]; decide
            · rw [if_neg r] at hj; exact absurd rfl hj
          · rw [setc_ne (by decide), k0] at hj
            unfold cpB at hj
            rw [gid120]
            by_cases r : 14 * 0 ≤ j ∧ j < 14 * 0 + 14
            · rw [if_pos (by omega)]; decide
            · rw [if_neg r] at hj; exact absurd rfl hj
        have Rz := f6.ref (by decide) R4
        have lo := f6.lo (by decide)
        have x50 : σ4 5 0 = blk τ' 4 0 := by rw [f4o 5 (by decide), y2.1.1]
        have hx3 : σ4 3 = σx 3 := by rw [f4o 3 (by decide)]; funext j; rw [c3 3 j (fun r => by obtain ⟨r1, _⟩ := r; omega), upm_o (by decide)]
        have h00 : ∀ j, ¬ j = 19 → σ4 0 j = σx 0 j := fun j hj => by rw [f4o 0 (by decide), c3 0 j (fun r => by obtain ⟨r1, _⟩ := r; omega), upm_app, if_neg (by omega)]
        have x16 : σx 0 16 = 0 := by rw [a5 0 16 (by unfold gs; decide), s16]
        have x19 : σ4 0 19 = 0 := by rw [f4o 0 (by decide), c3 0 19 (fun r => by obtain ⟨r1, _⟩ := r; omega), upm_same]
        refine ⟨_, σ4, σz, exf, ?_, h.step [0, 1, 4, 5, 6, 7, 11, 14, 15, 16, 17, 20] ((f4.mono (by decide)).trans (f6.mono (by decide))) (by decide) ?_ (fun q => absurd q (by decide)) (fun q => absurd q (by decide)) (fun _ => ?_) (fun _ => ?_) (fun _ => .inr ⟨⟨?_, ?_, ?_⟩, ?_⟩) (fun _ => ?_) (fun q => absurd q (by decide)) (fun q => absurd q (by decide))⟩
        · rw [em σ4 (hi 113 (by omega)), d2]
          unfold f_X12_wall_b64
          rw [m_isWell0 d3.2.2, obs]
          dsimp only
          rw [if_neg (by decide), show f_X12_copy 113 4 0 (upm (upm τ' 113 10 0) 113 11 (-1)) = some σz from e, obs, gM, obs, Rz.at 113 20 118 rfl, alC (by omega) (by omega), obs, show σz 118 (Int.toNat 0) = blk τ' 4 0 from zb 0 (by omega), x50]
        · rw [lo 0 (by omega), x19, z113, upm_app, if_neg (by decide), upm_app, if_neg (by decide), d6 113 0 (by unfold gs; decide)]
          rfl
        · have z8 : σz 113 8 = 0 := by rw [z113, upm_app, if_neg (by decide), upm_app, if_neg (by decide), d7.1]
          refine ⟨⟨by rw [lo 0 (by omega), h00 16 (by decide), x16, z8], by rw [z8]; decide, by rw [z8]; decide⟩, fun k hk => ?_⟩
          obtain ⟨w1, w2⟩ := d3.1.2.2.2.2 k hk
          have z7 : σz 117 k = τ' 117 k := by rw [← hZ, setc_ne (by decide), setc_ne (by decide), upm_o (by decide), upm_o (by decide)]
          have z2 : σz 2 k = s 2 k := by rw [lo 2 (by omega), f4o 2 (by decide), c3 2 k (fun r => by obtain ⟨r1, _⟩ := r; omega), upm_o (by decide), a5 2 k (by unfold gs; rw [show gid 2 k = 4 by unfold gid; rw [show isRf 2 k = false from isRf_cell rfl]; rfl]; decide)]
          rw [z7, z2, w1]
          exact ⟨rfl, w2⟩
        · obtain ⟨u1, u2⟩ := d3.1.1.2.2.2.2.2.2
          refine ⟨?_, ?_⟩
          · rw [lo 3 (by omega), hx3, u1, z113, upm_app, if_neg (by decide), upm_same]
          · rw [lo 3 (by omega), hx3, u2, z113, upm_same]
        · exact y2.cg (fun b j q1 q2 => by rw [lo b (by omega), f4o b (by omega)]) (fun j hj => zb j (by omega)) zd d4.2.2.2.1
        · exact d4.2.2.2.1.cg (fun j hj => zb j (by omega))
        · rw [zb 3 (by omega)]; exact d4.2.2.2.2.1.2.1
        all_goals
          have e14 : ∀ j, j < 3 → σz 14 j = 0 := fun j hj => by
            rw [lo 14 (by omega), ← hF]
            rcases (show j = 0 ∨ j = 1 ∨ j = 2 by omega) with rfl | rfl | rfl
            · rw [upm_app, if_neg (by decide), upm_app, if_neg (by decide), upm_same]
            · rw [upm_app, if_neg (by decide), upm_same]
            · rw [upm_same]
          have e55 : σz 118 55 = 0 := by rw [zb 55 (by omega)]; exact d4.2.2.2.2.1.2.2.1
          have e56 : σz 118 56 = 0 := by rw [zb 56 (by omega)]; exact d4.2.2.2.2.1.2.2.2
          refine ⟨by rw [e14 0 (by omega), e55], .inl e55, by rw [e14 1 (by omega), e56], by rw [e56]; decide, by rw [e14 2 (by omega)]; decide, 0, ?_⟩
          rw [e56, e14 2 (by omega)]
          exact ⟨rfl, rfl⟩
      · rw [a1] at d1; cases (Prod.mk.inj (Option.some.inj d1)).1
    · have R' := a5.ref (by decide) Rs
      have f4 : Fr [0, 1, 4, 5, 6, 7] σ (upm σ' 0 19 10) := (b2 _ a5).then (show gid 0 19 ∈ _ by decide)
      have R4 := f4.ref (by decide) h.1
      have hi := f4.hi (by decide)
      have exf : f_X11_wall 0 n σ = some (-1, upm σ' 0 19 10) := by
        rw [ex 0 σ' a1 R', if_pos rfl]
        unfold f_X11_wall_b56
        rw [s_refn (by decide), obs]
        rfl
      have Rr : Ref (rf2 (upm σ' 0 19 10)) := (R4.up rfl).up rfl
      have rr : ∀ b, ¬ b = 113 → rf2 (upm σ' 0 19 10) b = upm σ' 0 19 10 b := fun b hb => by unfold rf2; rw [upm_ne hb, upm_ne hb]
      rcases j_wall (s := s) (τ := rf2 (upm σ' 0 19 10)) (n := n) Rs Rr h4 (fun i hi2 => by rw [rr 117 (by decide), hi 117 (by omega)]; exact hb0 i hi2) (by omega) with ⟨σx, τ', d1, _⟩ | ⟨σx, τ', d1, d2, d3, d5, d6, d7⟩
      · rw [a1] at d1; cases (Prod.mk.inj (Option.some.inj d1)).1
      · have es : σx = σ' := by rw [a1] at d1; exact (Prod.mk.inj (Option.some.inj d1)).2.symm
        subst es
        have f0 : Fr [0, 1, 4, 5] σ (upm σx 0 19 10) := ((fs.mono (by decide)).trans (a5.mono (by decide))).then (by decide)
        have f6 : Fr [11, 14, 15, 20] (upm σx 0 19 10) (upm (upm (upm τ' 113 10 (τ' 113 12)) 113 11 (τ' 113 13)) 113 0 10) := (((Fr.trans (Fr.mono (fr_rf (v := 0)) (by decide)) (d6.mono (by decide))).then (show gid 113 10 ∈ _ by decide)).then (by decide)).then (by decide)
        have lo := f6.lo (by decide)
        generalize hZ : upm (upm (upm τ' 113 10 (τ' 113 12)) 113 11 (τ' 113 13)) 113 0 10 = σz at *
        refine ⟨_, upm σx 0 19 10, σz, exf, ?_, h.step [0, 1, 4, 5, 11, 14, 15, 20] ((f0.mono (by decide)).trans (f6.mono (by decide))) (by decide) ?_ (fun q => absurd q (by decide)) (fun q => absurd q (by decide)) (fun _ => ?_) (fun _ => ?_) (fun q => absurd q (by decide)) (fun q => absurd q (by decide)) (fun q => absurd q (by decide)) (fun q => absurd q (by decide))⟩
        · rw [em _ (hi 113 (by omega)), d2]
          unfold f_X12_wall_b64
          rw [m_isWell1 d3.2.2, obs, hZ]
          rfl
        · rw [lo 0 (by omega), upm_same, ← hZ, upm_same]
        · have z8 : σz 113 8 = 0 := by rw [← hZ, upm_app, if_neg (by decide), upm_app, if_neg (by decide), upm_app, if_neg (by decide), d7.1]
          refine ⟨⟨by rw [lo 0 (by omega), upm_app, if_neg (by decide), a5 0 16 (by unfold gs; decide), s16, z8], by rw [z8]; decide, by rw [z8]; decide⟩, fun k hk => ?_⟩
          have z7 : σz 117 k = σ 117 k := by rw [← hZ, upm_o (by decide), upm_o (by decide), upm_o (by decide), d7.2, rr 117 (by decide), hi 117 (by omega)]
          have z2 : σz 2 k = s 2 k := by rw [lo 2 (by omega), upm_o (by decide), a5 2 k (by unfold gs; rw [show gid 2 k = 4 by unfold gid; rw [show isRf 2 k = false from isRf_cell rfl]; rfl]; decide)]
          rw [z7, z2]
          exact hb0 k hk
        · refine ⟨?_, ?_⟩
          · rw [lo 3 (by omega), upm_o (by decide), d3.1, ← hZ, upm_app, if_neg (by decide), upm_app, if_neg (by decide), upm_same]
          · rw [lo 3 (by omega), upm_o (by decide), d3.2.1, ← hZ, upm_app, if_neg (by decide), upm_same]
  · refine Ok.mk (r := -1) (y := 5) h (XO.mk ?_) fun τ ht hg => MO.mkr ?_
    · have e13 : f_X11_wall_b13 0 v 0 σ = some (-1, upm σ 0 19 5) := by
        unfold f_X11_wall_b13 f_X11_wall_b18
        rw [s_refn (by decide), obs]
        rfl
      unfold f_X11_wall f_X11_wall_b0
      rw [if_pos oX, e13, gX, obs, g1]
      by_cases z : v < 0
      · rw [if_pos z]
      · rw [if_neg z, if_neg (by omega)]
    · have e8 : rf2 τ 113 8 = σ 113 8 := by unfold rf2; rw [upm_app, if_neg (by decide), upm_app, if_neg (by decide), hg 113 (by omega)]
      have e17 : f_X12_starts_b17 113 (rf2 τ) = some (0, upm (rf2 τ) 113 0 5) := by
        unfold f_X12_starts_b17
        rw [s_no, obs]
        rfl
      unfold f_X12_wall f_X12_wall_b0 f_X12_starts f_X12_starts_b0
      simp only [oM, if_true, gM, pM, obs, rf2_e, e8, e17]
      by_cases z : v < 0
      · rw [if_pos z, obs]; rfl
      · rw [if_neg z, if_pos (by omega), obs]; rfl
end
