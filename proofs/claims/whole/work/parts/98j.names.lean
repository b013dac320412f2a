/-! ===== a wall read: names, gap ===== -/
section
variable {σ σ' σ1 τ τ' τ1 : Mem} {t B' D' : Nat → Int} {N : Nat}
theorem fr_wS21 (h : Fp (wS 21) σ σ') : Fr [0, 5] σ σ' := Fp.mono h fun b j q => by unfold gs; rw [gid_wS21 q]; decide
theorem wS21_o {b : Nat} (h : Fp (wS 21) σ σ') (hb : b < 21 ∨ 29 < b) : σ' b = σ b := by
  funext j
  exact h b j fun q => by obtain ⟨q1, q2, _⟩ := q; omega
/-- both drafts changed -/
theorem Dw.wall (hd : Dw σ τ) (h : Co σ τ t N) (f : Fp (wS 21) σ σ') (w : WR σ' 21 B' D') (g : Fr [20] τ τ') (e3 : τ' 113 = τ 113) (e7 : τ' 117 = τ 117) (e1 : blk τ' 4 = B') (e2 : wrd τ' 4 = D') (hB : BV B') (hy : yt B') (hn : ∀ p, p < 10 → stn B' p = false → D' p = 0) : Dw σ' τ' ∧ Co σ' τ' t N ∧ Fw σ σ' τ τ' := by
  obtain ⟨h1, h2, h3, h4, h5, h6⟩ := hd
  refine ⟨⟨f.refW h1, g.ref (by decide) h2, by rw [e1, e2]; exact w, by rw [e1]; exact hB, ⟨?_, by rw [e1]; exact hy⟩, by rw [e1, e2]; exact hn⟩, h.cell (wS21_o f (by omega)) (wS21_o f (by omega)) (wS21_o f (by omega)) e3 e7, fr_wS21 f, g⟩
  rw [wS21_o f (by omega), e3]
  exact h5.1
theorem wrd_up {j : Nat} {v : Int} : wrd (upm τ 120 (56 + j) v) 4 = up1 (wrd τ 4) j v := by
  funext i
  unfold wrd up1
  rw [upm_app]
  by_cases q : i = j
  · rw [if_pos ⟨rfl, by omega⟩, if_pos q]
  · rw [if_neg (by omega), if_neg q]
theorem fr_D {j : Nat} {v : Int} : Fr [20] τ (upm τ 120 (56 + j) v) := Fr.up (by rw [gid120, if_neg (by omega), if_neg (by omega)]; decide)
theorem x_isFull21 (h : Dw σ τ) : f_X9_isFull 21 σ = some (if blk τ 4 0 < 10 then 0 else 1) := by
  unfold f_X9_isFull f_X9_isFull_b0
  rw [if_pos (show isO Sh 9 21 = true from oW w21), show gf Sh σ 9 21 0 = some (σ 21 0) from gW w21, obs, h.2.2.1.1.1]
  split <;> rfl
/-- gap -/
theorem j_gap (h : Co σ τ t N) (hd : Dw σ τ) (hw : σ 3 4 = 2) : PO t N σ τ (f_X10_readGap 20 σ) ((f_X12_readGap 113 τ).bind endM) := by
  have hB := hd.2.2.2.1
  have hn := hB.nP_le
  unfold f_X10_readGap f_X10_readGap_b0 f_X12_readGap f_X12_readGap_b0
  simp only [oWr, oM, if_true, gWr, gM, obs, hd.1.at 20 1 21 rfl, hd.1.at 20 0 3 rfl, hd.2.1.at 113 20 118 rfl, x_isFull21 hd]
  rw [show al Sh τ 20 118 1308 = some (blk τ 4 0) from alB (j := 0) (by omega), obs]
  by_cases z : blk τ 4 0 < 10
  · rw [if_pos z, if_pos rfl, if_neg (by omega)]
    obtain ⟨σ2, τ2, a1, a2, a3, a4, a5, a6, _⟩ := j_go h
    have d2 := hd.dl a3
    have eb := blk_cg (a3.m (b := 118) (by decide))
    have hB2 := d2.2.2.2.1
    have hst : stn (blk τ2 4) (nP (blk τ2 4)) = false := by
      have := (hB2.2.2.2.2.1 (nP (blk τ2 4)) (by rw [eb]; omega)).2.2.2.2.2 (by have := hB2.nP_le; omega)
      unfold stn
      rw [this]
      decide
    obtain ⟨σ3, b1, b2, b3⟩ := x_addPlace (v := 0) (d := 0) w21 d2.1 d2.2.2.1 hB2 (by rw [eb]; omega) Nm_0
    have e0 : w32 (blk τ2 4 0 + 1) = blk τ2 4 0 + 1 := by rw [eb]; exact w32_in (by omega) (by omega)
    have eD : up1 (wrd τ2 4) (nP (blk τ2 4)) 0 = wrd τ2 4 := up1_me (d2.2.2.2.2.2 _ (by rw [eb]; omega) hst)
    rw [eD] at b2
    have k := Dw.wall (τ' := upm τ2 118 1308 (blk τ2 4 0 + 1)) d2 a4 b3 b2 (fr_B (j := 0)) (upm_ne (by decide)) (upm_ne (by decide)) (blk_up (j := 0)) (wrd_cg (upm_ne (by decide))) (BV_pl hB2 (by rw [eb]; omega)) (d2.2.2.2.2.1.2.cg (plB_o (by decide)) (plB_o (by decide)) (plB_o (by decide))) (fun p hp hs => d2.2.2.2.2.2 p hp (by rw [stn_pl] at hs; exact hs))
    obtain ⟨d3, c3, f3⟩ := k
    unfold f_X12_readGap_b23 f_X9_addGap f_X9_addGap_b0
    simp only [gM, obs, oW w21]
    rw [if_pos (by rw [h.2.2]; decide), a1, obs, d2.1.at 20 1 21 rfl, if_pos (show isO Sh 9 21 = true from oW w21), show f_X9_addPlace 21 0 σ2 = some σ3 from b1, obs, obs, d3.1.at 20 0 3 rfl, a2, obs, d2.2.1.at 113 20 118 rfl, show al Sh τ2 20 118 1308 = some (blk τ2 4 0) from alB (j := 0) (by omega), obs, e0, show st_ Sh τ2 20 118 1308 (blk τ2 4 0 + 1) = some (upm τ2 118 1308 (blk τ2 4 0 + 1)) from stB (j := 0) (by omega), obs, obs]
    have lt := a6 (by rw [hw]; decide)
    have at3 : σ3 3 = σ2 3 := wS21_o b3 (by omega)
    rcases j_end c3 d3 with ⟨σ5, τ5, k1, k2, k3, k4, k5, k6⟩ | ⟨σ5, τ5, k1, k2, k3, k4⟩
    · refine .inl ⟨σ5, τ5, by rw [k1, obs]; rfl, k2, k3, k4, (a3.fw.trans f3).trans k5, by rw [at3] at k6; omega⟩
    · exact .inr ⟨σ5, τ5, by rw [k1, obs]; rfl, k2, k3, (a3.fw.trans f3).trans k4⟩
  · obtain ⟨σ2, τ2, a1, a2, a3, a4⟩ := j_fail (c := 6) h (by decide) (by rw [hw]; decide)
    rw [if_neg z, if_neg (by decide), if_pos (by omega), a1, obs, a2, obs]
    unfold f_X12_readGap_b23
    rw [gM, obs, if_neg (by have := a4.2.2; omega), obs, endM_bad a4.2.2]
    exact .inr ⟨σ2, τ2, rfl, rfl, a4, a3.fw⟩
/-! names -/
theorem m_named {b s n : Nat} (hR : Ref τ) (hb : b ≤ 4) (hs : s ≤ 1) (hn : blk τ b s = n) (hn2 : n ≤ 10 ∧ (s = 1 → n ≤ 4)) : f_X12_named 113 b s τ = some (ff (fun p => decide (wrd τ b (10 * s + p) = τ 113 19)) n 0) := by
  unfold f_X12_named f_X12_named_b0
  rw [if_pos oM]
  have w1 : w32 (w32 (327 * (b : Int)) + (s : Int)) = ((327 * b + s : Nat) : Int) := by rw [w32_in (z := 327 * (b : Int)) (by omega) (by omega), w32_in (by omega) (by omega)]; omega
  have w2 : w32 (w32 (14 * (b : Int)) + w32 (10 * (s : Int))) = ((14 * b + 10 * s : Nat) : Int) := by rw [w32_in (z := 14 * (b : Int)) (by omega) (by omega), w32_in (z := 10 * (s : Int)) (by omega) (by omega), w32_in (by omega) (by omega)]; omega
  have e : al Sh τ 20 118 ((327 * b + s : Nat) : Int) = some (n : Int) := by rw [alC (by omega) (by omega), Int.toNat_natCast]; exact congrArg some hn
  refine up_all (Q := fun m i => f_X12_named_h2 m 113 b s (i : Int) τ = some (ff (fun p => decide (wrd τ b (10 * s + p) = τ 113 19)) n i)) n (fun m => ?_) (fun m i hi ih => ?_) (by unfold FU; omega)
  · rw [hs_X12_named_h2]
    unfold f_X12_named_b2
    rw [gM, obs, hR.at 113 20 118 rfl, w1, e, obs, if_pos (Int.le_refl _), ff_N]
  · rw [hs_X12_named_h2]
    unfold f_X12_named_b2
    simp only [gM, obs, hR.at 113 20 118 rfl, hR.at 113 22 120 rfl, w1, w2, e, lcmp_eq]
    rw [if_neg (by omega), w32_in (z := ((14 * b + 10 * s : Nat) : Int) + (i : Int)) (by omega) (by omega), alWd (by omega) (by omega), obs, wkk1 (by omega), ih, ff_s hi, show (((14 * b + 10 * s : Nat) : Int) + (i : Int)).toNat = 14 * b + (10 * s + i) by omega]
    by_cases q : τ 120 (14 * b + (10 * s + i)) = τ 113 19
    · rw [if_pos q, if_pos (by show decide (wrd τ b (10 * s + i) = τ 113 19) = true; exact decide_eq_true q)]
    · rw [if_neg q, if_neg (by show ¬ decide (wrd τ b (10 * s + i) = τ 113 19) = true; rw [decide_eq_true_iff]; exact q)]
theorem TKk.nm {V W : Nat → Int} (h : TKk V W) (hn : nmd V = true) : Nm (V 6) (W 19) ∧ 0 < W 19 ∧ V 4 = 2 := by
  unfold nmd at hn
  rw [decide_eq_true_iff] at hn
  rcases h with h | h | h | h | ⟨h1, h2, h3, ⟨h4, h5⟩ | ⟨h4, h5, h6⟩⟩
  · omega
  · omega
  · omega
  · omega
  · exact ⟨h4, h5.2, h1⟩
  · exact absurd h4 hn.2.2
/-- the place of a name -/
theorem j_stoneNamed {a b : Nat} (hW : wl a) (h1 : Ref σ) (h2 : Ref τ) (hb : b ≤ 4) (h : WR σ a (blk τ b) (wrd τ b)) (hB : BV (blk τ b)) (hk : TKk (σ 3) (τ 113)) (hn : nmd (σ 3) = true) : ∃ r : Int, f_X9_stoneNamed a (σ 3 6) σ = some r ∧ f_X12_named 113 b 0 τ = some r ∧ (r = -1 ∨ ∃ p : Nat, r = p ∧ p < nP (blk τ b) ∧ wrd τ b p = τ 113 19) := by
  have np := hB.nP_le
  obtain ⟨nm, pos, _⟩ := hk.nm hn
  refine ⟨ff (fun p => decide (σ (a + 5) p = σ 3 6)) (nP (blk τ b)) 0, x_stoneNamed hW h1 h hB, ?_, ?_⟩
  · rw [show f_X12_named 113 b 0 τ = _ from m_named (s := 0) (n := nP (blk τ b)) h2 hb (by omega) np.2.symm ⟨np.1, by omega⟩]
    congr 1
    refine ff_cg fun k _ hk2 => ?_
    have := (h.2.2.2.1 k hk2).inj nm
    rw [show 10 * 0 + k = k by omega]
    by_cases q : wrd τ b k = τ 113 19
    · rw [decide_eq_true q, decide_eq_true (this.mpr q)]
    · rw [decide_eq_false q, decide_eq_false (fun w => q (this.mp w))]
  · rcases ff_spec (fun p => decide (σ (a + 5) p = σ 3 6)) (nP (blk τ b)) 0 with ⟨q, _⟩ | ⟨k, q1, _, q3, q4, _⟩
    · exact .inl q
    · exact .inr ⟨k, q1, q3, ((h.2.2.2.1 k q3).inj nm).mp (of_decide_eq_true q4)⟩
theorem j_crowNamed {a b : Nat} (hW : wl a) (h1 : Ref σ) (h2 : Ref τ) (hb : b ≤ 4) (h : WR σ a (blk τ b) (wrd τ b)) (hB : BV (blk τ b)) (hk : TKk (σ 3) (τ 113)) (hn : nmd (σ 3) = true) : ∃ r : Int, f_X9_crowNamed a (σ 3 6) σ = some r ∧ f_X12_named 113 b 1 τ = some r ∧ (r = -1 ∨ ∃ p : Nat, r = p ∧ p < nK (blk τ b)) := by
  have np := hB.nK_le
  obtain ⟨nm, pos, _⟩ := hk.nm hn
  refine ⟨ff (fun p => decide (σ (a + 8) p = σ 3 6)) (nK (blk τ b)) 0, x_crowNamed hW h1 h hB, ?_, ?_⟩
  · rw [show f_X12_named 113 b 1 τ = _ from m_named (s := 1) (n := nK (blk τ b)) h2 hb (by omega) np.2.symm ⟨by omega, fun _ => np.1⟩]
    congr 1
    refine ff_cg fun k _ hk2 => ?_
    have := (h.2.2.2.2 k hk2).inj nm
    rw [show 10 * 1 + k = 10 + k by omega]
    by_cases q : wrd τ b (10 + k) = τ 113 19
    · rw [decide_eq_true q, decide_eq_true (this.mpr q)]
    · rw [decide_eq_false q, decide_eq_false (fun w => q (this.mp w))]
  · rcases ff_spec (fun p => decide (σ (a + 8) p = σ 3 6)) (nK (blk τ b)) 0 with ⟨q, _⟩ | ⟨k, q1, _, q3, q4, _⟩
    · exact .inl q
    · exact .inr ⟨k, q1, q3⟩
end
