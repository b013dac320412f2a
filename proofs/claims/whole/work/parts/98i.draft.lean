/-! ===== a wall read: both drafts ===== -/
section
variable {σ σ' σ1 τ τ' τ1 : Mem} {t : Nat → Int} {N : Nat}
theorem oWr : isO Sh 10 20 = true := rfl
theorem gWr {j : Nat} : gf Sh σ 10 20 j = some (σ 20 j) := gf_at oWr
theorem pWr {j : Nat} {v : Int} : pf Sh σ 10 20 j v = some (upm σ 20 j v) := pf_at oWr
theorem w21 : wl 21 := .inr (.inl rfl)
def Fw (σ σ' τ τ' : Mem) : Prop := Fr [0, 5] σ σ' ∧ Fr [20] τ τ'
theorem Fw.trans (h : Fw σ σ1 τ τ1) (g : Fw σ1 σ' τ1 τ') : Fw σ σ' τ τ' := ⟨h.1.trans g.1, h.2.trans g.2⟩
theorem Fw.refl : Fw σ σ τ τ := ⟨Fr.refl, Fr.refl⟩
theorem Dl.fw (h : Dl σ σ' τ τ') : Fw σ σ' τ τ' := by
  obtain ⟨V, W, rfl, rfl, h1, h2⟩ := h
  refine ⟨fr_setcA (a := 3) fun j hj => ?_, fr_setcA (a := 113) fun j hj => ?_⟩
  · have : 3 ≤ j ∧ j ≤ 11 := by
      refine Classical.byContradiction fun q => hj (h1 j (by omega))
    rcases (show j = 3 ∨ j = 4 ∨ j = 5 ∨ j = 6 ∨ j = 7 ∨ j = 8 ∨ j = 9 ∨ j = 10 ∨ j = 11 by omega) with rfl | rfl | rfl | rfl | rfl | rfl | rfl | rfl | rfl <;> decide
  · have : 12 ≤ j ∧ j ≤ 19 := by
      refine Classical.byContradiction fun q => hj (h2 j (by omega))
    rcases (show j = 12 ∨ j = 13 ∨ j = 14 ∨ j = 15 ∨ j = 16 ∨ j = 17 ∨ j = 18 ∨ j = 19 by omega) with rfl | rfl | rfl | rfl | rfl | rfl | rfl | rfl <;> decide
theorem Dl.x (h : Dl σ σ' τ τ') {b : Nat} (hb : ¬ b = 3) : σ' b = σ b := by
  obtain ⟨V, W, rfl, rfl, h1, h2⟩ := h
  exact setc_ne hb
theorem Dl.m (h : Dl σ σ' τ τ') {b : Nat} (hb : ¬ b = 113) : τ' b = τ b := by
  obtain ⟨V, W, rfl, rfl, h1, h2⟩ := h
  exact setc_ne hb
theorem Dl.mr (h : Dl σ σ' τ τ') {j : Nat} (hj : j < 12 ∨ 19 < j) : τ' 113 j = τ 113 j := by
  obtain ⟨V, W, rfl, rfl, h1, h2⟩ := h
  rw [setc_same]
  exact h2 j hj
def yt (B : Nat → Int) : Prop := B 3 ≤ 9999 ∧ B 55 = 0 ∧ B 56 = 0
theorem yt.cg {B B' : Nat → Int} (h : yt B) (h3 : B' 3 = B 3) (h5 : B' 55 = B 55) (h6 : B' 56 = B 56) : yt B' := by unfold yt; rw [h3, h5, h6]; exact h
/-- the two drafts of a wall -/
def Dw (σ τ : Mem) : Prop := Ref σ ∧ Ref τ ∧ WR σ 21 (blk τ 4) (wrd τ 4) ∧ BV (blk τ 4) ∧ (σ 20 2 = τ 113 24 ∧ yt (blk τ 4)) ∧ ∀ p, p < 10 → stn (blk τ 4) p = false → wrd τ 4 p = 0
theorem blk_cg (h : τ' 118 = τ 118) : blk τ' 4 = blk τ 4 := by unfold blk; rw [h]
theorem wrd_cg (h : τ' 120 = τ 120) : wrd τ' 4 = wrd τ 4 := by unfold wrd; rw [h]
theorem Dw.dl (h : Dw σ τ) (d : Dl σ σ' τ τ') : Dw σ' τ' := by
  obtain ⟨h1, h2, h3, h4, h5, h6⟩ := h
  have f := d.fw
  have e1 := blk_cg (d.m (b := 118) (by decide))
  have e2 := wrd_cg (d.m (b := 120) (by decide))
  refine ⟨f.1.ref (by decide) h1, f.2.ref (by decide) h2, ?_, by rw [e1]; exact h4, ⟨?_, by rw [e1]; exact h5.2⟩, by rw [e1, e2]; exact h6⟩
  · rw [e1, e2]
    exact h3.cg (fun b j q1 q2 => by rw [d.x (by omega)]) (fun _ _ => rfl) (fun _ _ => rfl) h4
  · rw [d.x (by decide), d.mr (by omega)]
    exact h5.1
/-- one part of the text, read by both -/
def PO (t : Nat → Int) (N : Nat) (σ τ : Mem) (fx : Option (Int × Mem)) (fm : Option Mem) : Prop :=
  (∃ σ' τ', fx = some (1, σ') ∧ fm = some τ' ∧ Co σ' τ' t N ∧ Dw σ' τ' ∧ Fw σ σ' τ τ' ∧ σ 3 5 < σ' 3 5) ∨ (∃ σ' τ', fx = some (0, σ') ∧ fm = some τ' ∧ Bd σ' τ' ∧ Fw σ σ' τ τ')
noncomputable def endM (τ : Mem) : Option Mem := (f_X12_isSign 113 59 τ).bind fun r => f_X12_must 113 r τ
theorem m_isSign' : ∃ r, f_X12_isSign 113 59 τ = some r := by
  unfold f_X12_isSign f_X12_isSign_b0
  simp only [oM, if_true, gM, obs]
  by_cases q : τ 113 14 = 3
  · rw [if_pos q]
    by_cases r : τ 113 17 = 59
    · rw [if_pos r]; exact ⟨_, rfl⟩
    · rw [if_neg r]; exact ⟨_, rfl⟩
  · rw [if_neg q]; exact ⟨_, rfl⟩
theorem endM_bad (h : 0 < τ 113 12) : endM τ = some τ := by
  obtain ⟨r, hr⟩ := @m_isSign' τ
  unfold endM
  rw [hr, obs, mb_must h]
/-- the sign behind a part -/
theorem j_end (h : Co σ τ t N) (hd : Dw σ τ) : (∃ σ' τ', f_X7_takeSign 3 59 σ = some (1, σ') ∧ endM τ = some τ' ∧ Co σ' τ' t N ∧ Dw σ' τ' ∧ Fw σ σ' τ τ' ∧ σ 3 5 ≤ σ' 3 5) ∨ (∃ σ' τ', f_X7_takeSign 3 59 σ = some (0, σ') ∧ endM τ = some τ' ∧ Bd σ' τ' ∧ Fw σ σ' τ τ') := by
  have e : endM τ = f_X12_must 113 (if decide (σ 3 4 = 4 ∧ σ 3 8 = ((59 : Nat) : Int)) = true then 1 else 0) τ := by
    unfold endM
    rw [show f_X12_isSign 113 59 τ = _ from m_isSign (k := 59) h.2.1.kk, obs]
  rw [e]
  rcases j_sign h rfl with ⟨σ', τ', a1, a2, a3, a4, a5⟩ | ⟨σ', τ', a1, a2, a3, a4⟩
  · exact .inl ⟨σ', τ', a1, a2, a4, hd.dl a3, a3.fw, a5⟩
  · exact .inr ⟨σ', τ', a1, a2, a4, a3.fw⟩
/-- x's cell of another group may change -/
theorem Co.cell (h : Co σ τ t N) (h3 : σ' 3 = σ 3) (h2 : σ' 2 = σ 2) (h4 : σ' 4 = σ 4) (k3 : τ' 113 = τ 113) (k7 : τ' 117 = τ 117) : Co σ' τ' t N := by
  obtain ⟨⟨⟨x1, x2, x3, x4, x5, x6⟩, ⟨y1, y2, y3, y4⟩⟩, h6, h7⟩ := h
  exact ⟨⟨by rw [h3]; exact ⟨x1, x2, x3, x4, by rw [h4]; exact x5, by rw [h2]; exact x6⟩, by rw [k3]; exact ⟨y1, y2, y3, by rw [k7]; exact y4⟩⟩, by rw [h3, k3]; exact h6, by rw [k3]; exact h7⟩
/-- and the reference's registers of no token -/
theorem Co.reg {j : Nat} {v : Int} (h : Co σ τ t N) (hj : 19 < j) : Co σ (upm τ 113 j v) t N := by
  obtain ⟨⟨hx, ⟨y1, y2, y3, y4⟩⟩, h6, h7⟩ := h
  have e : ∀ i, i < 20 → upm τ 113 j v 113 i = τ 113 i := fun i hi => by rw [upm_app, if_neg (by omega)]
  refine ⟨⟨hx, ⟨by rw [e 7 (by omega)]; exact y1, by rw [e 9 (by omega)]; exact y2, y3, fun i hi => by rw [upm_o (by decide)]; exact y4 i hi⟩⟩, ?_, by rw [e 12 (by omega)]; exact h7⟩
  obtain ⟨a, ee, k1, k2, k3, k4, k5, k6, k7, k8⟩ := h6
  refine ⟨a, ee, k1, by rw [e 15 (by omega)]; exact k2, k3, by rw [e 16 (by omega)]; exact k4, k5, k6, k7, ?_⟩
  unfold TKk at k8 ⊢
  rw [e 14 (by omega), e 17 (by omega), e 18 (by omega), e 19 (by omega)]
  exact k8
theorem blk_up {j : Nat} {v : Int} : blk (upm τ 118 (1308 + j) v) 4 = up1 (blk τ 4) j v := by
  funext i
  unfold blk up1
  rw [upm_app]
  by_cases q : i = j
  · rw [if_pos ⟨rfl, by omega⟩, if_pos q]
  · rw [if_neg (by omega), if_neg q]
theorem stB {j : Nat} {v : Int} (h : j < 327) : st_ Sh τ 20 118 ((1308 + j : Nat) : Int) v = some (upm τ 118 (1308 + j) v) := by
  rw [stC (by omega) (by omega), Int.toNat_natCast]
theorem alB {j : Nat} (h : j < 327) : al Sh τ 20 118 ((1308 + j : Nat) : Int) = some (blk τ 4 j) := by
  rw [alC (by omega) (by omega), Int.toNat_natCast]
  rfl
theorem fr_B {j : Nat} {v : Int} : Fr [20] τ (upm τ 118 (1308 + j) v) := Fr.up (by rw [gid118, if_neg (by omega), if_neg (by omega), if_neg (by omega)]; decide)
theorem j_odds (h : Co σ τ t N) (hd : Dw σ τ) (hw : σ 3 4 = 2) : PO t N σ τ (f_X10_readOdds 20 σ) ((f_X12_readOdds 113 τ).bind endM) := by
  obtain ⟨h1, h2, h3, h4, h5, h6⟩ := hd
  have hd : Dw σ τ := ⟨h1, h2, h3, h4, h5, h6⟩
  unfold f_X10_readOdds f_X10_readOdds_b0 f_X12_readOdds f_X12_readOdds_b0
  simp only [oWr, oM, if_true, gWr, pWr, gM, obs]
  by_cases z : σ 20 2 = 0
  · rw [if_pos z, if_pos (by rw [← h5.1]; exact z)]
    have r1 : Ref (upm σ 20 2 1) := h1.up rfl
    have c1 : Co (upm σ 20 2 1) (upm τ 113 24 1) t N := (h.reg (j := 24) (v := 1) (by omega)).cell (upm_ne (by decide)) (upm_ne (by decide)) (upm_ne (by decide)) rfl rfl
    have f1 : Fw σ (upm σ 20 2 1) τ (upm τ 113 24 1) := ⟨Fr.up (by decide), Fr.up (by decide)⟩
    have d1 : Dw (upm σ 20 2 1) (upm τ 113 24 1) := by
      have e1 : blk (upm τ 113 24 1) 4 = blk τ 4 := blk_cg (upm_ne (by decide))
      have e2 : wrd (upm τ 113 24 1) 4 = wrd τ 4 := wrd_cg (upm_ne (by decide))
      refine ⟨r1, h2.up rfl, ?_, by rw [e1]; exact h4, ⟨by rw [upm_same, upm_same], by rw [e1]; exact h5.2⟩, by rw [e1, e2]; exact h6⟩
      rw [e1, e2]
      exact h3.cg (fun b j q1 q2 => upm_o (by omega)) (fun _ _ => rfl) (fun _ _ => rfl) h4
    unfold f_X12_readOdds_b16
    simp only [gM, pM, obs]
    rw [if_pos (by rw [h.2.2]; decide), r1.at 20 0 3 rfl]
    obtain ⟨σ2, τ2, a1, a2, a3, a4, a5, a6, _⟩ := j_go c1
    have d2 := d1.dl a3
    have f2 := f1.trans a3.fw
    rw [a1, obs, d2.1.at 20 0 3 rfl, a2, obs, d2.2.1.at 113 20 118 rfl]
    have lt : σ 3 5 < σ2 3 5 := by
      have := a6 (by rw [upm_o (by decide), hw]; decide)
      rw [upm_o (by decide)] at this
      exact this
    rcases j_num (lo := 0) (hi := 16) a4 with ⟨n, σ3, τ3, b1, b2, b3, b4, b5, b6, b7, b8⟩ | ⟨σ3, τ3, b1, b2, b3, b4⟩
    · have d3 := d2.dl b3
      rw [b1, b2, obs, obs]
      dsimp only
      rw [if_neg (by decide), d3.1.at 20 1 21 rfl, d3.1.at 20 0 3 rfl, gTx, obs, show pf Sh σ3 9 21 11 (σ3 3 9) = some (upm σ3 21 11 (σ3 3 9)) from pW w21, obs, show st_ Sh τ3 20 118 1310 n = some (upm τ3 118 1310 n) from stB (j := 2) (by omega), obs, obs, b6]
      have r4 : Ref (upm σ3 21 11 n) := d3.1.up rfl
      have e1 : blk (upm τ3 118 1310 n) 4 = up1 (blk τ3 4) 2 n := blk_up (j := 2)
      have e2 : wrd (upm τ3 118 1310 n) 4 = wrd τ3 4 := wrd_cg (upm_ne (by decide))
      have c4 : Co (upm σ3 21 11 n) (upm τ3 118 1310 n) t N := b4.cell (upm_ne (by decide)) (upm_ne (by decide)) (upm_ne (by decide)) (upm_ne (by decide)) (upm_ne (by decide))
      have d4 : Dw (upm σ3 21 11 n) (upm τ3 118 1310 n) := by
        refine ⟨r4, d3.2.1.up (isRf_cell rfl), ?_, ?_, ⟨?_, ?_⟩, ?_⟩
        · rw [e1, e2]; exact d3.2.2.1.scal (k := 2) d3.2.2.2.1 (by omega)
        · rw [e1]; exact BV_od d3.2.2.2.1 ⟨b7, b8⟩
        · rw [upm_o (by decide), upm_o (by decide)]; exact d3.2.2.2.2.1.1
        · rw [e1]; exact d3.2.2.2.2.1.2.cg (up1_ne (by decide)) (up1_ne (by decide)) (up1_ne (by decide))
        · rw [e1, e2]; exact fun p hp hs => d3.2.2.2.2.2 p hp (by rw [stn_up (by omega)] at hs; exact hs)
      have f4 : Fw σ (upm σ3 21 11 n) τ (upm τ3 118 1310 n) := (f2.trans b3.fw).trans ⟨Fr.up (by decide), fr_B (j := 2)⟩
      rw [r4.at 20 0 3 rfl]
      have at4 : upm σ3 21 11 n 3 5 = σ3 3 5 := upm_o (by decide)
      rcases j_end c4 d4 with ⟨σ5, τ5, k1, k2, k3, k4, k5, k6⟩ | ⟨σ5, τ5, k1, k2, k3, k4⟩
      · refine .inl ⟨σ5, τ5, by rw [k1, obs]; rfl, k2, k3, k4, f4.trans k5, by rw [at4] at k6; omega⟩
      · exact .inr ⟨σ5, τ5, by rw [k1, obs]; rfl, k2, k3, f4.trans k4⟩
    · have d3 := d2.dl b3
      rw [b1, b2, obs, obs]
      dsimp only
      rw [if_pos rfl, show st_ Sh τ3 20 118 1310 0 = some (upm τ3 118 1310 0) from stB (j := 2) (by omega), obs, obs, endM_bad (by rw [upm_o (by decide)]; exact b4.2.2)]
      refine .inr ⟨σ3, _, rfl, rfl, ?_, (f2.trans b3.fw).trans ⟨Fr.refl, fr_B (j := 2)⟩⟩
      unfold Bd
      rw [upm_o (by decide), upm_o (by decide)]
      exact b4
  · obtain ⟨σ2, τ2, a1, a2, a3, a4⟩ := j_fail (c := 5) h (by decide) (by rw [hw]; decide)
    rw [if_neg z, if_neg (by rw [← h5.1]; exact z), h1.at 20 0 3 rfl, a1, obs, a2, obs]
    unfold f_X12_readOdds_b16
    rw [gM, obs, if_neg (by have := a4.2.2; omega), obs, endM_bad a4.2.2]
    exact .inr ⟨σ2, τ2, rfl, rfl, a4, a3.fw⟩
end
