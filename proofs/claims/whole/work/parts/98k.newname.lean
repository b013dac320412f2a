/-! ===== a wall read: a new name; stone ===== -/
section
variable {σ σ' σ1 τ τ' τ1 : Mem} {t B D D' : Nat → Int} {N : Nat}
/-- the drafts while a part is read -/
def Dv (σ τ : Mem) (B D D' : Nat → Int) : Prop := Ref σ ∧ Ref τ ∧ WR σ 21 B D ∧ blk τ 4 = B ∧ wrd τ 4 = D' ∧ σ 20 2 = τ 113 24
theorem Dv.dl (hB : BV B) (h : Dv σ τ B D D') (d : Dl σ σ' τ τ') : Dv σ' τ' B D D' := by
  obtain ⟨h1, h2, h3, h4, h5, h6⟩ := h
  have f := d.fw
  refine ⟨f.1.ref (by decide) h1, f.2.ref (by decide) h2, ?_, by rw [blk_cg (d.m (b := 118) (by decide))]; exact h4, by rw [wrd_cg (d.m (b := 120) (by decide))]; exact h5, ?_⟩
  · exact h3.cg (fun b j q1 q2 => by rw [d.x (by omega)]) (fun _ _ => rfl) (fun _ _ => rfl) hB
  · rw [d.x (by decide), d.mr (by omega)]
    exact h6
theorem stD {j : Nat} {v : Int} (h : j < 14) : st_ Sh τ 21 120 ((56 + j : Nat) : Int) v = some (upm τ 120 (56 + j) v) := by
  have : isA Sh 21 120 ((56 + j : Nat) : Int) = true := isA_at (a := 120) (n := 70) rfl (by omega) (by omega)
  rw [st_at this, Int.toNat_natCast]
  rfl
/-- a new name -/
theorem j_new {s most k : Nat} (h : Co σ τ t N) (hd : Dw σ τ) (hw : σ 3 4 = 2) (hs : s ≤ 1) (hk : blk τ 4 s = k) (hk2 : k < most) (hm : most ≤ 10 ∧ (s = 1 → most ≤ 4)) :
    (∃ σ2 σ3 τ3 d, f_X7_step 3 σ = some σ2 ∧ f_X10_takeNewName 20 σ2 = some (1, σ3) ∧ f_X12_readNew 113 s most τ = some ((k : Int), τ3) ∧ Co σ3 τ3 t N ∧ Fw σ σ3 τ τ3 ∧ σ 3 5 < σ3 3 5 ∧ Nm (σ2 3 6) d ∧ Dv σ3 τ3 (blk τ 4) (wrd τ 4) (up1 (wrd τ 4) (10 * s + k) d) ∧ Ref σ2 ∧ ¬ d = 0) ∨
    (∃ σ2 σ3 τ3, f_X7_step 3 σ = some σ2 ∧ f_X10_takeNewName 20 σ2 = some (0, σ3) ∧ f_X12_readNew 113 s most τ = some (0, τ3) ∧ Bd σ3 τ3 ∧ Fw σ σ3 τ τ3 ∧ Ref σ2) := by
  have hB := hd.2.2.2.1
  obtain ⟨σ2, τ2, a1, a2, a3, a4, a5, a6, _⟩ := j_go h
  have d2 := hd.dl a3
  have eb := blk_cg (a3.m (b := 118) (by decide))
  have ew := wrd_cg (a3.m (b := 120) (by decide))
  have lt := a6 (by rw [hw]; decide)
  have tk := a4.2.1.kk
  have w1 : w32 (1308 + (s : Int)) = ((1308 + s : Nat) : Int) := by rw [w32_in (by omega) (by omega)]; omega
  have em : f_X12_readNew 113 s most τ = (if nmd (σ2 3) = true then f_X12_readNew_b50 113 s k τ2 else (f_X12_amiss 113 τ2).bind fun r11 => f_X12_readNew_b50 113 s k r11) := by
    unfold f_X12_readNew f_X12_readNew_b0 f_X12_readNew_b26
    simp only [oM, if_true, gM, obs, hd.2.1.at 113 20 118 rfl, w1]
    rw [alB (by omega), obs, hk, if_neg (by omega), if_pos (by rw [h.2.2]; decide), a2, obs, m_isName tk, obs, ifb]
  have ex : f_X10_takeNewName 20 σ2 = (if nmd (σ2 3) = true then (f_X9_stoneNamed 21 (σ2 3 6) σ2).bind fun r11 => if r11 = -1 then (f_X9_crowNamed 21 (σ2 3 6) σ2).bind fun r16 => if r16 = -1 then (f_X7_step 3 σ2).bind fun r19 => some (1, r19) else f_X10_takeNewName_b55 20 σ2 else f_X10_takeNewName_b55 20 σ2 else (f_X7_refuse 3 2 σ2).bind fun r5 => (bz r5.1).bind fun _ => some (r5.1, r5.2)) := by
    unfold f_X10_takeNewName f_X10_takeNewName_b0
    simp only [oWr, if_true, gWr, obs, d2.1.at 20 0 3 rfl, d2.1.at 20 1 21 rfl, gTx]
    rw [x_isName, obs, ifb]
  have e55 : ∀ σ' : Mem, f_X7_refuse 3 3 σ2 = some (0, σ') → f_X10_takeNewName_b55 20 σ2 = some (0, σ') := by
    intro σ' hr
    unfold f_X10_takeNewName_b55
    rw [gWr, obs, d2.1.at 20 0 3 rfl, hr, obs]
    rfl
  have b84 : ∀ ρ : Mem, 0 < ρ 113 12 → f_X12_readNew_b84 113 s k ρ = some (0, ρ) := by
    intro ρ hρ
    unfold f_X12_readNew_b84
    rw [gM, obs, if_neg (by omega)]
  by_cases z : nmd (σ2 3) = true
  · rw [if_pos z] at em ex
    obtain ⟨r1, s1, s2, s3⟩ := j_stoneNamed (a := 21) (b := 4) w21 d2.1 d2.2.1 (by omega) d2.2.2.1 d2.2.2.2.1 tk z
    obtain ⟨r2, c1, c2, c3⟩ := j_crowNamed (a := 21) (b := 4) w21 d2.1 d2.2.1 (by omega) d2.2.2.1 d2.2.2.2.1 tk z
    obtain ⟨nm, pos, w2⟩ := tk.nm z
    rw [show f_X9_stoneNamed 21 (σ2 3 6) σ2 = some r1 from s1, obs, show f_X9_crowNamed 21 (σ2 3 6) σ2 = some r2 from c1, obs] at ex
    unfold f_X12_readNew_b50 at em
    rw [gM, obs, if_pos a4.2.2, show f_X12_named 113 4 0 τ2 = some r1 from s2, obs, show f_X12_named 113 4 1 τ2 = some r2 from c2, obs] at em
    by_cases y : r1 = -1 ∧ r2 = -1
    · rw [if_pos y.1, if_pos y.2] at ex
      rw [if_neg (by omega), if_pos (by omega)] at em
      unfold f_X12_readNew_b84 at em
      have w3 : w32 (w32 (56 + w32 (10 * (s : Int))) + (k : Int)) = ((56 + (10 * s + k) : Nat) : Int) := by
        rw [w32_in (z := 10 * (s : Int)) (by omega) (by omega), w32_in (z := 56 + 10 * (s : Int)) (by omega) (by omega), w32_in (by omega) (by omega)]; omega
      rw [gM, obs, if_pos (by rw [a4.2.2]; decide), gM, obs, gM, obs, d2.2.1.at 113 22 120 rfl, w3, stD (by omega), obs] at em
      have c4 : Co σ2 (upm τ2 120 (56 + (10 * s + k)) (τ2 113 19)) t N := a4.cell rfl rfl rfl (upm_ne (by decide)) (upm_ne (by decide))
      obtain ⟨σ3, τ3, b1, b2, b3, b4, b5, b6, _⟩ := j_go c4
      refine .inl ⟨σ2, σ3, τ3, τ2 113 19, a1, by rw [ex, b1, obs], by rw [em, b2, obs], b4, (a3.fw.trans ⟨Fr.refl, fr_D⟩).trans b3.fw, by omega, nm, ?_, d2.1, by omega⟩
      refine Dv.dl hB ⟨d2.1, d2.2.1.up (isRf_cell rfl), ?_, ?_, ?_, ?_⟩ b3
      · have := d2.2.2.1
        rw [eb, ew] at this
        exact this
      · rw [blk_cg (upm_ne (by decide)), eb]
      · rw [wrd_up, ew]
      · rw [upm_o (by decide)]; exact d2.2.2.2.2.1.1
    · obtain ⟨σ3, τ3, b1, b2, b3, b4⟩ := j_fail (c := 3) a4 (by decide) (by rw [w2]; decide)
      have em2 : f_X12_readNew 113 s most τ = some (0, τ3) := by
        rw [em]
        have e75 : f_X12_readNew_b75 113 s k τ2 = some (0, τ3) := by
          unfold f_X12_readNew_b75
          rw [gM, obs, b2, obs, b84 τ3 b4.2.2]
        by_cases q : 0 ≤ r1
        · rw [if_pos q, e75]
        · rw [if_neg q, if_neg (by rcases c3 with c3 | ⟨p, c3, _⟩ <;> rcases s3 with s3 | ⟨p', s3, _⟩ <;> omega), e75]
      have ex2 : f_X10_takeNewName 20 σ2 = some (0, σ3) := by
        rw [ex, e55 σ3 b1]
        by_cases q : r1 = -1
        · rw [if_pos q, if_neg (fun w => y ⟨q, w⟩)]
        · rw [if_neg q]
      exact .inr ⟨σ2, σ3, τ3, a1, ex2, em2, b4, a3.fw.trans b3.fw, d2.1⟩
  · rw [if_neg z] at em ex
    obtain ⟨σ3, τ3, b1, b2, b3, b4⟩ := j_amiss a4
    refine .inr ⟨σ2, σ3, τ3, a1, by rw [ex, b1, obs]; rfl, ?_, b4, a3.fw.trans b3.fw, d2.1⟩
    rw [em, b2, obs]
    unfold f_X12_readNew_b50
    rw [gM, obs, if_neg (by have := b4.2.2; omega), b84 τ3 b4.2.2]
/-! what a fault leaves undone -/
theorem m_word_some {v : Int} : ∃ r, f_X12_isWord 113 v τ = some r ∧ (r = 0 ∨ r = 1) := by
  unfold f_X12_isWord f_X12_isWord_b0
  simp only [oM, if_true, gM, obs]
  by_cases q : τ 113 14 = 1
  · rw [if_pos q]
    by_cases r : lcmp (τ 113 19) v = 0
    · rw [if_pos r]; exact ⟨_, rfl, .inr rfl⟩
    · rw [if_neg r]; exact ⟨_, rfl, .inl rfl⟩
  · rw [if_neg q]; exact ⟨_, rfl, .inl rfl⟩
theorem s_isLen : ∃ r, f_X12_isLenient 113 τ = some r := by
  obtain ⟨r, h1, h2⟩ := @m_word_some τ (km 2)
  unfold f_X12_isLenient f_X12_isLenient_b0
  rw [if_pos oM, sp_o (p := 108) (v := ((ev 32 [12, 5, 14, 9, 5, 14] : Nat) : Int)) (by decide +kernel), obs, show w64 (w64 (w64 (((ev 32 [12, 5, 14, 9, 5, 14] : Nat) : Int) * 32) + 116) - 96) = km 2 by decide +kernel, h1, obs, bz_ok h2, obs]
  exact ⟨_, rfl⟩
theorem s_isMos : ∃ r, f_X12_isMoss 113 τ = some r := by
  obtain ⟨r, h1, h2⟩ := @m_word_some τ (km 3)
  unfold f_X12_isMoss f_X12_isMoss_b0
  rw [if_pos oM, sp_o (v := km 3) (by decide +kernel), obs, h1, obs, bz_ok h2, obs]
  exact ⟨_, rfl⟩
theorem s_isStr : ∃ r, f_X12_isStrong 113 τ = some r := by
  obtain ⟨r, h1, h2⟩ := @m_word_some τ (km 4)
  unfold f_X12_isStrong f_X12_isStrong_b0
  rw [if_pos oM, sp_o (v := km 4) (by decide +kernel), obs, h1, obs, bz_ok h2, obs]
  exact ⟨_, rfl⟩
theorem s_isOn : ∃ r, f_X12_isOn 113 τ = some r := by
  obtain ⟨r, h1, h2⟩ := @m_word_some τ (km 7)
  unfold f_X12_isOn f_X12_isOn_b0
  rw [if_pos oM, sp_o (v := km 7) (by decide +kernel), obs, h1, obs, bz_ok h2, obs]
  exact ⟨_, rfl⟩
theorem mb_65 {p l m s : Int} (h : 0 < τ 113 12) : f_X12_readStone_b65 113 p l m s τ = some τ := by
  unfold f_X12_readStone_b65
  rw [gM, obs, if_neg (by omega)]
theorem mb_42 {p l m : Int} (h : 0 < τ 113 12) : f_X12_readStone_b42 113 p l m τ = some τ := by
  obtain ⟨r, hr⟩ := @s_isStr τ
  unfold f_X12_readStone_b42
  rw [hr, obs, mb_perhaps h, obs]
  dsimp only
  rw [if_pos rfl, mb_65 h]
/-- a word that may stand, and its number -/
theorem j_perhaps {k : Nat} {lo hi wo v : Int} (h : Co σ τ t N) (hR : Ref σ) (hv : v = if isK (σ 3) k = true then 1 else 0) (hlo : 0 ≤ lo) : (∃ n σ' τ', f_X10_readPerhaps 20 k lo hi wo σ = some (n, σ') ∧ (∀ {α : Type} (f : Int → Mem → Option α), ((f_X12_perhaps 113 v τ).bind fun r => if r.1 = 0 then f wo r.2 else (f_X12_count 113 lo hi r.2).bind fun q => f q.1 q.2) = f n τ') ∧ Dl σ σ' τ τ' ∧ Co σ' τ' t N ∧ σ 3 5 ≤ σ' 3 5 ∧ (n = wo ∨ (lo ≤ n ∧ n ≤ hi))) ∨ (∃ m σ' τ', f_X10_readPerhaps 20 k lo hi wo σ = some (-1, σ') ∧ (∀ {α : Type} (f : Int → Mem → Option α), ((f_X12_perhaps 113 v τ).bind fun r => if r.1 = 0 then f wo r.2 else (f_X12_count 113 lo hi r.2).bind fun q => f q.1 q.2) = f m τ') ∧ Dl σ σ' τ τ' ∧ Bd σ' τ') := by
  unfold f_X10_readPerhaps f_X10_readPerhaps_b0 f_X12_perhaps f_X12_perhaps_b0
  simp only [oWr, oM, if_true, gWr, gM, obs, hR.at 20 0 3 rfl]
  rw [x_isWord, obs, ifb, if_neg (show ¬ 0 < τ 113 12 by rw [h.2.2]; decide)]
  by_cases q : isK (σ 3) k = true
  · rw [if_pos q] at hv ⊢
    rw [hv]
    obtain ⟨σ2, τ2, a1, a2, a3, a4, a5, a6, _⟩ := j_go h
    have hR2 : Ref σ2 := a3.fw.1.ref (by decide) hR
    rw [if_neg (by decide), a1, a2]
    simp only [obs, hR2.at 20 0 3 rfl, if_neg Int.one_ne_zero]
    rcases j_num (lo := lo) (hi := hi) a4 with ⟨n, σ3, τ3, b1, b2, b3, b4, b5, b6, b7, b8⟩ | ⟨σ3, τ3, b1, b2, b3, b4⟩
    · have hR3 : Ref σ3 := b3.fw.1.ref (by decide) hR2
      refine .inl ⟨n, σ3, τ3, ?_, fun f => by rw [b2]; rfl, a3.trans b3, b4, by omega, .inr ⟨b7, b8⟩⟩
      rw [b1, obs]
      dsimp only
      rw [if_neg (by decide), hR3.at 20 0 3 rfl, gTx, obs, b6]
    · refine .inr ⟨0, σ3, τ3, ?_, fun f => by rw [b2]; rfl, a3.trans b3, b4⟩
      rw [b1, obs]
      rfl
  · rw [if_neg q] at hv ⊢
    rw [hv]
    exact .inl ⟨wo, σ, τ, rfl, fun f => rfl, Dl.refl, h, Int.le_refl _, .inl rfl⟩
end
