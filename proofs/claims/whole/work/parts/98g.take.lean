/-! ===== texts: what both take ===== -/
section
variable {σ σ' τ τ' : Mem} {V W V' W' t : Nat → Int} {N a : Nat}
/-- both read, at one token, no FAULT yet -/
def Co (σ τ : Mem) (t : Nat → Int) (N : Nat) : Prop := Rd σ τ t N ∧ TK N (σ 3) (τ 113) ∧ τ 113 12 = 0
/-- what taking a token changes -/
def Dl (σ σ' τ τ' : Mem) : Prop := ∃ V W, σ' = setc σ 3 V ∧ τ' = setc τ 113 W ∧ (∀ j, j < 3 ∨ 11 < j → V j = σ 3 j) ∧ ∀ j, j < 12 ∨ 19 < j → W j = τ 113 j
/-- both found the same FAULT -/
def Bd (σ τ : Mem) : Prop := σ 3 10 = τ 113 12 ∧ σ 3 11 = τ 113 13 ∧ 0 < τ 113 12
theorem Dl.refl : Dl σ σ τ τ := ⟨σ 3, τ 113, setc_me.symm, setc_me.symm, fun _ _ => rfl, fun _ _ => rfl⟩
theorem setc2 {c : Nat} {f g : Nat → Int} : setc (setc σ c f) c g = setc σ c g := by
  funext b
  by_cases q : b = c
  · rw [q, setc_same, setc_same]
  · rw [setc_ne q, setc_ne q, setc_ne q]
theorem Dl.trans {σ1 τ1 : Mem} (h : Dl σ σ1 τ τ1) (g : Dl σ1 σ' τ1 τ') : Dl σ σ' τ τ' := by
  obtain ⟨V, W, rfl, rfl, h1, h2⟩ := h
  obtain ⟨V', W', rfl, rfl, g1, g2⟩ := g
  exact ⟨V', W', setc2, setc2, fun j hj => by rw [g1 j hj, setc_same, h1 j hj], fun j hj => by rw [g2 j hj, setc_same, h2 j hj]⟩
theorem TK.kk (h : TK N V W) : TKk V W := by obtain ⟨_, _, _, _, _, _, _, _, _, h⟩ := h; exact h
theorem TK.at_ (h : TK N V W) : V 5 = W 15 := by obtain ⟨a, e, h1, h2, _⟩ := h; rw [h1, h2]
theorem TKk.bad (h : TKk V W) : V 4 = 1 ↔ W 14 = 4 := by rcases h with h | h | h | h | h <;> omega
theorem TKk.num (h : TKk V W) : V 4 = 3 ↔ W 14 = 2 := by rcases h with h | h | h | h | h <;> omega
theorem TKk.val (h : TKk V W) (h3 : V 4 = 3) : V 8 = W 17 ∧ 0 ≤ W 17 ∧ W 17 ≤ 9999 := by rcases h with h | h | h | h | h <;> omega
theorem TKk.sgn (h : TKk V W) : V 4 = 4 ↔ W 14 = 3 := by rcases h with h | h | h | h | h <;> omega
theorem TKk.sval (h : TKk V W) (h3 : V 4 = 4) : V 8 = W 17 ∧ 59 ≤ W 17 ∧ W 17 ≤ 62 := by rcases h with h | h | h | h | h <;> omega
theorem TKk.end_ (h : TKk V W) : V 4 = 0 ↔ W 14 = 0 := by rcases h with h | h | h | h | h <;> omega
theorem x_refuse {c : Int} : f_X7_refuse 3 c σ = some (0, upm (upm σ 3 10 (if σ 3 4 = 1 then 1 else c)) 3 11 (σ 3 5)) := by
  unfold f_X7_refuse f_X7_refuse_b0 f_X7_refuse_b14
  simp only [oTxt, if_true, gTx, pTx, obs]
  by_cases q : σ 3 4 = 1
  · rw [if_pos q, if_pos q, upm_app, if_neg (by omega)]
  · rw [if_neg q, if_neg q, upm_app, if_neg (by omega)]
theorem m_fail {c w : Int} (h : τ 113 12 = 0) : f_X12_fail 113 c w τ = some (upm (upm τ 113 12 c) 113 13 w) := by
  unfold f_X12_fail f_X12_fail_b0
  simp only [oM, if_true, gM, pM, obs]
  rw [if_pos (by omega)]
theorem mb_fail {c w : Int} (h : 0 < τ 113 12) : f_X12_fail 113 c w τ = some τ := by
  unfold f_X12_fail f_X12_fail_b0
  simp only [oM, if_true, gM, pM, obs]
  rw [if_neg (by omega)]
theorem m_amiss (h : τ 113 12 = 0) : f_X12_amiss 113 τ = some (upm (upm τ 113 12 (if τ 113 14 = 4 then 1 else 2)) 113 13 (τ 113 15)) := by
  unfold f_X12_amiss f_X12_amiss_b0 f_X12_amiss_b14
  simp only [oM, if_true, gM, obs, m_fail h]
  split <;> rfl
theorem mb_amiss (h : 0 < τ 113 12) : f_X12_amiss 113 τ = some τ := by
  unfold f_X12_amiss f_X12_amiss_b0 f_X12_amiss_b14
  simp only [oM, if_true, gM, obs, mb_fail h]
  split <;> rfl
theorem m_must1 {v : Int} (h : τ 113 12 = 0) (hv : ¬ v = 0) : f_X12_must 113 v τ = f_X12_advance 113 τ := by
  unfold f_X12_must f_X12_must_b0
  simp only [oM, if_true, gM, obs]
  rw [if_pos (by omega), if_neg hv, o_eta]
theorem m_must0 (h : τ 113 12 = 0) : f_X12_must 113 0 τ = f_X12_amiss 113 τ := by
  unfold f_X12_must f_X12_must_b0
  simp only [oM, if_true, gM, obs]
  rw [if_pos (by omega), o_eta]
theorem mb_must {v : Int} (h : 0 < τ 113 12) : f_X12_must 113 v τ = some τ := by
  unfold f_X12_must f_X12_must_b0
  simp only [oM, if_true, gM, obs]
  rw [if_neg (by omega)]
theorem mb_count {v w : Int} (h : 0 < τ 113 12) : f_X12_count 113 v w τ = some (0, τ) := by
  unfold f_X12_count f_X12_count_b0 f_X12_count_b19 f_X12_count_b50
  simp only [oM, if_true, gM, obs]
  rw [if_neg (by omega), if_neg (by omega), if_neg (by omega)]
theorem mb_perhaps {v : Int} (h : 0 < τ 113 12) : f_X12_perhaps 113 v τ = some (0, τ) := by
  unfold f_X12_perhaps f_X12_perhaps_b0
  simp only [oM, if_true, gM, obs]
  rw [if_pos (by omega)]
theorem dl_fail {x y z w : Int} : Dl σ (upm (upm σ 3 10 x) 3 11 y) τ (upm (upm τ 113 12 z) 113 13 w) := by
  refine ⟨up1 (up1 (σ 3) 10 x) 11 y, up1 (up1 (τ 113) 12 z) 13 w, ?_, ?_, fun j hj => ?_, fun j hj => ?_⟩
  · rw [upm_setc, upm_setc, setc_same, setc2]
  · rw [upm_setc, upm_setc, setc_same, setc2]
  · rw [up1_ne (by omega), up1_ne (by omega)]
  · rw [up1_ne (by omega), up1_ne (by omega)]
theorem bd_fail {x y : Int} (h : 0 < x) : Bd (upm (upm σ 3 10 x) 3 11 y) (upm (upm τ 113 12 x) 113 13 y) := by
  refine ⟨?_, ?_, ?_⟩
  · rw [upm_app, if_neg (by omega), upm_same, upm_app, if_neg (by omega), upm_same]
  · rw [upm_same, upm_same]
  · rw [upm_app, if_neg (by omega), upm_same]; exact h
/-- amiss: both refuse -/
theorem j_amiss (h : Co σ τ t N) : ∃ σ' τ', f_X7_refuse 3 2 σ = some (0, σ') ∧ f_X12_amiss 113 τ = some τ' ∧ Dl σ σ' τ τ' ∧ Bd σ' τ' := by
  obtain ⟨h1, h2, h3⟩ := h
  refine ⟨_, _, x_refuse, m_amiss h3, dl_fail, ?_⟩
  have e := h2.kk.bad
  rw [h2.at_]
  by_cases q : σ 3 4 = 1
  · rw [if_pos q, if_pos (e.mp q)]; exact bd_fail (by decide)
  · rw [if_neg q, if_neg (fun w => q (e.mpr w))]; exact bd_fail (by decide)
/-- another FAULT of a token that is one -/
theorem j_fail {c : Int} (h : Co σ τ t N) (hc : 0 < c) (hb : ¬ σ 3 4 = 1) : ∃ σ' τ', f_X7_refuse 3 c σ = some (0, σ') ∧ f_X12_fail 113 c (τ 113 15) τ = some τ' ∧ Dl σ σ' τ τ' ∧ Bd σ' τ' := by
  obtain ⟨h1, h2, h3⟩ := h
  refine ⟨_, _, x_refuse, m_fail h3, dl_fail, ?_⟩
  rw [h2.at_, if_neg hb]
  exact bd_fail hc
theorem j_go (h : Co σ τ t N) : ∃ σ' τ', f_X7_step 3 σ = some σ' ∧ f_X12_advance 113 τ = some τ' ∧ Dl σ σ' τ τ' ∧ Co σ' τ' t N ∧ σ 3 5 ≤ σ' 3 5 ∧ (¬ σ 3 4 = 0 → σ 3 5 < σ' 3 5) ∧ σ' 3 9 = σ 3 9 := by
  obtain ⟨h1, h2, h3⟩ := h
  obtain ⟨V', W', a1, a2, a3, a4, a5, a6, a7⟩ := j_step h1 h2
  refine ⟨_, _, a1, a2, ⟨V', W', rfl, rfl, fun j hj => a3 j (by omega), fun j hj => a4 j (by omega)⟩, ⟨h1.of a3 a4, by rw [setc_same, setc_same]; exact a5, by rw [setc_same, a4 12 (by omega)]; exact h3⟩, ?_, ?_, ?_⟩
  · rw [setc_same]; exact a6
  · rw [setc_same]; exact a7
  · rw [setc_same]; exact a3 9 (by omega)
/-- a word that must stand -/
theorem j_word {k : Nat} {v : Int} (h : Co σ τ t N) (hv : v = if isK (σ 3) k = true then 1 else 0) : (∃ σ' τ', f_X7_takeWord 3 k σ = some (1, σ') ∧ f_X12_must 113 v τ = some τ' ∧ Dl σ σ' τ τ' ∧ Co σ' τ' t N ∧ σ 3 5 < σ' 3 5) ∨ (∃ σ' τ', f_X7_takeWord 3 k σ = some (0, σ') ∧ f_X12_must 113 v τ = some τ' ∧ Dl σ σ' τ τ' ∧ Bd σ' τ') := by
  unfold f_X7_takeWord f_X7_takeWord_b0
  rw [if_pos oTxt, x_isWord, obs, ifb]
  by_cases q : isK (σ 3) k = true
  · rw [if_pos q] at hv ⊢
    obtain ⟨σ', τ', a1, a2, a3, a4, a5, a6, _⟩ := j_go h
    refine .inl ⟨σ', τ', by rw [a1, obs], by rw [m_must1 h.2.2 (by omega), a2], a3, a4, a6 ?_⟩
    unfold isK at q
    rw [decide_eq_true_iff] at q
    omega
  · rw [if_neg q] at hv ⊢
    obtain ⟨σ', τ', a1, a2, a3, a4⟩ := j_amiss h
    refine .inr ⟨σ', τ', by rw [a1, obs]; rfl, by rw [hv, m_must0 h.2.2, a2], a3, a4⟩
theorem x_isSign {k : Nat} : f_X7_isSign 3 (k : Int) σ = some (if decide (σ 3 4 = 4 ∧ σ 3 8 = k) = true then 1 else 0) := by
  unfold f_X7_isSign f_X7_isSign_b0
  simp only [oTxt, if_true, gTx, obs]
  grind
theorem m_isSign {k : Nat} (h : TKk V (τ 113)) : f_X12_isSign 113 (k : Int) τ = some (if decide (V 4 = 4 ∧ V 8 = k) = true then 1 else 0) := by
  unfold f_X12_isSign f_X12_isSign_b0
  simp only [oM, if_true, gM, obs]
  have e := h.sgn
  have e2 := h.sval
  grind
/-- the sign that ends a part -/
theorem j_sign {v : Int} (h : Co σ τ t N) (hv : v = if decide (σ 3 4 = 4 ∧ σ 3 8 = ((59 : Nat) : Int)) = true then 1 else 0) : (∃ σ' τ', f_X7_takeSign 3 59 σ = some (1, σ') ∧ f_X12_must 113 v τ = some τ' ∧ Dl σ σ' τ τ' ∧ Co σ' τ' t N ∧ σ 3 5 ≤ σ' 3 5) ∨ (∃ σ' τ', f_X7_takeSign 3 59 σ = some (0, σ') ∧ f_X12_must 113 v τ = some τ' ∧ Dl σ σ' τ τ' ∧ Bd σ' τ') := by
  unfold f_X7_takeSign f_X7_takeSign_b0
  rw [if_pos oTxt, show f_X7_isSign 3 59 σ = _ from x_isSign (k := 59), obs, ifb]
  by_cases q : decide (σ 3 4 = 4 ∧ σ 3 8 = ((59 : Nat) : Int)) = true
  · rw [if_pos q] at hv ⊢
    obtain ⟨σ', τ', a1, a2, a3, a4, a5, a6, _⟩ := j_go h
    exact .inl ⟨σ', τ', by rw [a1, obs], by rw [m_must1 h.2.2 (by omega), a2], a3, a4, a5⟩
  · rw [if_neg q] at hv ⊢
    obtain ⟨σ', τ', a1, a2, a3, a4⟩ := j_amiss h
    exact .inr ⟨σ', τ', by rw [a1, obs]; rfl, by rw [hv, m_must0 h.2.2, a2], a3, a4⟩
/-- a number that must stand -/
theorem j_num {lo hi : Int} (h : Co σ τ t N) : (∃ n σ' τ', f_X7_takeNumber 3 lo hi σ = some (1, σ') ∧ f_X12_count 113 lo hi τ = some (n, τ') ∧ Dl σ σ' τ τ' ∧ Co σ' τ' t N ∧ σ 3 5 < σ' 3 5 ∧ σ' 3 9 = n ∧ lo ≤ n ∧ n ≤ hi) ∨ (∃ σ' τ', f_X7_takeNumber 3 lo hi σ = some (0, σ') ∧ f_X12_count 113 lo hi τ = some (0, τ') ∧ Dl σ σ' τ τ' ∧ Bd σ' τ') := by
  obtain ⟨h1, h2, h3⟩ := h
  have hco : Co σ τ t N := ⟨h1, h2, h3⟩
  have e := h2.kk.num
  have e2 := h2.kk.val
  unfold f_X7_takeNumber f_X7_takeNumber_b0 f_X7_takeNumber_b30 f_X12_count f_X12_count_b0 f_X12_count_b19
  simp only [oTxt, oM, if_true, gTx, gM, pTx, obs, s_isIn]
  rw [if_pos h3]
  by_cases q : σ 3 4 = 3
  · obtain ⟨v1, v2, v3⟩ := e2 q
    rw [if_pos q, if_pos (e.mp q), if_pos h3]
    by_cases z : lo ≤ τ 113 17 ∧ τ 113 17 ≤ hi
    · rw [if_neg (by omega), if_pos (by omega), if_pos z, if_neg (by decide)]
      have hc2 : Co (upm σ 3 9 (σ 3 8)) τ t N := by
        have e3 : upm σ 3 9 (σ 3 8) = setc σ 3 (up1 (σ 3) 9 (σ 3 8)) := upm_setc
        rw [e3]
        obtain ⟨x1, x2, x3, x4, x5, x6, x7, x8⟩ := h1.1
        refine ⟨⟨?_, h1.2⟩, ?_, h3⟩
        · rw [setc_same]
          exact ⟨by rw [up1_ne (by decide)]; exact x1, by rw [up1_ne (by decide)]; exact x2, by rw [up1_ne (by decide)]; exact x3, x4, by rw [setc_ne (by decide)]; exact x5, fun i hi => by rw [setc_ne (by decide)]; exact x6 i hi, by rw [up1_ne (by decide)]; exact x7, by rw [up1_ne (by decide)]; exact x8⟩
        · rw [setc_same]
          obtain ⟨a, ee, k1, k2, k3, k4, k5, k6, k7, k8⟩ := h2
          refine ⟨a, ee, by rw [up1_ne (by decide)]; exact k1, k2, by rw [up1_ne (by decide)]; exact k3, k4, k5, k6, by rw [up1_ne (by decide)]; exact k7, ?_⟩
          unfold TKk at k8 ⊢
          rw [up1_ne (by decide), up1_ne (by decide), up1_ne (by decide), up1_ne (by decide)]
          exact k8
      obtain ⟨σ', τ', a1, a2, a3, a4, a5, a6, a7⟩ := j_go hc2
      unfold f_X12_count_b50
      simp only [gM, obs]
      refine .inl ⟨τ 113 17, σ', τ', by rw [a1, obs], by rw [if_pos (by omega), a2, obs], Dl.trans ⟨up1 (σ 3) 9 (σ 3 8), τ 113, upm_setc, setc_me.symm, fun j hj => up1_ne (by omega), fun _ _ => rfl⟩ a3, a4, ?_, by rw [a7, upm_same, v1], z.1, z.2⟩
      have := a6 (by rw [upm_app, if_neg (by omega), q]; decide)
      rw [upm_app, if_neg (by omega)] at this
      exact this
    · obtain ⟨σ', τ', a1, a2, a3, a4⟩ := j_fail (c := 4) hco (by decide) (by omega)
      refine .inr ⟨σ', τ', ?_, ?_, a3, a4⟩
      · rw [a1, obs]
        by_cases y : σ 3 8 < lo
        · rw [if_pos y]; rfl
        · rw [if_neg y, if_neg (by omega)]; rfl
      · rw [if_neg z, if_pos rfl, a2, obs]
        unfold f_X12_count_b50
        rw [gM, obs, if_neg (by have := a4.2.2; omega)]
  · obtain ⟨σ', τ', a1, a2, a3, a4⟩ := j_amiss hco
    refine .inr ⟨σ', τ', ?_, ?_, a3, a4⟩
    · rw [if_neg q, a1, obs]; rfl
    · rw [if_neg (fun w => q (e.mpr w)), a2, obs]
      unfold f_X12_count_b50
      have := a4.2.2
      rw [if_neg (by omega), gM, obs, if_neg (by omega)]
end
