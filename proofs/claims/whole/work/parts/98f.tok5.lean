/-! ===== texts: both at one token ===== -/
section
variable {σ σ' τ : Mem} {V W V' W' t : Nat → Int} {N a : Nat}
def TKk (V W : Nat → Int) : Prop :=
  (V 4 = 0 ∧ W 14 = 0) ∨ (V 4 = 1 ∧ W 14 = 4) ∨ (V 4 = 3 ∧ W 14 = 2 ∧ V 8 = W 17 ∧ 0 ≤ W 17 ∧ W 17 ≤ 9999) ∨ (V 4 = 4 ∧ W 14 = 3 ∧ V 8 = W 17 ∧ 59 ≤ W 17 ∧ W 17 ≤ 62) ∨
  (V 4 = 2 ∧ W 14 = 1 ∧ V 7 = ky (V 6) ∧ ((Nm (V 6) (W 19) ∧ W 18 ≤ 8 ∧ 0 < W 19) ∨ (V 6 = -1 ∧ W 19 = -1 ∧ 8 < W 18)))
def TK (N : Nat) (V W : Nat → Int) : Prop := ∃ a e : Nat, V 5 = a ∧ W 15 = a ∧ V 3 = e ∧ W 16 = e ∧ a ≤ e ∧ e ≤ N ∧ (¬ V 4 = 0 → a < e) ∧ TKk V W
theorem TK.mk (h1 : TokX t N a V) (h2 : TokM t N a W) (hN : a ≤ N) : TK N V W := by
  obtain ⟨x0, x1⟩ := h1
  obtain ⟨y0, y1⟩ := h2
  rcases x1 with ⟨p1, p2, p3⟩ | ⟨p1, p2, p3, p4, p5, p6⟩ | ⟨p1, p2, p3, p4, p5, p6⟩ | ⟨p1, p2, p3, p4, p5, p6⟩
  · rcases y1 with ⟨q1, q2, q3⟩ | ⟨q1, q2⟩ | ⟨q1, q2⟩ | ⟨q1, q2⟩
    · exact ⟨a, a, x0, y0, p3, q3, Nat.le_refl _, hN, fun q => absurd p2 q, .inl ⟨p2, q2⟩⟩
    all_goals omega
  · rcases y1 with ⟨q1, q2⟩ | ⟨q1, q2, q3, q4, q5, q6⟩ | ⟨q1, q2, _⟩ | ⟨q1, q2, _⟩
    · omega
    · refine ⟨a, rn (pLt t) N a, x0, y0, p3, q3, rn_ge, rn_le (by omega), fun _ => rn_gt p1 p2, .inr (.inr (.inr (.inr ⟨p4, q4, p6, ?_⟩)))⟩
      rw [p5, q5, q6]
      unfold wvl
      by_cases z : rn (pLt t) N a - a ≤ 8
      · rw [if_pos z, if_pos z]
        exact .inl ⟨⟨lts t a (rn (pLt t) N a - a), by rw [lts_len]; exact z, lts_dg (fun k hk => by
          have := (rn_in (P := pLt t) (N := N) (p := a) (i := a + k) (by omega) (by omega)).2
          unfold pLt at this; simpa using this), rfl, rfl⟩, by omega, by
          have g := rn_gt p1 p2
          obtain ⟨m, hm⟩ : ∃ m, rn (pLt t) N a - a = m + 1 := ⟨rn (pLt t) N a - a - 1, by omega⟩
          have l := (rn_in (P := pLt t) (N := N) (p := a) (i := a + m) (by omega) (by omega)).2
          unfold pLt at l
          rw [decide_eq_true_iff] at l
          rw [hm, lts_s, ev_snoc]
          omega⟩
      · rw [if_neg z, if_neg z]
        exact .inr ⟨rfl, rfl, by omega⟩
    · rw [p2] at q2; cases q2
    · rw [p2] at q2; cases q2
  · rcases y1 with ⟨q1, q2⟩ | ⟨q1, q2, _⟩ | ⟨q1, q2, q3, q4, q5, q6⟩ | ⟨q1, q2, q3, _⟩
    · omega
    · rw [p2] at q2; cases q2
    · refine ⟨a, rn (pDg t) N a, x0, y0, p4, q4, rn_ge, rn_le (by omega), fun _ => rn_gt p1 p3, ?_⟩
      have bd := nvm_bd (t := t) (a := a) (i := rn (pDg t) N a - a) (fun k hk => by
          have := (rn_in (P := pDg t) (N := N) (p := a) (i := a + k) (by omega) (by omega)).2
          unfold pDg at this; simpa using this)
      by_cases z : rn (pDg t) N a - a ≤ 4
      · rw [if_pos z] at p5 q5
        exact .inr (.inr (.inl ⟨p5, q5, by rw [p6, q6], by rw [q6]; exact bd.1, by rw [q6]; exact bd.2⟩))
      · rw [if_neg z] at p5 q5
        exact .inr (.inl ⟨p5, q5⟩)
    · rw [p3] at q3; cases q3
  · rcases y1 with ⟨q1, q2⟩ | ⟨q1, q2, _⟩ | ⟨q1, q2, q3, _⟩ | ⟨q1, q2, q3, q4, q5, q6⟩
    · omega
    · rw [p2] at q2; cases q2
    · rw [p3] at q3; cases q3
    · refine ⟨a, a + 1, x0, y0, p4, q4, by omega, by omega, fun _ => by omega, ?_⟩
      by_cases z : 59 ≤ t a ∧ t a ≤ 62
      · rw [if_pos z] at p6 q6
        have : ub (t a) = t a := by unfold ub; rw [if_neg (by omega)]
        exact .inr (.inr (.inr (.inl ⟨p6, q6, by rw [p5, q5, this], by rw [q5, this]; exact z.1, by rw [q5, this]; exact z.2⟩)))
      · rw [if_neg z] at p6 q6
        exact .inr (.inl ⟨p6, q6⟩)
theorem setc_me {c : Nat} : setc σ c (σ c) = σ := by
  funext b
  by_cases q : b = c
  · rw [q, setc_same]
  · rw [setc_ne q]
/-- both reading one text -/
def Rd (σ τ : Mem) (t : Nat → Int) (N : Nat) : Prop := TXx σ (σ 3) t N ∧ TXm τ (τ 113) t N
theorem j_step0 {p : Nat} (h : Rd σ τ t N) (h1 : σ 3 3 = p) (h2 : τ 113 16 = p) (hp : p ≤ N) : ∃ V' W', f_X7_step 3 σ = some (setc σ 3 V') ∧ f_X12_advance 113 τ = some (setc τ 113 W') ∧ keepX (σ 3) V' ∧ keepM (τ 113) W' ∧ TK N V' W' ∧ (p : Int) ≤ V' 5 := by
  obtain ⟨V', a1, a2, a3⟩ := x_step h.1 h1 hp
  obtain ⟨W', b1, b2, b3⟩ := m_adv h.2 h2 hp
  rw [setc_me] at a1 b1
  have := rn_ge (P := pSp t) (N := N) (p := p)
  exact ⟨V', W', a1, b1, a2, b2, TK.mk a3 b3 (rn_le hp), by rw [a3.1]; omega⟩
/-- both go on by a token -/
theorem j_step (h : Rd σ τ t N) (k : TK N (σ 3) (τ 113)) : ∃ V' W', f_X7_step 3 σ = some (setc σ 3 V') ∧ f_X12_advance 113 τ = some (setc τ 113 W') ∧ keepX (σ 3) V' ∧ keepM (τ 113) W' ∧ TK N V' W' ∧ σ 3 5 ≤ V' 5 ∧ (¬ σ 3 4 = 0 → σ 3 5 < V' 5) := by
  obtain ⟨a, e, k1, k2, k3, k4, k5, k6, k7, _⟩ := k
  obtain ⟨V', W', a1, a2, a3, a4, a5, a6⟩ := j_step0 h k3 k4 k6
  exact ⟨V', W', a1, a2, a3, a4, a5, by omega, fun q => by have := k7 q; omega⟩
theorem TXx.of {V : Nat → Int} (h : TXx σ (σ 3) t N) (hk : keepX (σ 3) V) : TXx (setc σ 3 V) (setc σ 3 V 3) t N := by
  obtain ⟨h1, h2, h3, h4, h5, h6, h7, h8⟩ := h
  rw [setc_same]
  exact ⟨by rw [hk 0 (by omega)]; exact h1, by rw [hk 1 (by omega)]; exact h2, by rw [hk 2 (by omega)]; exact h3, h4, by rw [setc_ne (by decide)]; exact h5, fun i hi => by rw [setc_ne (by decide)]; exact h6 i hi, by rw [hk 10 (by omega)]; exact h7, by rw [hk 11 (by omega)]; exact h8⟩
theorem TXm.of {W : Nat → Int} (h : TXm τ (τ 113) t N) (hk : keepM (τ 113) W) : TXm (setc τ 113 W) (setc τ 113 W 113) t N := by
  obtain ⟨h1, h2, h3, h4⟩ := h
  rw [setc_same]
  exact ⟨by rw [hk 7 (by omega)]; exact h1, by rw [hk 9 (by omega)]; exact h2, h3, fun i hi => by rw [setc_ne (by decide)]; exact h4 i hi⟩
theorem Rd.of (h : Rd σ τ t N) (h1 : keepX (σ 3) V) (h2 : keepM (τ 113) W) : Rd (setc σ 3 V) (setc τ 113 W) t N := ⟨h.1.of h1, h.2.of h2⟩
/-! the tests of a token -/
def isK (V : Nat → Int) (k : Nat) : Bool := decide (V 4 = 2 ∧ V 7 = k)
theorem x_isWord {k : Nat} : f_X7_isWord 3 (k : Int) σ = some (if isK (σ 3) k = true then 1 else 0) := by
  unfold f_X7_isWord f_X7_isWord_b0 isK
  simp only [oTxt, if_true, gTx, obs]
  grind
theorem TKk.word {k : Nat} (h : TKk V W) (hk : k < 23) : isK V k = true ↔ (W 14 = 1 ∧ W 19 = km k) := by
  unfold isK
  rw [decide_eq_true_iff]
  rcases h with h | h | h | h | ⟨h1, h2, h3, h4⟩
  · omega
  · omega
  · omega
  · omega
  · rw [h1, h2, h3, ky_iff hk]
    have n := (Nm_k hk).nn
    rcases h4 with ⟨h4, h5⟩ | ⟨h4, h5, h6⟩
    · have := h4.inj (Nm_k hk)
      simp [this]
    · rw [h4, h5]
      constructor
      · intro q; omega
      · intro q; omega
theorem m_isWord {k : Nat} {v : Int} (hv : v = km k) (h : TKk V (τ 113)) (hk : k < 23) : f_X12_isWord 113 v τ = some (if isK V k = true then 1 else 0) := by
  have := h.word hk
  unfold f_X12_isWord f_X12_isWord_b0
  simp only [oM, if_true, gM, obs, lcmp_eq, hv]
  by_cases q : isK V k = true
  · obtain ⟨q1, q2⟩ := this.mp q
    rw [if_pos q1, if_pos q2, if_pos q]
  · rw [if_neg q]
    by_cases r : τ 113 14 = 1
    · rw [if_pos r, if_neg (fun w => q (this.mpr ⟨r, w⟩))]
    · rw [if_neg r]
theorem bzi {p : Prop} [Decidable p] : ((bz (if p then 1 else 0)).bind fun _ => some (if p then (1 : Int) else 0)) = some (if p then 1 else 0) := by
  split <;> rfl
theorem bzb {b : Bool} : ((bz (if b = true then 1 else 0)).bind fun _ => some (if b = true then (1 : Int) else 0)) = some (if b = true then 1 else 0) := by
  cases b <;> rfl
theorem m_isOdds (h : TKk V (τ 113)) : f_X12_isOdds 113 τ = some (if isK V 0 = true then 1 else 0) := by
  unfold f_X12_isOdds f_X12_isOdds_b0 f_X12_spelled f_X12_spelled_b0 f_X12_spelled_b41 f_X12_spelled_b65 f_X12_spelled_b91
  rw [if_pos oM, if_neg (by decide), if_neg (by decide), if_pos (by decide), if_pos (by decide), obs, m_isWord (k := 0) (by decide +kernel) h (by decide), obs, bzb]
theorem m_isStone (h : TKk V (τ 113)) : f_X12_isStone 113 τ = some (if isK V 1 = true then 1 else 0) := by
  unfold f_X12_isStone f_X12_isStone_b0 f_X12_spelled f_X12_spelled_b0 f_X12_spelled_b41 f_X12_spelled_b65 f_X12_spelled_b91
  rw [if_pos oM, if_neg (by decide), if_neg (by decide), if_neg (by decide), if_pos (by decide), obs, m_isWord (k := 1) (by decide +kernel) h (by decide), obs, bzb]
theorem m_isLenient (h : TKk V (τ 113)) : f_X12_isLenient 113 τ = some (if isK V 2 = true then 1 else 0) := by
  unfold f_X12_isLenient f_X12_isLenient_b0 f_X12_spelled f_X12_spelled_b0 f_X12_spelled_b41 f_X12_spelled_b65 f_X12_spelled_b91
  rw [if_pos oM, if_neg (by decide), if_neg (by decide), if_neg (by decide), if_neg (by decide), obs, m_isWord (k := 2) (by decide +kernel) h (by decide), obs, bzb]
theorem m_isMoss (h : TKk V (τ 113)) : f_X12_isMoss 113 τ = some (if isK V 3 = true then 1 else 0) := by
  unfold f_X12_isMoss f_X12_isMoss_b0 f_X12_spelled f_X12_spelled_b0 f_X12_spelled_b41 f_X12_spelled_b65 f_X12_spelled_b91
  rw [if_pos oM, if_neg (by decide), if_neg (by decide), if_pos (by decide), if_pos (by decide), obs, m_isWord (k := 3) (by decide +kernel) h (by decide), obs, bzb]
theorem m_isStrong (h : TKk V (τ 113)) : f_X12_isStrong 113 τ = some (if isK V 4 = true then 1 else 0) := by
  unfold f_X12_isStrong f_X12_isStrong_b0 f_X12_spelled f_X12_spelled_b0 f_X12_spelled_b41 f_X12_spelled_b65 f_X12_spelled_b91
  rw [if_pos oM, if_neg (by decide), if_neg (by decide), if_neg (by decide), if_neg (by decide), obs, m_isWord (k := 4) (by decide +kernel) h (by decide), obs, bzb]
theorem m_isGap (h : TKk V (τ 113)) : f_X12_isGap 113 τ = some (if isK V 5 = true then 1 else 0) := by
  unfold f_X12_isGap f_X12_isGap_b0 f_X12_spelled f_X12_spelled_b0 f_X12_spelled_b41 f_X12_spelled_b65 f_X12_spelled_b91
  rw [if_pos oM, if_neg (by decide), if_pos (by decide), if_pos (by decide), if_pos (by decide), obs, m_isWord (k := 5) (by decide +kernel) h (by decide), obs, bzb]
theorem m_isCrow (h : TKk V (τ 113)) : f_X12_isCrow 113 τ = some (if isK V 6 = true then 1 else 0) := by
  unfold f_X12_isCrow f_X12_isCrow_b0 f_X12_spelled f_X12_spelled_b0 f_X12_spelled_b41 f_X12_spelled_b65 f_X12_spelled_b91
  rw [if_pos oM, if_neg (by decide), if_neg (by decide), if_pos (by decide), if_pos (by decide), obs, m_isWord (k := 6) (by decide +kernel) h (by decide), obs, bzb]
theorem m_isOn (h : TKk V (τ 113)) : f_X12_isOn 113 τ = some (if isK V 7 = true then 1 else 0) := by
  unfold f_X12_isOn f_X12_isOn_b0 f_X12_spelled f_X12_spelled_b0 f_X12_spelled_b41 f_X12_spelled_b65 f_X12_spelled_b91
  rw [if_pos oM, if_pos (by decide), if_pos (by decide), if_pos (by decide), if_pos (by decide), obs, m_isWord (k := 7) (by decide +kernel) h (by decide), obs, bzb]
theorem m_isEnd (h : TKk V (τ 113)) : f_X12_isEnd 113 τ = some (if isK V 21 = true then 1 else 0) := by
  unfold f_X12_isEnd f_X12_isEnd_b0 f_X12_spelled f_X12_spelled_b0 f_X12_spelled_b41 f_X12_spelled_b65 f_X12_spelled_b91
  rw [if_pos oM, if_neg (by decide), if_pos (by decide), if_pos (by decide), if_pos (by decide), obs, m_isWord (k := 21) (by decide +kernel) h (by decide), obs, bzb]
theorem ifb {α : Type} {b : Bool} {x y : α} : (if (if b = true then (1 : Int) else 0) = 0 then x else y) = if b = true then y else x := by cases b <;> rfl
theorem sp_o {p q r s t u v : Int} (h : f_X12_spelled p q r s t u (fun _ _ => 0) = some v) : f_X12_spelled p q r s t u τ = some v := h
theorem m_sideWord (h : TKk V (τ 113)) : f_X12_sideWord 113 τ = some (if isK V 8 = true then 1 else if isK V 9 = true then 0 else -1) := by
  unfold f_X12_sideWord f_X12_sideWord_b0
  rw [if_pos oM, sp_o (v := km 8) (by decide +kernel), obs, m_isWord (k := 8) rfl h (by decide), obs, ifb, sp_o (p := 97) (v := ((ev 32 [1, 7, 1, 9, 14, 19] : Nat) : Int)) (by decide +kernel), obs, m_isWord (k := 9) (by decide +kernel) h (by decide), obs, ifb]
  split
  · rfl
  · split <;> rfl
/-- a STEP's word as the reference counts it -/
def stW (V : Nat → Int) : Int := if isK V 10 = true then 0 else if isK V 11 = true then 1 else if isK V 12 = true then 2 else if isK V 13 = true then 3 else if isK V 14 = true then 4 else if isK V 15 = true then 5 else if isK V 16 = true then 6 else if isK V 17 = true then 7 else if isK V 20 = true then 8 else if isK V 22 = true then 9 else -1
theorem m_stepWord (h : TKk V (τ 113)) : f_X12_stepWord 113 τ = some (stW V) := by
  unfold f_X12_stepWord f_X12_stepWord_b0 stW
  rw [if_pos oM, sp_o (v := km 10) (by decide +kernel), obs, m_isWord (k := 10) rfl h (by decide), obs, ifb,
    sp_o (v := km 11) (by decide +kernel), obs, m_isWord (k := 11) rfl h (by decide), obs, ifb,
    sp_o (v := km 12) (by decide +kernel), obs, m_isWord (k := 12) rfl h (by decide), obs, ifb,
    sp_o (v := km 13) (by decide +kernel), obs, m_isWord (k := 13) rfl h (by decide), obs, ifb,
    sp_o (v := km 14) (by decide +kernel), obs, m_isWord (k := 14) rfl h (by decide), obs, ifb,
    sp_o (v := km 15) (by decide +kernel), obs, m_isWord (k := 15) rfl h (by decide), obs, ifb,
    sp_o (v := km 16) (by decide +kernel), obs, m_isWord (k := 16) rfl h (by decide), obs, ifb,
    sp_o (v := km 17) (by decide +kernel), obs, m_isWord (k := 17) rfl h (by decide), obs, ifb,
    sp_o (v := km 20) (by decide +kernel), obs, m_isWord (k := 20) rfl h (by decide), obs, ifb,
    sp_o (v := km 22) (by decide +kernel), obs, m_isWord (k := 22) rfl h (by decide), obs, ifb]
  repeat (first | rfl | split)
def tsW (V : Nat → Int) : Int := if isK V 18 = true then 0 else if isK V 19 = true then 1 else if isK V 3 = true then 2 else -1
theorem m_testWord (h : TKk V (τ 113)) : f_X12_testWord 113 τ = some (tsW V) := by
  unfold f_X12_testWord f_X12_testWord_b0 tsW
  rw [if_pos oM, sp_o (v := km 18) (by decide +kernel), obs, m_isWord (k := 18) rfl h (by decide), obs, ifb,
    sp_o (v := km 19) (by decide +kernel), obs, m_isWord (k := 19) rfl h (by decide), obs, ifb, m_isMoss h, obs, ifb]
  repeat (first | rfl | split)
theorem isK_1 {k j : Nat} (h : isK V k = true) : isK V j = decide (j = k) := by
  unfold isK at h ⊢
  rw [decide_eq_true_iff] at h
  by_cases q : j = k
  · subst q; simp [h]
  · simp [q, h]
    omega
def nmd (V : Nat → Int) : Bool := decide (V 4 = 2 ∧ V 7 = -1 ∧ ¬ V 6 = -1)
theorem m_isKept (h : TKk V (τ 113)) : f_X12_isKept 113 τ = some (if decide (V 4 = 2 ∧ ¬ V 7 = -1) = true then 1 else 0) := by
  unfold f_X12_isKept f_X12_isKept_b0 f_X12_isKept_b79
  rw [if_pos oM, m_isOdds h, obs, ifb, m_isStone h, obs, ifb, m_isLenient h, obs, ifb, m_isStrong h, obs, ifb, m_isGap h, obs, ifb, m_isCrow h, obs, ifb, m_isOn h, obs, ifb, m_sideWord h, obs, m_stepWord h, obs, m_testWord h, obs, m_isEnd h, obs, ifb]
  by_cases z : V 4 = 2
  · have hk : V 7 = ky (V 6) := by
      rcases h with h | h | h | h | h
      · omega
      · omega
      · omega
      · omega
      · exact h.2.2.1
    rcases ky_or (V 6) with ⟨k1, _⟩ | ⟨i, k1, k2, _⟩
    · have e : ∀ k : Nat, isK V k = false := fun k => by unfold isK; rw [hk, k1]; simp
      unfold stW tsW
      simp only [e, Bool.false_eq_true, if_false]
      rw [hk, k1]
      simp
    · have e : isK V i = true := by unfold isK; rw [hk, k2]; simp [z]
      have e2 := fun j => isK_1 (j := j) e
      unfold stW tsW
      simp only [e2]
      rw [hk, k2]
      have : decide (V 4 = 2 ∧ ¬ ((i : Nat) : Int) = -1) = true := by simp [z]
      rw [this]
      clear e e2 this hk k2
      rcases (show i = 0 ∨ i = 1 ∨ i = 2 ∨ i = 3 ∨ i = 4 ∨ i = 5 ∨ i = 6 ∨ i = 7 ∨ i = 8 ∨ i = 9 ∨ i = 10 ∨ i = 11 ∨ i = 12 ∨ i = 13 ∨ i = 14 ∨ i = 15 ∨ i = 16 ∨ i = 17 ∨ i = 18 ∨ i = 19 ∨ i = 20 ∨ i = 21 ∨ i = 22 by omega) with rfl | rfl | rfl | rfl | rfl | rfl | rfl | rfl | rfl | rfl | rfl | rfl | rfl | rfl | rfl | rfl | rfl | rfl | rfl | rfl | rfl | rfl | rfl <;> rfl
  · have e : ∀ k : Nat, isK V k = false := fun k => by unfold isK; simp [z]
    unfold stW tsW
    simp only [e, Bool.false_eq_true, if_false]
    simp [z]
theorem m_isName (h : TKk V (τ 113)) : f_X12_isName 113 τ = some (if nmd V = true then 1 else 0) := by
  unfold f_X12_isName f_X12_isName_b0 nmd
  simp only [oM, if_true, gM, obs]
  rw [m_isKept h, obs, ifb]
  have hn : ∀ {y : Int}, Nm (V 6) y → ¬ V 6 = -1 := fun h => by have := h.nn; omega
  rcases h with h | h | h | h | ⟨h1, h2, h3, ⟨h4, h5⟩ | ⟨h4, h5, h6⟩⟩
  · rw [h.2, h.1]; simp
  · rw [h.2, h.1]; simp
  · rw [h.2.1, h.1]; simp
  · rw [h.2.1, h.1]; simp
  · rw [h2, if_pos rfl, if_neg (by omega), h1]
    have := hn h4
    by_cases z : V 7 = -1 <;> simp [z, this]
  · rw [h2, if_pos rfl, if_pos h6, h4]
    simp
theorem x_isName : f_X7_isName 3 σ = some (if nmd (σ 3) = true then 1 else 0) := by
  unfold f_X7_isName f_X7_isName_b0 nmd
  simp only [oTxt, if_true, gTx, obs, lcmp_eq]
  grind
end
