/-! ===== texts: the court's tokens ===== -/
section
variable {σ σ' τ : Mem} {V W t : Nat → Int} {N a : Nat}
theorem oTxt : isO Sh 7 3 = true := rfl
theorem gTx {j : Nat} : gf Sh σ 7 3 j = some (σ 3 j) := gf_at oTxt
theorem pTx {j : Nat} {v : Int} : pf Sh σ 7 3 j v = some (upm σ 3 j v) := pf_at oTxt
def TXx (σ : Mem) (V t : Nat → Int) (N : Nat) : Prop := V 0 = 2 ∧ V 1 = 4 ∧ V 2 = N ∧ N ≤ 900 ∧ σ 4 = SG 4 ∧ (∀ i, i < 900 → σ 2 i = t i) ∧ V 10 = 0 ∧ V 11 = -1
theorem TXx.up {j : Nat} {v : Int} (h : TXx σ V t N) (hj : 3 ≤ j ∧ j ≤ 9) : TXx σ (up1 V j v) t N := by
  obtain ⟨h1, h2, h3, h4, h5, h6, h7, h8⟩ := h
  exact ⟨by rw [up1_ne (by omega)]; exact h1, by rw [up1_ne (by omega)]; exact h2, by rw [up1_ne (by omega)]; exact h3, h4, h5, h6, by rw [up1_ne (by omega)]; exact h7, by rw [up1_ne (by omega)]; exact h8⟩
theorem alT {i : Nat} (h : TXx σ V t N) (hi : i < N) : al Sh (setc σ 3 V) 22 2 (i : Int) = some (t i) := by
  obtain ⟨h1, h2, h3, h4, h5, h6, _⟩ := h
  rw [alTp (by omega) (by omega), setc_ne (by decide), Int.toNat_natCast, h6 i (by omega)]
theorem v3 {j : Nat} : setc σ 3 V 3 j = V j := by rw [setc_same]
theorem x_isLt {i : Nat} : f_X7_isLetter (t i) σ = some (if pLt t i = true then 1 else 0) := by
  unfold f_X7_isLetter f_X7_isLetter_b0 pLt
  grind
theorem x_isDg {i : Nat} : f_X7_isDigit (t i) σ = some (if pDg t i = true then 1 else 0) := by
  unfold f_X7_isDigit f_X7_isDigit_b0 pDg
  grind
theorem up1_up1 {B : Nat → Int} {j : Nat} {v w : Int} : up1 (up1 B j v) j w = up1 B j w := by
  funext i
  unfold up1
  grind
theorem up1_me {B : Nat → Int} {j : Nat} {v : Int} (h : B j = v) : up1 B j v = B := by
  funext i
  unfold up1
  grind
theorem x_skip : ∀ (n p : Nat) (V : Nat → Int), TXx σ V t N → V 3 = p → N - p < n → f_X7_step_h0 n 3 (setc σ 3 V) = f_X7_step_b52 3 (setc σ 3 (up1 V 3 (rn (pSp t) N p))) := by
  intro n
  induction n with
  | zero => intro p V _ _ h; omega
  | succ n ih =>
    intro p V h hp hn
    rw [hs_X7_step_h0]
    unfold f_X7_step_b0 f_X7_step_b39
    simp only [gTx, pTx, obs, v3, h.2.2.1, hp, h.1, setc_upm]
    by_cases q : N ≤ p
    · rw [if_pos (by omega), rn_stop (by omega), up1_me hp]
    · rw [if_neg (by omega), alT h (by omega)]
      simp only [obs]
      have nx : f_X7_step_h0 n 3 (setc σ 3 (up1 V 3 (w32 ((p : Int) + 1)))) = f_X7_step_b52 3 (setc σ 3 (up1 V 3 (rn (pSp t) N (p + 1)))) := by
        have hN := h.2.2.2.1
        rw [wkk1 (by omega), ih (p + 1) _ (h.up (by omega)) up1_eq (by omega), up1_up1]
      by_cases z : pSp t p = true
      · rw [rn_go (by omega) z, nx]
        unfold pSp at z
        grind
      · rw [rn_stop (fun w => z w.2), up1_me hp]
        unfold pSp at z
        grind
/-- a word's value after so many letters -/
def wvl (b : Nat) (t : Nat → Int) (a i : Nat) : Int := if i ≤ 8 then ((ev b (lts t a i) : Nat) : Int) else -1
theorem lts_dg {i : Nat} (h : ∀ k, k < i → 97 ≤ t (a + k) ∧ t (a + k) ≤ 122) : dg (lts t a i) := by
  induction i with
  | zero => intro d hd; cases hd
  | succ i ih =>
    rw [lts_s, dg_snoc]
    have := h i (by omega)
    exact ⟨ih fun k hk => h k (by omega), by omega, by omega⟩
theorem ev_bd {b i : Nat} (hb : 27 ≤ b) (hb2 : b ≤ 32) (h : ∀ k, k < i → 97 ≤ t (a + k) ∧ t (a + k) ≤ 122) (hi : i ≤ 8) : ev b (lts t a i) < 1099511627776 := by
  have h1 := ev_lt hb _ (lts_dg h)
  rw [lts_len] at h1
  have h2 : b ^ i ≤ 32 ^ i := Nat.pow_le_pow_left hb2 i
  have h3 : 32 ^ i ≤ 32 ^ 8 := Nat.pow_le_pow_right (by omega) hi
  omega
theorem wvl_s {b i : Nat} (h : 97 ≤ t (a + i) ∧ t (a + i) ≤ 122) (hi : i < 8) : wvl b t a (i + 1) = wvl b t a i * b + (t (a + i) - 96) := by
  unfold wvl
  rw [if_pos (by omega), if_pos (by omega), lts_s, ev_snoc]
  have : ((t (a + i) - 96).toNat : Int) = t (a + i) - 96 := by omega
  rw [Int.natCast_add, Int.natCast_mul, this]
theorem x_wordL (hN : N ≤ 900) : ∀ (n i : Nat) (V : Nat → Int), TXx σ V t N → V 3 = ((a + i : Nat) : Int) → V 5 = a → V 6 = wvl 27 t a i → (∀ k, k < i → 97 ≤ t (a + k) ∧ t (a + k) ≤ 122) → a + i ≤ N → N - (a + i) < n → f_X7_stepWord_h5 n 3 (setc σ 3 V) = f_X7_stepWord_b96 3 (setc σ 3 (up1 (up1 V 6 (wvl 27 t a (rn (pLt t) N (a + i) - a))) 3 (rn (pLt t) N (a + i)))) := by
  intro n
  induction n with
  | zero => intro i V _ _ _ _ _ _ h; omega
  | succ n ih =>
    intro i V h h3 h5 h6 hl hi hn
    rw [hs_X7_stepWord_h5]
    unfold f_X7_stepWord_b5 f_X7_stepWord_b83
    simp only [gTx, pTx, obs, v3, h.2.2.1, h3, h5, h6, h.1, setc_upm]
    have stop : rn (pLt t) N (a + i) = a + i → up1 (up1 V 6 (wvl 27 t a (rn (pLt t) N (a + i) - a))) 3 (rn (pLt t) N (a + i)) = V := by
      intro q
      rw [q, show a + i - a = i by omega, up1_me h6, up1_me h3]
    by_cases q : N ≤ a + i
    · rw [if_pos (by omega), stop (rn_stop (by omega))]
    · rw [if_neg (by omega), alT h (by omega)]
      simp only [obs]
      rw [x_isLt, obs]
      by_cases z : pLt t (a + i) = true
      · have zl : 97 ≤ t (a + i) ∧ t (a + i) ≤ 122 := by unfold pLt at z; simpa using z
        rw [if_pos z, if_neg (by decide), rn_go (by omega) z, w32_in (z := ((a + i : Nat) : Int) - (a : Int)) (by omega) (by omega)]
        have fin : ∀ w : Int, w = wvl 27 t a (i + 1) → f_X7_stepWord_h5 n 3 (setc σ 3 (up1 (up1 V 6 w) 3 (w32 (up1 V 6 w 3 + 1)))) = f_X7_stepWord_b96 3 (setc σ 3 (up1 (up1 V 6 (wvl 27 t a (rn (pLt t) N (a + i + 1) - a))) 3 (rn (pLt t) N (a + i + 1)))) := by
          intro w hw
          rw [up1_ne (by decide), h3, wkk1 (by omega), show a + i + 1 = a + (i + 1) from rfl, ih (i + 1) _ ((h.up (by omega)).up (by omega)) up1_eq (by rw [up1_ne (by decide), up1_ne (by decide)]; exact h5) (by rw [up1_ne (by decide), up1_eq, hw]) (fun k hk => ?_) (by omega) (by omega)]
          · congr 2
            funext j
            unfold up1
            grind
          · by_cases kk : k = i
            · rw [kk]; exact zl
            · exact hl k (by omega)
        by_cases y : 8 ≤ i
        · rw [if_pos (by omega)]
          exact fin (-1) (by unfold wvl; rw [if_neg (by omega)])
        · rw [if_neg (by omega)]
          refine fin _ ?_
          have b := ev_bd (b := 27) (by omega) (by omega) hl (show i ≤ 8 by omega)
          have e : wvl 27 t a i = ((ev 27 (lts t a i) : Nat) : Int) := by unfold wvl; rw [if_pos (by omega)]
          rw [wvl_s zl (by omega), w32_in (z := t (a + i) - 97) (by omega) (by omega), w32_in (by omega) (by omega), e, w64_in (z := ((ev 27 (lts t a i) : Nat) : Int) * 27) (by omega) (by omega), w64_in (by omega) (by omega)]
          omega
      · rw [if_neg z, if_pos rfl, stop (rn_stop (fun w => z w.2))]
/-- the key of a word -/
def kyF (v : Int) : Nat → Nat → Int
  | 0, _ => -1
  | f + 1, k => if kx k = v then (k : Int) else kyF v f (k + 1)
def ky (v : Int) : Int := kyF v 23 0
theorem kyF_s {v : Int} {f k : Nat} : kyF v (f + 1) k = if kx k = v then (k : Int) else kyF v f (k + 1) := rfl
theorem kyF_or {v : Int} : ∀ f k : Nat, (kyF v f k = -1 ∧ ∀ i, k ≤ i → i < k + f → ¬ kx i = v) ∨ ∃ i : Nat, k ≤ i ∧ i < k + f ∧ kyF v f k = i ∧ kx i = v := by
  intro f
  induction f with
  | zero => intro k; exact .inl ⟨rfl, fun i h1 h2 => by omega⟩
  | succ f ih =>
    intro k
    rw [kyF_s]
    by_cases h : kx k = v
    · rw [if_pos h]; exact .inr ⟨k, Nat.le_refl _, by omega, rfl, h⟩
    · rw [if_neg h]
      rcases ih (k + 1) with ⟨h1, h2⟩ | ⟨i, h1, h2, h3, h4⟩
      · refine .inl ⟨h1, fun i q1 q2 => ?_⟩
        by_cases q : i = k
        · rw [q]; exact h
        · exact h2 i (by omega) (by omega)
      · exact .inr ⟨i, by omega, by omega, h3, h4⟩
theorem ky_or (v : Int) : (ky v = -1 ∧ ∀ i, i < 23 → ¬ kx i = v) ∨ ∃ i : Nat, i < 23 ∧ ky v = i ∧ kx i = v := by
  rcases kyF_or (v := v) 23 0 with ⟨h1, h2⟩ | ⟨i, h1, h2, h3, h4⟩
  · exact .inl ⟨h1, fun i q => h2 i (by omega) (by omega)⟩
  · exact .inr ⟨i, by omega, h3, h4⟩
theorem ky_iff {v : Int} {k : Nat} (h : k < 23) : ky v = k ↔ v = kx k := by
  rcases ky_or v with ⟨h1, h2⟩ | ⟨i, h1, h2, h3⟩
  · rw [h1]
    exact ⟨fun q => by omega, fun q => absurd q.symm (h2 k h)⟩
  · rw [h2]
    constructor
    · intro q
      rw [← h3, show i = k by omega]
    · intro q
      rw [kx_inj i h1 k h (by rw [h3, q])]
theorem x_keyOf {v : Int} (h : TXx σ V t N) (hv : R64 v) : f_X7_keyOf 3 v (setc σ 3 V) = some (ky v) := by
  unfold f_X7_keyOf f_X7_keyOf_b0
  rw [if_pos oTxt]
  have : ∀ (f k n : Nat), k + f = 23 → f < n → f_X7_keyOf_h2 n 3 v k (setc σ 3 V) = some (kyF v f k) := by
    intro f
    induction f with
    | zero =>
      intro k n hk hn
      obtain ⟨n, rfl⟩ : ∃ m, n = m + 1 := ⟨n - 1, by omega⟩
      rw [hs_X7_keyOf_h2]
      unfold f_X7_keyOf_b2
      rw [if_pos (by omega)]
      rfl
    | succ f ih =>
      intro k n hk hn
      obtain ⟨n, rfl⟩ : ∃ m, n = m + 1 := ⟨n - 1, by omega⟩
      have e : al Sh (setc σ 3 V) 21 4 (k : Int) = some (kx k) := by
        have : isA Sh 21 4 (k : Int) = true := isA_at (a := 4) rfl (by omega) (by omega)
        rw [al_at this, Int.toNat_natCast]
        show some (setc σ 3 V 4 k) = _
        rw [setc_ne (by decide), h.2.2.2.2.1, SG4 k (by omega)]
      rw [hs_X7_keyOf_h2]
      unfold f_X7_keyOf_b2
      rw [if_neg (by omega), gTx, obs, v3, h.2.1, e, obs, wkk1 (by omega), ih (k + 1) n (by omega) (by omega), kyF_s]
      simp only [lcmp_eq]
      by_cases q : kx k = v
      · rw [if_pos q, if_pos q]
      · rw [if_neg q, if_neg q]
  exact this 23 0 FU (by omega) (by unfold FU; omega)
end
