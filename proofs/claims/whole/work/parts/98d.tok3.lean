/-! ===== texts: a whole step of the court ===== -/
section
variable {σ σ' τ : Mem} {V W t : Nat → Int} {N a : Nat}
def nvl (t : Nat → Int) (a : Nat) : Nat → Int
  | 0 => 0
  | n + 1 => nvl t a n * 10 + (t (a + n) - 48)
theorem nvl_s {n : Nat} : nvl t a (n + 1) = nvl t a n * 10 + (t (a + n) - 48) := rfl
theorem nvl_bd : ∀ n : Nat, (∀ k, k < n → 48 ≤ t (a + k) ∧ t (a + k) ≤ 57) → 0 ≤ nvl t a n ∧ nvl t a n < 10 ^ n := by
  intro n
  induction n with
  | zero => intro _; exact ⟨Int.le_refl _, show (0 : Int) < 1 by decide⟩
  | succ n ih =>
    intro h
    have h1 := ih fun k hk => h k (by omega)
    have h2 := h n (by omega)
    rw [nvl_s, Int.pow_succ]
    omega
def nvm (t : Nat → Int) (a i : Nat) : Int := nvl t a (if i ≤ 4 then i else 4)
theorem nvm_bd {i : Nat} (h : ∀ k, k < i → 48 ≤ t (a + k) ∧ t (a + k) ≤ 57) : 0 ≤ nvm t a i ∧ nvm t a i ≤ 9999 := by
  unfold nvm
  have h1 := nvl_bd (t := t) (a := a) (if i ≤ 4 then i else 4) fun k hk => h k (by split at hk <;> omega)
  have h2 : (10 : Int) ^ (if i ≤ 4 then i else 4) ≤ 10000 := by
    split
    · rcases (show i = 0 ∨ i = 1 ∨ i = 2 ∨ i = 3 ∨ i = 4 by omega) with rfl | rfl | rfl | rfl | rfl <;> decide
    · decide
  omega
theorem nvm_s {i : Nat} (h : i < 4) : nvm t a (i + 1) = nvm t a i * 10 + (t (a + i) - 48) := by
  unfold nvm
  rw [if_pos (by omega), if_pos (by omega), nvl_s]
theorem nvm_m {i : Nat} (h : 4 ≤ i) : nvm t a (i + 1) = nvm t a i := by
  unfold nvm
  rw [if_neg (by omega)]
  by_cases q : i = 4
  · rw [q]; rfl
  · rw [if_neg (by omega)]
theorem x_numL (hN : N ≤ 900) : ∀ (n i : Nat) (V : Nat → Int), TXx σ V t N → V 3 = ((a + i : Nat) : Int) → V 5 = a → V 8 = nvm t a i → (∀ k, k < i → 48 ≤ t (a + k) ∧ t (a + k) ≤ 57) → a + i ≤ N → N - (a + i) < n → f_X7_stepNumber_h5 n 3 (setc σ 3 V) = f_X7_stepNumber_b81 3 (setc σ 3 (up1 (up1 V 8 (nvm t a (rn (pDg t) N (a + i) - a))) 3 (rn (pDg t) N (a + i)))) := by
  intro n
  induction n with
  | zero => intro i V _ _ _ _ _ _ h; omega
  | succ n ih =>
    intro i V h h3 h5 h6 hl hi hn
    rw [hs_X7_stepNumber_h5]
    unfold f_X7_stepNumber_b5 f_X7_stepNumber_b68
    simp only [gTx, pTx, obs, v3, h.2.2.1, h3, h5, h6, h.1, setc_upm]
    have stop : rn (pDg t) N (a + i) = a + i → up1 (up1 V 8 (nvm t a (rn (pDg t) N (a + i) - a))) 3 (rn (pDg t) N (a + i)) = V := by
      intro q
      rw [q, show a + i - a = i by omega, up1_me h6, up1_me h3]
    by_cases q : N ≤ a + i
    · rw [if_pos (by omega), stop (rn_stop (by omega))]
    · rw [if_neg (by omega), alT h (by omega)]
      simp only [obs]
      rw [x_isDg, obs]
      by_cases z : pDg t (a + i) = true
      · have zl : 48 ≤ t (a + i) ∧ t (a + i) ≤ 57 := by unfold pDg at z; simpa using z
        have bd := nvm_bd hl
        rw [if_pos z, if_neg (by decide), rn_go (by omega) z, w32_in (z := ((a + i : Nat) : Int) - (a : Int)) (by omega) (by omega)]
        have fin : ∀ V' : Nat → Int, V' = up1 V 8 (nvm t a (i + 1)) → f_X7_stepNumber_h5 n 3 (setc σ 3 (up1 V' 3 (w32 (((a + i : Nat) : Int) + 1)))) = f_X7_stepNumber_b81 3 (setc σ 3 (up1 (up1 V 8 (nvm t a (rn (pDg t) N (a + i + 1) - a))) 3 (rn (pDg t) N (a + i + 1)))) := by
          intro V' hw
          rw [hw, wkk1 (by omega), show a + i + 1 = a + (i + 1) from rfl, ih (i + 1) _ ((h.up (by omega)).up (by omega)) up1_eq (by rw [up1_ne (by decide), up1_ne (by decide)]; exact h5) (by rw [up1_ne (by decide), up1_eq]) (fun k hk => ?_) (by omega) (by omega)]
          · congr 2
            funext j
            unfold up1
            grind
          · by_cases kk : k = i
            · rw [kk]; exact zl
            · exact hl k (by omega)
        by_cases y : 4 ≤ i
        · rw [if_pos (by omega)]
          exact fin V (by rw [nvm_m y, up1_me h6])
        · rw [if_neg (by omega), up1_ne (by decide), h3]
          refine fin _ ?_
          rw [nvm_s (by omega), w32_in (z := nvm t a i * 10) (by omega) (by omega), w32_in (z := t (a + i) - 48) (by omega) (by omega), w32_in (by omega) (by omega)]
      · rw [if_neg z, if_pos rfl, stop (rn_stop (fun w => z w.2))]
/-- the token at a, as the court holds it -/
def TokX (t : Nat → Int) (N a : Nat) (V : Nat → Int) : Prop := V 5 = a ∧
  ((a = N ∧ V 4 = 0 ∧ V 3 = a) ∨
   (a < N ∧ pLt t a = true ∧ V 3 = (rn (pLt t) N a : Nat) ∧ V 4 = 2 ∧ V 6 = wvl 27 t a (rn (pLt t) N a - a) ∧ V 7 = ky (V 6)) ∨
   (a < N ∧ pLt t a = false ∧ pDg t a = true ∧ V 3 = (rn (pDg t) N a : Nat) ∧ V 4 = (if rn (pDg t) N a - a ≤ 4 then 3 else 1) ∧ V 8 = nvm t a (rn (pDg t) N a - a)) ∨
   (a < N ∧ pLt t a = false ∧ pDg t a = false ∧ V 3 = ((a + 1 : Nat) : Int) ∧ V 8 = t a ∧ V 4 = (if 59 ≤ t a ∧ t a ≤ 62 then 4 else 1)))
def keepX (V V' : Nat → Int) : Prop := ∀ j, j < 3 ∨ 8 < j → V' j = V j
theorem keepX.up {V' : Nat → Int} {j : Nat} {v : Int} (h : keepX V V') (hj : 3 ≤ j ∧ j ≤ 8) : keepX V (up1 V' j v) := fun i hi => by rw [up1_ne (by omega)]; exact h i hi
theorem keepX.refl : keepX V V := fun _ _ => rfl
theorem x_step {p : Nat} (h : TXx σ V t N) (hp : V 3 = p) (hpN : p ≤ N) : ∃ V', f_X7_step 3 (setc σ 3 V) = some (setc σ 3 V') ∧ keepX V V' ∧ TokX t N (rn (pSp t) N p) V' := by
  have hN := h.2.2.2.1
  have ha := rn_le (P := pSp t) hpN
  unfold f_X7_step
  rw [if_pos oTxt, x_skip FU p V h hp (by unfold FU; omega)]
  generalize rn (pSp t) N p = a at ha ⊢
  unfold f_X7_step_b52
  have h1 : TXx σ (up1 (up1 V 3 (a : Int)) 5 (a : Int)) t N := (h.up (by omega)).up (by omega)
  have e3 : up1 (up1 V 3 (a : Int)) 5 (a : Int) 3 = a := by rw [up1_ne (by decide), up1_eq]
  have k0 : keepX V (up1 (up1 V 3 (a : Int)) 5 (a : Int)) := (keepX.refl.up (by omega)).up (by omega)
  simp only [gTx, pTx, obs, v3, setc_upm, up1_eq, h1.1, h1.2.2.1]
  by_cases q : a < N
  · rw [if_pos (by omega), alT h1 q]
    simp only [obs]
    rw [x_isLt, obs]
    by_cases z : pLt t a = true
    · rw [if_pos z, if_neg (by decide)]
      unfold f_X7_stepWord f_X7_stepWord_b0
      rw [if_pos oTxt, pTx, obs, setc_upm, x_wordL hN (a := a) FU 0 _ (h1.up (by omega)) (by rw [up1_ne (by decide), e3]; rfl) (by rw [up1_ne (by decide), up1_eq]) (by rw [up1_eq]; rfl) (fun k hk => by omega) (by omega) (by unfold FU; omega), Nat.add_zero, up1_up1]
      generalize hw : up1 (up1 (up1 (up1 V 3 (a : Int)) 5 (a : Int)) 6 (wvl 27 t a (rn (pLt t) N a - a))) 3 ((rn (pLt t) N a : Nat) : Int) = Vw
      have kw : keepX V Vw := by rw [← hw]; exact (k0.up (by omega)).up (by omega)
      have hx : TXx σ Vw t N := by rw [← hw]; exact (h1.up (by omega)).up (by omega)
      have w3 : Vw 3 = (rn (pLt t) N a : Nat) := by rw [← hw, up1_eq]
      have w5 : Vw 5 = a := by rw [← hw, up1_ne (by decide), up1_ne (by decide), up1_eq]
      have w6 : Vw 6 = wvl 27 t a (rn (pLt t) N a - a) := by rw [← hw, up1_ne (by decide), up1_eq]
      unfold f_X7_stepWord_b96
      simp only [gTx, pTx, obs, v3, setc_upm]
      rw [up1_ne (by decide)]
      have r6 : R64 (Vw 6) := by
        have := ev_bd (b := 27) (t := t) (a := a) (i := rn (pLt t) N a - a) (by omega) (by omega) (fun k hk => by
          have := (rn_in (P := pLt t) (N := N) (p := a) (i := a + k) (by omega) (by omega)).2
          unfold pLt at this; simpa using this)
        unfold R64
        rw [w6]
        unfold wvl
        split
        · have := this (by omega); omega
        · omega
      rw [x_keyOf (hx.up (by omega)) r6, obs]
      refine ⟨_, rfl, (kw.up (by omega)).up (by omega), ?_, .inr (.inl ⟨q, z, ?_, ?_, ?_, ?_⟩)⟩
      · rw [up1_ne (by decide), up1_ne (by decide), w5]
      · rw [up1_ne (by decide), up1_ne (by decide), w3]
      · rw [up1_ne (by decide), up1_eq]
      · rw [up1_ne (by decide), up1_ne (by decide), w6]
      · rw [up1_eq, up1_ne (by decide), up1_ne (by decide)]
    · have z' : pLt t a = false := by simpa using z
      rw [if_neg z, if_pos rfl, x_isDg, obs]
      by_cases y : pDg t a = true
      · rw [if_pos y, if_neg (by decide)]
        unfold f_X7_stepNumber f_X7_stepNumber_b0
        rw [if_pos oTxt, pTx, obs, setc_upm, x_numL hN (a := a) FU 0 _ (h1.up (by omega)) (by rw [up1_ne (by decide), e3]; rfl) (by rw [up1_ne (by decide), up1_eq]) (by rw [up1_eq]; rfl) (fun k hk => by omega) (by omega) (by unfold FU; omega), Nat.add_zero, up1_up1]
        generalize hw : up1 (up1 (up1 (up1 V 3 (a : Int)) 5 (a : Int)) 8 (nvm t a (rn (pDg t) N a - a))) 3 ((rn (pDg t) N a : Nat) : Int) = Vw
        have kw : keepX V Vw := by rw [← hw]; exact (k0.up (by omega)).up (by omega)
        have w3 : Vw 3 = (rn (pDg t) N a : Nat) := by rw [← hw, up1_eq]
        have w5 : Vw 5 = a := by rw [← hw, up1_ne (by decide), up1_ne (by decide), up1_eq]
        have w8 : Vw 8 = nvm t a (rn (pDg t) N a - a) := by rw [← hw, up1_ne (by decide), up1_eq]
        have ge := rn_ge (P := pDg t) (N := N) (p := a)
        have le := rn_le (P := pDg t) (N := N) (p := a) (by omega)
        unfold f_X7_stepNumber_b81
        simp only [gTx, pTx, obs, v3, setc_upm, w3, w5]
        rw [w32_in (by omega) (by omega)]
        by_cases x4 : rn (pDg t) N a - a ≤ 4
        · rw [if_pos (by omega)]
          refine ⟨_, rfl, kw.up (by omega), ?_, .inr (.inr (.inl ⟨q, z', y, ?_, ?_, ?_⟩))⟩
          · rw [up1_ne (by decide), w5]
          · rw [up1_ne (by decide), w3]
          · rw [up1_eq, if_pos x4]
          · rw [up1_ne (by decide), w8]
        · rw [if_neg (by omega)]
          refine ⟨_, rfl, kw.up (by omega), ?_, .inr (.inr (.inl ⟨q, z', y, ?_, ?_, ?_⟩))⟩
          · rw [up1_ne (by decide), w5]
          · rw [up1_ne (by decide), w3]
          · rw [up1_eq, if_neg x4]
          · rw [up1_ne (by decide), w8]
      · have y' : pDg t a = false := by simpa using y
        rw [if_neg y, if_pos rfl]
        unfold f_X7_stepSign f_X7_stepSign_b0 f_X7_stepSign_b60
        simp only [oTxt, if_true, gTx, pTx, obs, v3, setc_upm, h1.1, up1_eq]
        rw [alT h1 q]
        simp only [obs, gTx, pTx, v3, setc_upm, up1_eq]
        rw [up1_ne (show ¬ (3 : Nat) = 8 by decide), e3, wkk1 (by omega)]
        generalize hw : up1 (up1 (up1 (up1 V 3 (a : Int)) 5 (a : Int)) 8 (t a)) 3 ((a + 1 : Nat) : Int) = Vw
        have kw : keepX V Vw := by rw [← hw]; exact (k0.up (by omega)).up (by omega)
        have w3 : Vw 3 = ((a + 1 : Nat) : Int) := by rw [← hw, up1_eq]
        have w5 : Vw 5 = a := by rw [← hw, up1_ne (by decide), up1_ne (by decide), up1_eq]
        have w8 : Vw 8 = t a := by rw [← hw, up1_ne (by decide), up1_eq]
        refine ⟨up1 Vw 4 (if 59 ≤ t a ∧ t a ≤ 62 then 4 else 1), ?_, kw.up (by omega), ?_, .inr (.inr (.inr ⟨q, z', y', ?_, ?_, ?_⟩))⟩
        · rw [w8, o_eta]
          by_cases c : 59 ≤ t a ∧ t a ≤ 62
          · rw [if_pos c]
            rcases (show t a = 59 ∨ t a = 60 ∨ t a = 61 ∨ t a = 62 by omega) with c | c | c | c <;> simp [c]
          · rw [if_neg c, if_neg (by omega), if_neg (by omega), if_neg (by omega), if_neg (by omega)]
        · rw [up1_ne (by decide), w5]
        · rw [up1_ne (by decide), w3]
        · rw [up1_ne (by decide), w8]
        · rw [up1_eq]
  · rw [if_neg (by omega)]
    refine ⟨_, rfl, k0.up (by omega), ?_, .inl ⟨by omega, up1_eq, ?_⟩⟩
    · rw [up1_ne (by decide), up1_eq]
    · rw [up1_ne (by decide), e3]
end
