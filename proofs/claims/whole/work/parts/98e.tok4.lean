/-! ===== texts: the reference's tokens ===== -/
section
variable {σ σ' τ : Mem} {V W t : Nat → Int} {N a : Nat}
def TXm (τ : Mem) (W t : Nat → Int) (N : Nat) : Prop := W 7 = 117 ∧ W 9 = N ∧ N ≤ 900 ∧ ∀ i, i < 900 → τ 117 i = t i ∧ -128 ≤ t i ∧ t i ≤ 127
theorem TXm.up {j : Nat} {v : Int} (h : TXm τ W t N) (hj : 12 ≤ j) : TXm τ (up1 W j v) t N := by
  obtain ⟨h1, h2, h3⟩ := h
  exact ⟨by rw [up1_ne (by omega)]; exact h1, by rw [up1_ne (by omega)]; exact h2, h3⟩
theorem v113 {j : Nat} : setc τ 113 W 113 j = W j := by rw [setc_same]
theorem iand255 {x : Int} (h : -128 ≤ x ∧ x ≤ 127) : iand x 255 = if x < 0 then x + 256 else x := by
  have key : ∀ k : Fin 256, iand ((k.val : Int) - 128) 255 = if (k.val : Int) - 128 < 0 then (k.val : Int) - 128 + 256 else (k.val : Int) - 128 := by decide +kernel
  have := key ⟨(x + 128).toNat, by omega⟩
  rw [show (((⟨(x + 128).toNat, by omega⟩ : Fin 256).val : Int)) - 128 = x by show (((x + 128).toNat : Nat) : Int) - 128 = x; omega] at this
  exact this
/-- a byte without its sign -/
def ub (x : Int) : Int := if x < 0 then x + 256 else x
theorem m_look {i : Nat} (h : TXm τ W t N) : f_X12_look2 113 (i : Int) (setc τ 113 W) = some (if N ≤ i then 0 else ub (t i)) := by
  obtain ⟨h1, h2, h3, h4⟩ := h
  unfold f_X12_look2 f_X12_look2_b0
  simp only [oM, if_true, gM, obs, v113, h1, h2]
  by_cases q : N ≤ i
  · rw [if_pos (by omega), if_pos q]
  · obtain ⟨g1, g2⟩ := h4 i (by omega)
    rw [if_neg (by omega), if_neg q, alMt (by omega) (by omega), obs, setc_ne (by decide), Int.toNat_natCast, g1, iand255 g2]
    rfl
theorem m_isLt {i : Nat} (h : TXm τ W t N) : f_X12_isLetter (if N ≤ i then 0 else ub (t i)) σ = some (if i < N ∧ pLt t i = true then 1 else 0) := by
  have hb : i < N → -128 ≤ t i := fun q => (h.2.2.2 i (by have := h.2.2.1; omega)).2.1
  clear h
  unfold f_X12_isLetter f_X12_isLetter_b0 pLt ub
  grind
theorem m_isDg {i : Nat} (h : TXm τ W t N) : f_X12_isDigit (if N ≤ i then 0 else ub (t i)) σ = some (if i < N ∧ pDg t i = true then 1 else 0) := by
  have hb : i < N → -128 ≤ t i := fun q => (h.2.2.2 i (by have := h.2.2.1; omega)).2.1
  clear h
  unfold f_X12_isDigit f_X12_isDigit_b0 pDg ub
  grind
theorem m_skip : ∀ (n p : Nat) (W : Nat → Int), TXm τ W t N → W 15 = p → N - p < n → f_X12_advance_h8 n 113 (setc τ 113 W) = f_X12_advance_b58 113 (setc τ 113 (up1 W 15 (rn (pSp t) N p))) := by
  intro n
  induction n with
  | zero => intro p W _ _ h; omega
  | succ n ih =>
    intro p W h hp hn
    rw [hs_X12_advance_h8]
    unfold f_X12_advance_b8 f_X12_advance_b45
    simp only [gM, pM, obs, v113, h.2.1, hp, setc_upm]
    by_cases q : N ≤ p
    · rw [if_pos (by omega), rn_stop (by omega), up1_me hp]
    · rw [if_neg (by omega), m_look h]
      simp only [obs]
      rw [if_neg (show ¬ N ≤ p from q)]
      have nx : f_X12_advance_h8 n 113 (setc τ 113 (up1 W 15 (w32 ((p : Int) + 1)))) = f_X12_advance_b58 113 (setc τ 113 (up1 W 15 (rn (pSp t) N (p + 1)))) := by
        have hN := h.2.2.1
        rw [wkk1 (by omega), ih (p + 1) _ (h.up (by omega)) up1_eq (by omega), up1_up1]
      by_cases z : pSp t p = true
      · rw [rn_go (by omega) z, nx]
        unfold pSp at z
        unfold ub
        grind
      · rw [rn_stop (fun w => z w.2), up1_me hp]
        have b := (h.2.2.2 p (by have := h.2.2.1; omega)).2
        unfold pSp at z
        unfold ub
        grind
theorem m_wordL (hN : N ≤ 900) : ∀ (n i : Nat) (W : Nat → Int), TXm τ W t N → W 16 = ((a + i : Nat) : Int) → W 15 = a → W 19 = wvl 32 t a i → (∀ k, k < i → 97 ≤ t (a + k) ∧ t (a + k) ≤ 122) → a + i ≤ N → N - (a + i) < n → f_X12_advance_h109 n 113 (setc τ 113 W) = some (setc τ 113 (up1 (up1 (up1 W 19 (wvl 32 t a (rn (pLt t) N (a + i) - a))) 16 (rn (pLt t) N (a + i))) 18 ((rn (pLt t) N (a + i) - a : Nat) : Int))) := by
  intro n
  induction n with
  | zero => intro i V _ _ _ _ _ _ h; omega
  | succ n ih =>
    intro i W h h3 h5 h6 hl hi hn
    rw [hs_X12_advance_h109]
    unfold f_X12_advance_b109 f_X12_advance_b166
    simp only [gM, pM, obs, v113, h3, h5, h6, setc_upm]
    rw [m_look h, obs, m_isLt h, obs]
    by_cases z : a + i < N ∧ pLt t (a + i) = true
    · have zl : 97 ≤ t (a + i) ∧ t (a + i) ≤ 122 := by have := z.2; unfold pLt at this; simpa using this
      rw [if_pos z, if_neg (by decide), rn_go z.1 z.2, w32_in (z := ((a + i : Nat) : Int) - (a : Int)) (by omega) (by omega)]
      have fin : ∀ w : Int, w = wvl 32 t a (i + 1) → f_X12_advance_h109 n 113 (setc τ 113 (up1 (up1 W 19 w) 16 (w32 (up1 W 19 w 16 + 1)))) = some (setc τ 113 (up1 (up1 (up1 W 19 (wvl 32 t a (rn (pLt t) N (a + i + 1) - a))) 16 (rn (pLt t) N (a + i + 1))) 18 ((rn (pLt t) N (a + i + 1) - a : Nat) : Int))) := by
        intro w hw
        rw [up1_ne (by decide), h3, wkk1 (by omega), show a + i + 1 = a + (i + 1) from rfl, ih (i + 1) _ ((h.up (by omega)).up (by omega)) up1_eq (by rw [up1_ne (by decide), up1_ne (by decide)]; exact h5) (by rw [up1_ne (by decide), up1_eq, hw]) (fun k hk => ?_) (by omega) (by omega)]
        · congr 2
          funext j
          unfold up1
          grind
        · by_cases kk : k = i
          · rw [kk]; exact zl
          · exact hl k (by omega)
      by_cases y : 8 ≤ i
      · rw [if_pos (by omega)]
        exact fin (-1) (by unfold wvl; rw [if_neg (by omega)])
      · rw [if_neg (by omega)]
        refine fin _ ?_
        have b := ev_bd (b := 32) (by omega) (by omega) hl (show i ≤ 8 by omega)
        have e : wvl 32 t a i = ((ev 32 (lts t a i) : Nat) : Int) := by unfold wvl; rw [if_pos (by omega)]
        rw [wvl_s zl (by omega), if_neg (by omega), show ub (t (a + i)) = t (a + i) by unfold ub; rw [if_neg (by omega)], e, w64_in (z := ((ev 32 (lts t a i) : Nat) : Int) * 32) (by omega) (by omega), w64_in (z := ((ev 32 (lts t a i) : Nat) : Int) * 32 + t (a + i)) (by omega) (by omega), w64_in (by omega) (by omega)]
        omega
    · rw [if_neg z, if_pos rfl, rn_stop z, show a + i - a = i by omega, w32_in (by omega) (by omega), up1_me h6, up1_me h3]
      congr 3
      omega
theorem m_numL (hN : N ≤ 900) : ∀ (n i : Nat) (W : Nat → Int), TXm τ W t N → W 16 = ((a + i : Nat) : Int) → W 15 = a → W 17 = nvm t a i → (∀ k, k < i → 48 ≤ t (a + k) ∧ t (a + k) ≤ 57) → a + i ≤ N → N - (a + i) < n → f_X12_advance_h210 n 113 (setc τ 113 W) = some (setc τ 113 (up1 (up1 (up1 W 17 (nvm t a (rn (pDg t) N (a + i) - a))) 16 (rn (pDg t) N (a + i))) 14 (if rn (pDg t) N (a + i) - a ≤ 4 then 2 else 4))) := by
  intro n
  induction n with
  | zero => intro i V _ _ _ _ _ _ h; omega
  | succ n ih =>
    intro i W h h3 h5 h6 hl hi hn
    rw [hs_X12_advance_h210]
    unfold f_X12_advance_b210 f_X12_advance_b260 f_X12_advance_b292
    simp only [gM, pM, obs, v113, h3, h5, h6, setc_upm]
    rw [m_look h, obs, m_isDg h, obs]
    by_cases z : a + i < N ∧ pDg t (a + i) = true
    · have zl : 48 ≤ t (a + i) ∧ t (a + i) ≤ 57 := by have := z.2; unfold pDg at this; simpa using this
      have bd := nvm_bd hl
      rw [if_pos z, if_neg (by decide), rn_go z.1 z.2, w32_in (z := ((a + i : Nat) : Int) - (a : Int)) (by omega) (by omega)]
      have fin : ∀ W' : Nat → Int, W' = up1 W 17 (nvm t a (i + 1)) → f_X12_advance_h210 n 113 (setc τ 113 (up1 W' 16 (w32 (((a + i : Nat) : Int) + 1)))) = some (setc τ 113 (up1 (up1 (up1 W 17 (nvm t a (rn (pDg t) N (a + i + 1) - a))) 16 (rn (pDg t) N (a + i + 1))) 14 (if rn (pDg t) N (a + i + 1) - a ≤ 4 then 2 else 4))) := by
        intro W' hw
        rw [hw, wkk1 (by omega), show a + i + 1 = a + (i + 1) from rfl, ih (i + 1) _ ((h.up (by omega)).up (by omega)) up1_eq (by rw [up1_ne (by decide), up1_ne (by decide)]; exact h5) (by rw [up1_ne (by decide), up1_eq]) (fun k hk => ?_) (by omega) (by omega)]
        · congr 2
          funext j
          unfold up1
          grind
        · by_cases kk : k = i
          · rw [kk]; exact zl
          · exact hl k (by omega)
      by_cases y : 4 ≤ i
      · rw [if_pos (by omega)]
        exact fin W (by rw [nvm_m y, up1_me h6])
      · rw [if_neg (by omega), if_neg (show ¬ N ≤ a + i by omega), obs, up1_ne (show ¬ (16 : Nat) = 17 by decide), h3]
        refine fin _ ?_
        rw [nvm_s (by omega), show ub (t (a + i)) = t (a + i) by unfold ub; rw [if_neg (by omega)], w32_in (z := 10 * nvm t a i) (by omega) (by omega), w32_in (z := 10 * nvm t a i + t (a + i)) (by omega) (by omega), w32_in (by omega) (by omega)]
        congr 1
        omega
    · rw [if_neg z, if_pos rfl, rn_stop z, show a + i - a = i by omega, w32_in (by omega) (by omega), up1_me h6, up1_me h3]
      by_cases y : i ≤ 4
      · rw [if_pos (by omega), if_pos y]
      · rw [if_neg (by omega), if_neg y]
/-- the token at a, as the reference holds it -/
def TokM (t : Nat → Int) (N a : Nat) (W : Nat → Int) : Prop := W 15 = a ∧
  ((a = N ∧ W 14 = 0 ∧ W 16 = a) ∨
   (a < N ∧ pLt t a = true ∧ W 16 = (rn (pLt t) N a : Nat) ∧ W 14 = 1 ∧ W 19 = wvl 32 t a (rn (pLt t) N a - a) ∧ W 18 = ((rn (pLt t) N a - a : Nat) : Int)) ∨
   (a < N ∧ pLt t a = false ∧ pDg t a = true ∧ W 16 = (rn (pDg t) N a : Nat) ∧ W 14 = (if rn (pDg t) N a - a ≤ 4 then 2 else 4) ∧ W 17 = nvm t a (rn (pDg t) N a - a)) ∨
   (a < N ∧ pLt t a = false ∧ pDg t a = false ∧ W 16 = ((a + 1 : Nat) : Int) ∧ W 17 = ub (t a) ∧ W 14 = (if 59 ≤ t a ∧ t a ≤ 62 then 3 else 4)))
def keepM (W W' : Nat → Int) : Prop := ∀ j, j < 14 ∨ 19 < j → W' j = W j
theorem keepM.up {W' : Nat → Int} {j : Nat} {v : Int} (h : keepM W W') (hj : 14 ≤ j ∧ j ≤ 19) : keepM W (up1 W' j v) := fun i hi => by rw [up1_ne (by omega)]; exact h i hi
theorem keepM.refl : keepM W W := fun _ _ => rfl
theorem m_adv {p : Nat} (h : TXm τ W t N) (hp : W 16 = p) (hpN : p ≤ N) : ∃ W', f_X12_advance 113 (setc τ 113 W) = some (setc τ 113 W') ∧ keepM W W' ∧ TokM t N (rn (pSp t) N p) W' := by
  have hN := h.2.2.1
  have ha := rn_le (P := pSp t) hpN
  unfold f_X12_advance f_X12_advance_b0
  rw [if_pos oM, gM, obs, v113, hp, pM, obs, setc_upm, m_skip FU p _ (h.up (by omega)) up1_eq (by unfold FU; omega), up1_up1]
  generalize rn (pSp t) N p = a at ha ⊢
  unfold f_X12_advance_b58
  have h1 : TXm τ (up1 (up1 W 15 (a : Int)) 16 (a : Int)) t N := (h.up (by omega)).up (by omega)
  have e5 : up1 (up1 W 15 (a : Int)) 16 (a : Int) 15 = a := by rw [up1_ne (by decide), up1_eq]
  have k0 : keepM W (up1 (up1 W 15 (a : Int)) 16 (a : Int)) := (keepM.refl.up (by omega)).up (by omega)
  simp only [gM, pM, obs, v113, setc_upm, up1_eq, e5, h1.2.1]
  generalize hw0 : up1 (up1 W 15 (a : Int)) 16 (a : Int) = W0 at h1 e5 k0 ⊢
  have e6 : W0 16 = a := by rw [← hw0, up1_eq]
  by_cases q : a < N
  · rw [if_pos (by omega), m_look h1, obs, m_isLt h1, obs]
    by_cases z : pLt t a = true
    · rw [if_pos (show a < N ∧ pLt t a = true from ⟨q, z⟩), if_neg (show ¬ (1 : Int) = 0 by decide), m_wordL hN (a := a) FU 0 _ ((h1.up (by omega)).up (by omega)) (by rw [up1_ne (by decide), up1_ne (by decide), e6]; rfl) (by rw [up1_ne (by decide), up1_ne (by decide), e5]) (by rw [up1_eq]; rfl) (fun k hk => by omega) (by omega) (by unfold FU; omega), Nat.add_zero, up1_up1]
      refine ⟨_, rfl, ((((k0.up (by omega)).up (by omega)).up (by omega)).up (by omega)), ?_, .inr (.inl ⟨q, z, ?_, ?_, ?_, up1_eq⟩)⟩
      · rw [up1_ne (by decide), up1_ne (by decide), up1_ne (by decide), up1_ne (by decide), e5]
      · rw [up1_ne (by decide), up1_eq]
      · rw [up1_ne (by decide), up1_ne (by decide), up1_ne (by decide), up1_eq]
      · rw [up1_ne (by decide), up1_ne (by decide), up1_eq]
    · have z' : pLt t a = false := by simpa using z
      rw [if_neg (show ¬ (a < N ∧ pLt t a = true) from fun w => z w.2), if_pos (show (0 : Int) = 0 from rfl), m_isDg h1, obs]
      by_cases y : pDg t a = true
      · rw [if_pos (show a < N ∧ pDg t a = true from ⟨q, y⟩), if_neg (show ¬ (1 : Int) = 0 by decide), m_numL hN (a := a) FU 0 _ (h1.up (by omega)) (by rw [up1_ne (by decide), e6]; rfl) (by rw [up1_ne (by decide), e5]) (by rw [up1_eq]; rfl) (fun k hk => by omega) (by omega) (by unfold FU; omega), Nat.add_zero, up1_up1]
        refine ⟨_, rfl, (((k0.up (by omega)).up (by omega)).up (by omega)), ?_, .inr (.inr (.inl ⟨q, z', y, ?_, up1_eq, ?_⟩))⟩
        · rw [up1_ne (by decide), up1_ne (by decide), up1_ne (by decide), e5]
        · rw [up1_ne (by decide), up1_eq]
        · rw [up1_ne (by decide), up1_ne (by decide), up1_eq]
      · have y' : pDg t a = false := by simpa using y
        have b := (h.2.2.2 a (by omega)).2
        rw [if_neg (show ¬ (a < N ∧ pDg t a = true) from fun w => y w.2), if_pos (show (0 : Int) = 0 from rfl), if_neg (show ¬ N ≤ a by omega), wkk1 (by omega)]
        unfold f_X12_isSignByte f_X12_isSignByte_b0 f_X12_isSignByte_b24
        rw [if_pos oM]
        refine ⟨up1 (up1 (up1 W0 16 ((a + 1 : Nat) : Int)) 17 (ub (t a))) 14 (if 59 ≤ t a ∧ t a ≤ 62 then 3 else 4), ?_, (((k0.up (by omega)).up (by omega)).up (by omega)), ?_, .inr (.inr (.inr ⟨q, z', y', ?_, ?_, up1_eq⟩))⟩
        · by_cases c : 59 ≤ t a ∧ t a ≤ 62
          · rw [if_pos c]
            rcases (show t a = 59 ∨ t a = 60 ∨ t a = 61 ∨ t a = 62 by omega) with c | c | c | c <;> simp [c, ub]
          · have c2 : ¬ (59 ≤ ub (t a) ∧ ub (t a) ≤ 62) := by unfold ub; split <;> omega
            rw [if_neg c, if_neg (by omega), if_neg (by omega), if_neg (by omega), if_neg (by omega)]
            rfl
        · rw [up1_ne (by decide), up1_ne (by decide), up1_ne (by decide), e5]
        · rw [up1_ne (by decide), up1_ne (by decide), up1_eq]
        · rw [up1_ne (by decide), up1_eq]
  · rw [if_neg (by omega)]
    refine ⟨_, rfl, k0.up (by omega), ?_, .inl ⟨by omega, up1_eq, ?_⟩⟩
    · rw [up1_ne (by decide), e5]
    · rw [up1_ne (by decide), e6]
end
