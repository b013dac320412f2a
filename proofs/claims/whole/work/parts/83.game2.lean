/-! ===== game, moveOf: the reference's ===== -/
section
variable {σ τ : Mem} {B D : Nat → Int} {g q : Int}
def leA (a : Bool) (x y : Int) : Prop := if a = true then x ≤ y else y ≤ x
def ltA (a : Bool) (x y : Int) : Prop := if a = true then x < y else y < x
def fmf (a : Bool) (cd : Nat → Bool) (v : Nat → Int) : Nat → Int × Int
  | 0 => (0, -1)
  | i + 1 => if cd i = true ∧ ((fmf a cd v i).2 < 0 ∨ (if a = true then (fmf a cd v i).1 < v i else v i < (fmf a cd v i).1)) then (v i, (i : Int)) else fmf a cd v i
theorem fmf_s {a : Bool} {cd : Nat → Bool} {v : Nat → Int} {i : Nat} : fmf a cd v (i + 1) = if cd i = true ∧ ((fmf a cd v i).2 < 0 ∨ (if a = true then (fmf a cd v i).1 < v i else v i < (fmf a cd v i).1)) then (v i, (i : Int)) else fmf a cd v i := rfl
theorem fm_inv {a : Bool} {cd : Nat → Bool} {v : Nat → Int} {N : Nat} : ((∀ i, i < N → cd i = false) ∧ fmf a cd v N = (0, -1)) ∨ ∃ b : Nat, b < N ∧ cd b = true ∧ fmf a cd v N = (v b, (b : Int)) ∧ (∀ i, i < N → cd i = true → leA a (v i) (v b)) ∧ (∀ i, i < b → cd i = true → ltA a (v i) (v b)) := by
  induction N with
  | zero => exact .inl ⟨fun i hi => by omega, rfl⟩
  | succ N ih =>
    rw [fmf_s]
    rcases ih with ⟨h1, h2⟩ | ⟨b, h1, h2, h3, h4, h5⟩
    · rw [h2]
      by_cases z : cd N = true
      · rw [if_pos ⟨z, .inl (by decide)⟩]
        refine .inr ⟨N, by omega, z, rfl, fun i hi hc => ?_, fun i hi hc => ?_⟩
        · by_cases e : i = N
          · rw [e]; unfold leA; split <;> exact Int.le_refl _
          · rw [h1 i (by omega)] at hc; cases hc
        · rw [h1 i (by omega)] at hc; cases hc
      · rw [if_neg (fun w => z w.1)]
        refine .inl ⟨fun i hi => ?_, rfl⟩
        by_cases e : i = N
        · rw [e]; simpa using z
        · exact h1 i (by omega)
    · rw [h3]
      dsimp only
      by_cases z : cd N = true
      · by_cases z2 : ltA a (v b) (v N)
        · rw [if_pos ⟨z, .inr z2⟩]
          refine .inr ⟨N, by omega, z, rfl, fun i hi hc => ?_, fun i hi hc => ?_⟩
          · by_cases e : i = N
            · rw [e]; unfold leA; split <;> exact Int.le_refl _
            · have := h4 i (by omega) hc
              unfold leA at this ⊢
              unfold ltA at z2
              cases a <;> simp only [Bool.false_eq_true, if_false, if_true] at * <;> omega
          · have := h4 i (by omega) hc
            unfold leA at this
            unfold ltA at z2 ⊢
            cases a <;> simp only [Bool.false_eq_true, if_false, if_true] at * <;> omega
        · rw [if_neg (fun w => w.2.elim (fun r => by omega) (fun r => z2 r))]
          refine .inr ⟨b, by omega, h2, rfl, fun i hi hc => ?_, h5⟩
          by_cases e : i = N
          · rw [e]
            unfold leA
            unfold ltA at z2
            cases a <;> simp only [Bool.false_eq_true, if_false, if_true] at * <;> omega
          · exact h4 i (by omega) hc
      · rw [if_neg (fun w => z w.1)]
        refine .inr ⟨b, by omega, h2, rfl, fun i hi hc => ?_, h5⟩
        by_cases e : i = N
        · rw [e] at hc; exact absurd hc z
        · exact h4 i (by omega) hc
theorem fm_spec {a : Bool} {cd : Nat → Bool} {v : Nat → Int} {N : Nat} {M : Int} (h1 : ∀ i, i < N → cd i = true → leA a (v i) M) (h2 : ∃ i, i < N ∧ cd i = true ∧ v i = M) : fmf a cd v N = (M, ff (fun i => cd i && decide (v i = M)) N 0) := by
  obtain ⟨i, i1, i2, i3⟩ := h2
  rcases @fm_inv a cd v N with ⟨k1, k2⟩ | ⟨b, k1, k2, k3, k4, k5⟩
  · rw [k1 i i1] at i2; cases i2
  · have e : v b = M := by
      have e1 := k4 i i1 i2
      have e2 := h1 b k1 k2
      rw [i3] at e1
      unfold leA at e1 e2
      cases a <;> simp only [Bool.false_eq_true, if_false, if_true] at * <;> omega
    rw [k3, e]
    rcases ff_spec (fun i => cd i && decide (v i = M)) N 0 with ⟨f1, f2⟩ | ⟨k, f1, f2, f3, f4, f5⟩
    · have := f2 b (by omega) k1
      simp [k2, e] at this
    · rw [f1]
      simp only [Bool.and_eq_true, decide_eq_true_eq] at f4
      have l1 : ¬ b < k := fun z => by
        have := f5 b (by omega) z
        simp [k2, e] at this
      have l2 : ¬ k < b := fun z => by
        have := k5 k z f4.1
        rw [f4.2, e] at this
        unfold ltA at this
        cases a <;> simp only [Bool.false_eq_true, if_false, if_true] at * <;> omega
      rw [show k = b by omega]
/-! counts of sets -/
def b2n (x : Bool) : Nat := if x = true then 1 else 0
theorem cnt_one {P Q : Nat → Bool} {i n : Nat} (hi : i < n) (h : ∀ k, k < n → ¬ k = i → P k = Q k) : cnt Q n + b2n (P i) = cnt P n + b2n (Q i) := by
  induction n with
  | zero => omega
  | succ n ih =>
    rw [cnt_s, cnt_s]
    by_cases e : i = n
    · subst e
      rw [cnt_cg (P := Q) (Q := P) (fun k hk => (h k (by omega) (by omega)).symm)]
      unfold b2n
      omega
    · have := ih (by omega) (fun k hk => h k (by omega))
      rw [h n (by omega) (by omega)]
      omega
theorem cnt_4 {P Q R S : Nat → Bool} {n : Nat} (h : ∀ k, k < n → b2n (P k) + b2n (Q k) = b2n (R k) + b2n (S k)) : cnt P n + cnt Q n = cnt R n + cnt S n := by
  induction n with
  | zero => rfl
  | succ n ih =>
    have h1 := ih (fun k hk => h k (by omega))
    have h2 := h n (by omega)
    unfold b2n at h2
    rw [cnt_s, cnt_s, cnt_s, cnt_s]
    omega
def usd (A F p : Nat) : Bool := A.testBit p || F.testBit p
def sN (B : Nat → Int) (g q : Int) (A F : Nat) : Nat := cnt (fun p => swB B g q p && !usd A F p) (nP B)
def kN (B : Nat → Int) (g q : Int) (A F : Nat) : Nat := cnt (fun p => kpB' B g q p && !usd A F p) (nP B)
def Cv (B : Nat → Int) (g : Int) (q : Nat) (A F : Nat) : Int := (tc B g q : Nat) + (cnt (fun p => swB B g q p && A.testBit p) (nP B) : Nat) - (cnt (fun p => kpB' B g q p && F.testBit p) (nP B) : Nat)
def tB' (B : Nat → Int) (g q : Int) (A F p : Nat) : Bool := stn B p && decide (mc B p q - (if A.testBit p = true then 3 else 0) + (if F.testBit p = true then 3 else 0) < g)
theorem tc_cnt {p : Nat} (hB : BV B) : tc B g p = cnt (tB B g p) (nP B) := by
  unfold tc tS
  rw [sz_setOf hB.nP_le.1]
theorem score_eq {p A F : Nat} (hB : BV B) (hd : ∀ k, ¬ (A.testBit k = true ∧ F.testBit k = true)) : ((cnt (tB' B g p A F) (nP B) : Nat) : Int) = Cv B g p A F := by
  have := cnt_4 (P := tB' B g p A F) (Q := fun r => kpB' B g p r && F.testBit r) (R := tB B g p) (S := fun r => swB B g p r && A.testBit r) (n := nP B) (fun k hk => by
    have := hd k
    unfold tB' kpB' tB swB b2n
    cases stn B k
    · simp
    · cases e1 : A.testBit k <;> cases e2 : F.testBit k
      · simp
      · simp
        grind
      · simp
        grind
      · exact absurd ⟨e1, e2⟩ this)
  unfold Cv
  rw [tc_cnt hB]
  omega
theorem m_scoreOf {p A F : Nat} (h : MH τ B) (hp : p < 10) (hA : A < 1024) (hF : F < 1024) (hg : 0 ≤ g ∧ g ≤ 99) : f_X12_scoreOf 113 g p A F τ = some ((cnt (tB' B g p A F) (nP B) : Nat) : Int) := by
  have hB := h.2.2.nP_le
  unfold f_X12_scoreOf f_X12_scoreOf_b0
  rw [if_pos oM]
  refine up_all (Q := fun n i => f_X12_scoreOf_h6 n 113 g p A F (cnt (tB' B g p A F) i : Nat) i τ = some ((cnt (tB' B g p A F) (nP B) : Nat) : Int)) (nP B) (fun n => ?_) (fun n i hi ih => ?_) (by unfold FU; omega)
  · rw [hs_X12_scoreOf_h6]
    unfold f_X12_scoreOf_b6
    simp only [gM, obs, h.1.at 113 20 118 rfl, m_c0 h]
    rw [if_pos (by omega)]
  · have l := cnt_le (tB' B g p A F) i
    rw [hs_X12_scoreOf_h6]
    unfold f_X12_scoreOf_b6 f_X12_scoreOf_b50 f_X12_scoreOf_b66 f_X12_scoreOf_b75 f_X12_scoreOf_b78
    simp only [gM, obs, h.1.at 113 20 118 rfl, m_c0 h, m_stone' h (show i < 1000 by omega), s_has (show i < 32 by omega) (show A < 2147483648 by omega), s_has (show i < 32 by omega) (show F < 2147483648 by omega), m_mercyOf h.1 h.2.1 h.2.2 (show i < 10 by omega) (show 0 ≤ (p : Int) ∧ (p : Int) < 10 by omega)]
    rw [if_neg (by omega), w32_in (z := (i : Int) + 1) (by omega) (by omega)]
    rw [cnt_s] at ih
    have lm := @mc_le B i p h.2.2 (by omega) (by omega)
    by_cases z : stn B i = true
    · have e : (tB' B g p A F i = true) ↔ mc B i p - (if A.testBit i = true then 3 else 0) + (if F.testBit i = true then 3 else 0) < g := by unfold tB'; simp [z]
      rw [if_pos z, if_neg (by decide)]
      cases e1 : A.testBit i <;> cases e2 : F.testBit i <;> simp only [e1, e2, Bool.false_eq_true, if_false, if_true, Int.one_ne_zero] at e ⊢
      all_goals
        rw [w32_in (z := mc B i (p : Int) - _) (by omega) (by omega), w32_in (z := mc B i (p : Int) - _ + _) (by omega) (by omega)]
        by_cases z2 : tB' B g p A F i = true
        · rw [if_pos z2] at ih
          have z3 := e.mp z2
          rw [if_neg (by omega), w32_in (by omega) (by omega)]
          exact ih
        · rw [if_neg z2] at ih
          have z3 := mt e.mpr z2
          rw [if_pos (by omega), w32_in (by omega) (by omega)]
          exact ih
    · have e : ¬ tB' B g p A F i = true := by unfold tB'; simp [z]
      rw [if_neg z, if_pos rfl]
      rw [if_neg e] at ih
      exact ih
/-! the gain over one turn -/
theorem gn_ge {d s k : Nat} {a : Bool} : leA a (gn d (!a) s k) (gn (d + 1) a s k) ∧ (0 < s → leA a (bI a + gn d (!a) (s - 1) k) (gn (d + 1) a s k)) ∧ (0 < k → leA a ((if a = true then 0 else -1) + gn d (!a) s (k - 1)) (gn (d + 1) a s k)) := by
  rw [gn_s]
  generalize gn d (!a) s k = x
  generalize gn d (!a) (s - 1) k = y
  generalize gn d (!a) s (k - 1) = z
  cases a <;> simp only [leA, bI, bst2, imax, imin, Bool.false_eq_true, if_false, if_true] <;> grind
theorem gn_ex {d s k : Nat} {a : Bool} : gn (d + 1) a s k = gn d (!a) s k ∨ (0 < s ∧ gn (d + 1) a s k = bI a + gn d (!a) (s - 1) k) ∨ (0 < k ∧ gn (d + 1) a s k = (if a = true then 0 else -1) + gn d (!a) s (k - 1)) := by
  rw [gn_s]
  generalize gn d (!a) s k = x
  generalize gn d (!a) (s - 1) k = y
  generalize gn d (!a) s (k - 1) = z
  cases a <;> simp only [bI, bst2, imax, imin, Bool.false_eq_true, if_false, if_true] <;> grind
theorem or_bit {A i k : Nat} : (A ||| 2 ^ i).testBit k = (A.testBit k || decide (i = k)) := by rw [Nat.testBit_or, Nat.testBit_two_pow]
theorem or_lt {A i : Nat} (hA : A < 1024) (hi : i < 10) : A ||| 2 ^ i < 1024 := Nat.or_lt_two_pow (n := 10) hA (Nat.pow_lt_pow_right (by omega) hi)
theorem sw_kp {p : Nat} (h : swB B g q p = true) : kpB' B g q p = false := by
  unfold swB at h
  unfold kpB'
  simp at h ⊢
  omega
/-- a place taken -/
theorem updG {q A F i : Nat} (hi : i < nP B) (hu : usd A F i = false) : (sN B g q (A ||| 2 ^ i) F + b2n (swB B g q i) = sN B g q A F ∧ kN B g q (A ||| 2 ^ i) F + b2n (kpB' B g q i) = kN B g q A F ∧ Cv B g q (A ||| 2 ^ i) F = Cv B g q A F + (b2n (swB B g q i) : Nat)) ∧ (sN B g q A (F ||| 2 ^ i) + b2n (swB B g q i) = sN B g q A F ∧ kN B g q A (F ||| 2 ^ i) + b2n (kpB' B g q i) = kN B g q A F ∧ Cv B g q A (F ||| 2 ^ i) = Cv B g q A F - (b2n (kpB' B g q i) : Nat)) := by
  have hu' : A.testBit i = false ∧ F.testBit i = false := by unfold usd at hu; simpa using hu
  have c : ∀ (W : Nat → Bool) (A' F' : Nat), (∀ k, ¬ k = i → A'.testBit k = A.testBit k ∧ F'.testBit k = F.testBit k) → usd A' F' i = true → cnt (fun p => W p && !usd A' F' p) (nP B) + b2n (W i) = cnt (fun p => W p && !usd A F p) (nP B) := by
    intro W A' F' h1 h2
    have := cnt_one (P := fun p => W p && !usd A F p) (Q := fun p => W p && !usd A' F' p) hi (fun k _ hk => by unfold usd; rw [(h1 k hk).1, (h1 k hk).2])
    simp only [h2, hu, Bool.not_true, Bool.not_false, Bool.and_false, Bool.and_true] at this
    rw [this]
    rfl
  have c2 : ∀ (W : Nat → Bool) (S : Nat), S.testBit i = false → cnt (fun p => W p && (S ||| 2 ^ i).testBit p) (nP B) = cnt (fun p => W p && S.testBit p) (nP B) + b2n (W i) := by
    intro W S h1
    have := cnt_one (P := fun p => W p && S.testBit p) (Q := fun p => W p && (S ||| 2 ^ i).testBit p) hi (fun k _ hk => by
      rw [or_bit]
      simp [show ¬ i = k by omega])
    rw [or_bit] at this
    simp only [h1, decide_true, Bool.or_true, Bool.and_true, Bool.and_false] at this
    rw [show b2n false = 0 from rfl] at this
    omega
  have b1 : ∀ k, ¬ k = i → (A ||| 2 ^ i).testBit k = A.testBit k := fun k hk => by rw [or_bit]; simp [show ¬ i = k by omega]
  have b2 : ∀ k, ¬ k = i → (F ||| 2 ^ i).testBit k = F.testBit k := fun k hk => by rw [or_bit]; simp [show ¬ i = k by omega]
  have u1 : usd (A ||| 2 ^ i) F i = true := by unfold usd; rw [or_bit]; simp
  have u2 : usd A (F ||| 2 ^ i) i = true := by unfold usd; rw [or_bit]; simp
  refine ⟨⟨c _ _ _ (fun k hk => ⟨b1 k hk, rfl⟩) u1, c _ _ _ (fun k hk => ⟨b1 k hk, rfl⟩) u1, ?_⟩, c _ _ _ (fun k hk => ⟨rfl, b2 k hk⟩) u2, c _ _ _ (fun k hk => ⟨rfl, b2 k hk⟩) u2, ?_⟩
  · unfold Cv
    rw [c2 _ _ hu'.1]
    omega
  · unfold Cv
    rw [c2 _ _ hu'.2]
    omega
def cdG (B : Nat → Int) (A F i : Nat) : Bool := decide (i = nP B) || (stn B i && !usd A F i)
def btG (B : Nat → Int) (i : Nat) : Nat := if i < nP B then 2 ^ i else 0
/-- what a move is worth -/
def vG (B : Nat → Int) (g : Int) (q : Nat) (d : Nat) (a : Bool) (A F i : Nat) : Int := Cv B g q A F + if i < nP B then gw B g q d a (sN B g q A F) (kN B g q A F) i else gn d (!a) (sN B g q A F) (kN B g q A F)
theorem vG_eq {q d A F i : Nat} {a : Bool} (hi : i ≤ nP B) (hc : cdG B A F i = true) : (if a = true then Cv B g q (A ||| btG B i) F + gn d (!a) (sN B g q (A ||| btG B i) F) (kN B g q (A ||| btG B i) F) else Cv B g q A (F ||| btG B i) + gn d (!a) (sN B g q A (F ||| btG B i)) (kN B g q A (F ||| btG B i))) = vG B g q d a A F i := by
  unfold vG btG
  by_cases e : i < nP B
  · rw [if_pos e, if_pos e]
    have hu : usd A F i = false := by
      unfold cdG at hc
      simp [show ¬ i = nP B by omega] at hc
      exact hc.2
    obtain ⟨⟨u1, u2, u3⟩, u4, u5, u6⟩ := updG (B := B) (g := g) (q := q) e hu
    unfold gw
    by_cases z1 : swB B g q i = true
    · have z2 := sw_kp z1
      rw [z1, show b2n true = 1 from rfl] at u1 u3 u4
      rw [z2, show b2n false = 0 from rfl] at u2 u5 u6
      rw [if_pos z1]
      cases a
      · simp only [Bool.false_eq_true, if_false, bI]
        rw [u6, show sN B g q A F - 1 = sN B g q A (F ||| 2 ^ i) by omega, show kN B g q A F = kN B g q A (F ||| 2 ^ i) by omega]
        omega
      · simp only [if_true, bI]
        rw [u3, show sN B g q A F - 1 = sN B g q (A ||| 2 ^ i) F by omega, show kN B g q A F = kN B g q (A ||| 2 ^ i) F by omega]
        omega
    · have z1' : swB B g q i = false := by simpa using z1
      rw [z1', show b2n false = 0 from rfl] at u1 u3 u4
      rw [if_neg z1]
      by_cases z2 : kpB' B g q i = true
      · rw [z2, show b2n true = 1 from rfl] at u2 u5 u6
        rw [if_pos z2]
        cases a
        · simp only [Bool.false_eq_true, if_false]
          rw [u6, show sN B g q A F = sN B g q A (F ||| 2 ^ i) by omega, show kN B g q A F - 1 = kN B g q A (F ||| 2 ^ i) by omega]
          omega
        · simp only [if_true]
          rw [u3, show sN B g q A F = sN B g q (A ||| 2 ^ i) F by omega, show kN B g q A F - 1 = kN B g q (A ||| 2 ^ i) F by omega]
          omega
      · have z2' : kpB' B g q i = false := by simpa using z2
        rw [z2', show b2n false = 0 from rfl] at u2 u5 u6
        rw [if_neg z2]
        cases a
        · simp only [Bool.false_eq_true, if_false]
          rw [u6, show sN B g q A F = sN B g q A (F ||| 2 ^ i) by omega, show kN B g q A F = kN B g q A (F ||| 2 ^ i) by omega]
          omega
        · simp only [if_true]
          rw [u3, show sN B g q A F = sN B g q (A ||| 2 ^ i) F by omega, show kN B g q A F = kN B g q (A ||| 2 ^ i) F by omega]
          omega
  · rw [if_neg e, if_neg e, Nat.or_zero, Nat.or_zero]
    cases a <;> rfl
theorem vG_best {q d A F : Nat} {a : Bool} : (∀ i, i < nP B + 1 → cdG B A F i = true → leA a (vG B g q d a A F i) (Cv B g q A F + gn (d + 1) a (sN B g q A F) (kN B g q A F))) ∧ ∃ i, i < nP B + 1 ∧ cdG B A F i = true ∧ vG B g q d a A F i = Cv B g q A F + gn (d + 1) a (sN B g q A F) (kN B g q A F) := by
  obtain ⟨g1, g2, g3⟩ := @gn_ge d (sN B g q A F) (kN B g q A F) a
  have ad : ∀ {x y z : Int}, leA a x y → leA a (z + x) (z + y) := fun {x y z} h => by
    unfold leA at h ⊢
    cases a <;> simp only [Bool.false_eq_true, if_false, if_true] at * <;> omega
  have pos : ∀ W : Nat → Bool, ∀ i, i < nP B → cdG B A F i = true → W i = true → 0 < cnt (fun p => W p && !usd A F p) (nP B) := fun W i hi hc hw => by
    have : ¬ cnt (fun p => W p && !usd A F p) (nP B) = 0 := fun z => by
      have := cnt_zero.mp z i hi
      unfold cdG at hc
      simp [show ¬ i = nP B by omega] at hc
      simp [hw, hc.2] at this
    omega
  constructor
  · intro i hi hc
    unfold vG
    apply ad
    by_cases e : i < nP B
    · rw [if_pos e]
      unfold gw
      by_cases z1 : swB B g q i = true
      · rw [if_pos z1]
        exact g2 (pos _ i e hc z1)
      · rw [if_neg z1]
        by_cases z2 : kpB' B g q i = true
        · rw [if_pos z2]
          exact g3 (pos _ i e hc z2)
        · rw [if_neg z2]
          exact g1
    · rw [if_neg e]
      exact g1
  · have ex : ∀ W : Nat → Bool, (∀ p, W p = true → stn B p = true) → 0 < cnt (fun p => W p && !usd A F p) (nP B) → ∃ i, i < nP B ∧ cdG B A F i = true ∧ W i = true := by
      intro W hW hp
      apply Classical.byContradiction
      intro hn
      have : cnt (fun p => W p && !usd A F p) (nP B) = 0 := cnt_zero.mpr fun k hk => by
        cases e : (W k && !usd A F k)
        · rfl
        · exfalso
          simp at e
          exact hn ⟨k, hk, by unfold cdG; simp [hW k e.1, e.2], e.1⟩
      omega
    rcases @gn_ex d (sN B g q A F) (kN B g q A F) a with e | ⟨e1, e⟩ | ⟨e1, e⟩
    · refine ⟨nP B, by omega, by unfold cdG; simp, ?_⟩
      unfold vG
      rw [if_neg (by omega), e]
    · obtain ⟨i, i1, i2, i3⟩ := ex (swB B g q) (fun p hp => by unfold swB at hp; simp at hp; exact hp.1) e1
      refine ⟨i, by omega, i2, ?_⟩
      unfold vG gw
      rw [if_pos i1, if_pos i3, e]
    · obtain ⟨i, i1, i2, i3⟩ := ex (kpB' B g q) (fun p hp => by unfold kpB' at hp; simp at hp; exact hp.1) e1
      refine ⟨i, by omega, i2, ?_⟩
      have z1 : ¬ swB B g q i = true := fun z => by rw [sw_kp z] at i3; cases i3
      unfold vG gw
      rw [if_pos i1, if_neg z1, if_pos i3, e]
/-! the plays -/
theorem m_plays_l {r : Int → Int → Int → Int → Int → Int → Int → Mem → Option (Int × Mem)} {t T A F p : Nat} {a : Bool} {v : Nat → Int} (h : MH τ B) (ht : t ≤ 4) (hA : A < 1024) (hF : F < 1024)
    (hr : ∀ i, i ≤ nP B → cdG B A F i = true → (if a = true then r 113 g p ((t + 1 : Nat) : Int) T ((A ||| btG B i : Nat) : Int) F τ else r 113 g p ((t + 1 : Nat) : Int) T A ((F ||| btG B i : Nat) : Int) τ) = some (v i, τ)) :
    f_X12_plays_h39 r FU 113 g p t T A F (bI a) 0 (-1) 0 τ = some ((fmf a (cdG B A F) v (nP B + 1)).1, if t = 0 then upm τ 113 33 (fmf a (cdG B A F) v (nP B + 1)).2 else τ) := by
  have hB := h.2.2.nP_le
  refine up_all (Q := fun n i => f_X12_plays_h39 r n 113 g p t T A F (bI a) (fmf a (cdG B A F) v i).1 (fmf a (cdG B A F) v i).2 i τ = some ((fmf a (cdG B A F) v (nP B + 1)).1, if t = 0 then upm τ 113 33 (fmf a (cdG B A F) v (nP B + 1)).2 else τ)) (nP B + 1) (fun n => ?_) (fun n i hi ih => ?_) (by unfold FU; omega)
  · rw [hs_X12_plays_h39]
    unfold f_X12_plays_b39
    simp only [gM, pM, obs, h.1.at 113 20 118 rfl, m_c0 h]
    rw [if_pos (by omega)]
    by_cases z : t = 0
    · rw [if_pos (by omega), if_pos z]
    · rw [if_neg (by omega), if_neg z]
  · rw [hs_X12_plays_h39]
    unfold f_X12_plays_b39 f_X12_plays_b86
    simp only [gM, obs, h.1.at 113 20 118 rfl, m_c0 h]
    rw [if_neg (by omega)]
    -- what one candidate does
    have go : cdG B A F i = true → f_X12_plays_b105 r (f_X12_plays_h39 r n) 113 g p t T A F (bI a) (fmf a (cdG B A F) v i).1 (fmf a (cdG B A F) v i).2 i ((btG B i : Nat) : Int) τ = some ((fmf a (cdG B A F) v (nP B + 1)).1, if t = 0 then upm τ 113 33 (fmf a (cdG B A F) v (nP B + 1)).2 else τ) := by
      intro hc
      have hb : btG B i < 1024 := by
        unfold btG
        split
        · exact p10 (by omega)
        · omega
      have hr' := hr i (by omega) hc
      have tail : f_X12_plays_b151 r (f_X12_plays_h39 r n) 113 g p t T A F (bI a) (fmf a (cdG B A F) v i).1 (fmf a (cdG B A F) v i).2 i (v i) τ = some ((fmf a (cdG B A F) v (nP B + 1)).1, if t = 0 then upm τ 113 33 (fmf a (cdG B A F) v (nP B + 1)).2 else τ) := by
        unfold f_X12_plays_b151 f_X12_plays_b183 f_X12_plays_b191
        rw [w32_in (by omega) (by omega)]
        rw [fmf_s] at ih
        by_cases z1 : (fmf a (cdG B A F) v i).2 < 0
        · rw [if_pos z1]
          rw [if_pos ⟨hc, .inl z1⟩] at ih
          exact ih
        · rw [if_neg z1]
          cases a
          · simp only [bI, Bool.false_eq_true, if_false, if_true] at ih ⊢
            by_cases z2 : v i < (fmf false (cdG B A F) v i).1
            · rw [if_pos z2]
              rw [if_pos ⟨hc, .inr z2⟩] at ih
              exact ih
            · rw [if_neg z2]
              rw [if_neg (fun w => w.2.elim z1 z2)] at ih
              exact ih
          · simp only [bI, Int.one_ne_zero, if_false, if_true] at ih ⊢
            by_cases z2 : (fmf true (cdG B A F) v i).1 < v i
            · rw [if_pos z2]
              rw [if_pos ⟨hc, .inr z2⟩] at ih
              exact ih
            · rw [if_neg z2]
              rw [if_neg (fun w => w.2.elim z1 z2)] at ih
              exact ih
      unfold f_X12_plays_b105
      rw [w32_in (by omega) (by omega), show (t : Int) + 1 = ((t + 1 : Nat) : Int) by omega, ior_nat (by omega) (by omega), ior_nat (by omega) (by omega)]
      cases a
      · simp only [bI, Bool.false_eq_true, if_false, if_true] at hr' tail ⊢
        rw [hr', obs]
        exact tail
      · simp only [bI, Int.one_ne_zero, if_false, if_true] at hr' tail ⊢
        rw [hr', obs]
        exact tail
    have skip : ¬ cdG B A F i = true → f_X12_plays_b191 r (f_X12_plays_h39 r n) 113 g p t T A F (bI a) (fmf a (cdG B A F) v i).1 (fmf a (cdG B A F) v i).2 i τ = some ((fmf a (cdG B A F) v (nP B + 1)).1, if t = 0 then upm τ 113 33 (fmf a (cdG B A F) v (nP B + 1)).2 else τ) := by
      intro hc
      unfold f_X12_plays_b191
      rw [w32_in (by omega) (by omega)]
      rw [fmf_s, if_neg (fun w => hc w.1)] at ih
      exact ih
    by_cases e : i < nP B
    · have hcd : cdG B A F i = (stn B i && !usd A F i) := by unfold cdG; simp [show ¬ i = nP B by omega]
      have ebt : ((btG B i : Nat) : Int) = ishl 1 i := by unfold btG; rw [if_pos e, shl1 (by omega)]
      simp only [show ¬ ((nP B : Nat) : Int) ≤ (i : Int) by omega, if_false]
      rw [m_stone' h (by omega), obs, ior_nat (by omega) (by omega), s_has (by omega) (by have := Nat.or_lt_two_pow (n := 10) hA hF; omega), obs, Nat.testBit_or, show (A.testBit i || F.testBit i) = usd A F i from rfl, ← ebt]
      by_cases z : stn B i = true
      · rw [if_pos z, if_neg (by decide)]
        by_cases z2 : usd A F i = true
        · rw [if_pos z2, if_neg (by decide)]
          exact skip (by rw [hcd]; simp [z2])
        · rw [if_neg z2, if_pos rfl]
          exact go (by rw [hcd]; simp [z, z2])
      · rw [if_neg z, if_pos rfl]
        exact skip (by rw [hcd]; simp [z])
    · have ei : i = nP B := by omega
      have ebt : ((btG B i : Nat) : Int) = 0 := by unfold btG; rw [if_neg e]; rfl
      rw [if_pos (by omega), if_pos (by omega), ← ebt]
      exact go (by unfold cdG; simp [ei])
theorem dsj {A F i : Nat} (hd : ∀ k, ¬ (A.testBit k = true ∧ F.testBit k = true)) (hc : cdG B A F i = true) : (∀ k, ¬ ((A ||| btG B i).testBit k = true ∧ F.testBit k = true)) ∧ ∀ k, ¬ (A.testBit k = true ∧ (F ||| btG B i).testBit k = true) := by
  unfold btG
  by_cases e : i < nP B
  · rw [if_pos e]
    unfold cdG usd at hc
    simp [show ¬ i = nP B by omega] at hc
    constructor
    · intro k hk
      rw [or_bit] at hk
      simp at hk
      rcases hk.1 with z | z
      · exact hd k ⟨z, hk.2⟩
      · rw [← z] at hk
        rw [hc.2.2] at hk
        exact absurd hk.2 (by decide)
    · intro k hk
      rw [or_bit] at hk
      simp at hk
      rcases hk.2 with z | z
      · exact hd k ⟨hk.1, z⟩
      · rw [← z] at hk
        rw [hc.2.1] at hk
        exact absurd hk.1 (by decide)
  · rw [if_neg e, Nat.or_zero, Nat.or_zero]
    exact ⟨hd, hd⟩
theorem bt_lt {A i : Nat} (hA : A < 1024) (hB : BV B) (hi : i ≤ nP B) : A ||| btG B i < 1024 := by
  have := hB.nP_le
  unfold btG
  by_cases e : i < nP B
  · rw [if_pos e]
    exact or_lt hA (by omega)
  · rw [if_neg e, Nat.or_zero]
    exact hA
def evn (t : Nat) : Bool := decide (t % 2 = 0)
theorem evn_s {t : Nat} : evn (t + 1) = !evn t := by
  unfold evn
  by_cases z : t % 2 = 0
  · have : ¬ (t + 1) % 2 = 0 := by omega
    simp [z, this]
  · have : (t + 1) % 2 = 0 := by omega
    simp [z, this]
theorem m_plays_s {T p d n t A F : Nat} (h : MH τ B) (hT : T ≤ 4) (hp : p < 10) (htd : t + (d + 1) = T) (hA : A < 1024) (hF : F < 1024) (hd : ∀ k, ¬ (A.testBit k = true ∧ F.testBit k = true))
    (ih : ∀ A F : Nat, A < 1024 → F < 1024 → (∀ k, ¬ (A.testBit k = true ∧ F.testBit k = true)) → f_X12_plays n 113 g p ((t + 1 : Nat) : Int) T A F τ = some (Cv B g p A F + gn d (evn (t + 1)) (sN B g p A F) (kN B g p A F), τ)) :
    f_X12_plays (n + 1) 113 g p t T A F τ = some (Cv B g p A F + gn (d + 1) (evn t) (sN B g p A F) (kN B g p A F), if t = 0 then upm τ 113 33 (ff (fun i => cdG B A F i && decide (vG B g p d (evn t) A F i = Cv B g p A F + gn (d + 1) (evn t) (sN B g p A F) (kN B g p A F))) (nP B + 1) 0) else τ) := by
  rw [hs_X12_plays]
  unfold f_X12_plays_body f_X12_plays_b0
  rw [if_pos oM, if_neg (by omega)]
  have key : f_X12_plays_b28 (f_X12_plays n) 113 g p t T A F (bI (evn t)) τ = some (Cv B g p A F + gn (d + 1) (evn t) (sN B g p A F) (kN B g p A F), if t = 0 then upm τ 113 33 (ff (fun i => cdG B A F i && decide (vG B g p d (evn t) A F i = Cv B g p A F + gn (d + 1) (evn t) (sN B g p A F) (kN B g p A F))) (nP B + 1) 0) else τ) := by
    unfold f_X12_plays_b28
    rw [m_plays_l (v := vG B g p d (evn t) A F) h (by omega) hA hF]
    · obtain ⟨v1, v2⟩ := @vG_best B g p d A F (evn t)
      rw [fm_spec v1 v2]
    · intro i hi hc
      have e := @vG_eq B g p d A F i (evn t) hi hc
      obtain ⟨d1, d2⟩ := dsj hd hc
      rw [evn_s] at ih
      cases hev : evn t
      · rw [hev] at e ih
        simp only [Bool.false_eq_true, if_false] at e ⊢
        rw [ih A (F ||| btG B i) hA (bt_lt hF h.2.2 hi) d2, e]
      · rw [hev] at e ih
        simp only [if_true] at e ⊢
        rw [ih (A ||| btG B i) F (bt_lt hA h.2.2 hi) hF d1, e]
  have em : w32 (Int.tmod (t : Int) 2) = ((t % 2 : Nat) : Int) := by
    rw [Int.tmod_eq_emod_of_nonneg (by omega), w32_in (by omega) (by omega)]
    omega
  rw [em]
  by_cases z : t % 2 = 0
  · have : evn t = true := by unfold evn; simp [z]
    rw [this] at key ⊢
    rw [if_pos (by omega)]
    exact key
  · have : evn t = false := by unfold evn; simp [z]
    rw [this] at key ⊢
    rw [if_neg (by omega)]
    exact key
theorem m_plays {T p : Nat} (h : MH τ B) (hT : T ≤ 4) (hp : p < 10) (hg : 0 ≤ g ∧ g ≤ 99) : ∀ (d n t A F : Nat), t + d = T → 1 ≤ t → d < n → A < 1024 → F < 1024 → (∀ k, ¬ (A.testBit k = true ∧ F.testBit k = true)) → f_X12_plays n 113 g p t T A F τ = some (Cv B g p A F + gn d (evn t) (sN B g p A F) (kN B g p A F), τ) := by
  intro d
  induction d with
  | zero =>
    intro n t A F htd h1 hn hA hF hd
    obtain ⟨n, rfl⟩ : ∃ m, n = m + 1 := ⟨n - 1, by omega⟩
    rw [hs_X12_plays]
    unfold f_X12_plays_body f_X12_plays_b0
    rw [if_pos oM, if_pos (by omega), m_scoreOf h hp hA hF hg, obs, score_eq h.2.2 hd, show gn 0 (evn t) (sN B g p A F) (kN B g p A F) = 0 from rfl, Int.add_zero]
  | succ d ih =>
    intro n t A F htd h1 hn hA hF hd
    obtain ⟨n, rfl⟩ : ∃ m, n = m + 1 := ⟨n - 1, by omega⟩
    rw [m_plays_s h hT hp htd hA hF hd (fun A F hA hF hd => ih n (t + 1) A F (by omega) (by omega) (by omega) hA hF hd), if_neg (by omega)]
end
