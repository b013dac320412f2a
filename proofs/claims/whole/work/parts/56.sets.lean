/-! ===== sets of places as numbers ===== -/
/-- not by rfl, so that simp leaves a proof that the kernel reads quickly -/
theorem obs {α β : Type} {a : α} {f : α → Option β} : (some a).bind f = f a := by
  have h : ∀ o : Option α, o = some a → o.bind f = f a := by
    intro o ho
    subst ho
    rfl
  exact h _ (Eq.refl _)
theorem iN {a : Nat} (h : a < 2147483648) : (Int32.ofInt (a : Int)).toBitVec.toNat = a := by
  show (BitVec.ofInt 32 (a : Int)).toNat = a
  simp
  omega
theorem tI {x : Int32} (h : x.toBitVec.toNat < 2147483648) : x.toInt = (x.toBitVec.toNat : Int) := by
  show x.toBitVec.toInt = _
  rw [BitVec.toInt_eq_toNat_of_lt]
  omega
theorem iand_nat {a b : Nat} (ha : a < 2147483648) (hb : b < 2147483648) : iand (a : Int) (b : Int) = ((a &&& b : Nat) : Int) := by
  unfold iand
  have e : (Int32.ofInt (a : Int) &&& Int32.ofInt (b : Int)).toBitVec.toNat = a &&& b := by
    show ((Int32.ofInt (a : Int)).toBitVec &&& (Int32.ofInt (b : Int)).toBitVec).toNat = _
    rw [BitVec.toNat_and, iN ha, iN hb]
  rw [tI, e]
  rw [e]
  exact Nat.lt_of_le_of_lt Nat.and_le_left ha
theorem ior_nat {a b : Nat} (ha : a < 2147483648) (hb : b < 2147483648) : ior (a : Int) (b : Int) = ((a ||| b : Nat) : Int) := by
  unfold ior
  have e : (Int32.ofInt (a : Int) ||| Int32.ofInt (b : Int)).toBitVec.toNat = a ||| b := by
    show ((Int32.ofInt (a : Int)).toBitVec ||| (Int32.ofInt (b : Int)).toBitVec).toNat = _
    rw [BitVec.toNat_or, iN ha, iN hb]
  rw [tI, e]
  rw [e]
  exact Nat.or_lt_two_pow (n := 31) ha hb
theorem m31 {k : Nat} (hk : k < 32) : (Int32.ofInt (k : Int) &&& 31) = Int32.ofInt (k : Int) := by
  have : ∀ k : Fin 32, (Int32.ofInt (k.val : Int) &&& 31) = Int32.ofInt (k.val : Int) := by decide +kernel
  exact this ⟨k, hk⟩
theorem s32 {k : Nat} (hk : k < 32) : ((Int32.ofInt (k : Int)).toBitVec.smod 32).toNat = k := by
  have : ∀ k : Fin 32, ((Int32.ofInt (k.val : Int)).toBitVec.smod 32).toNat = k.val := by decide +kernel
  exact this ⟨k, hk⟩
theorem ishl_nat {a k : Nat} (hk : k < 32) (ha : a * 2 ^ k < 2147483648) : ishl (a : Int) (k : Int) = ((a * 2 ^ k : Nat) : Int) := by
  unfold ishl
  rw [m31 hk]
  have h1 : a < 2147483648 := Nat.lt_of_le_of_lt (Nat.le_mul_of_pos_right a (Nat.two_pow_pos k)) ha
  have e : (Int32.ofInt (a : Int) <<< Int32.ofInt (k : Int)).toBitVec.toNat = a * 2 ^ k := by
    rw [Int32.toBitVec_shiftLeft]
    rw [BitVec.shiftLeft_eq', BitVec.toNat_shiftLeft, s32 hk, iN h1, Nat.shiftLeft_eq, Nat.mod_eq_of_lt (by omega)]
  rw [tI, e]
  rw [e]
  exact ha
theorem ishr_nat {a k : Nat} (hk : k < 32) (ha : a < 2147483648) : ishr (a : Int) (k : Int) = ((a >>> k : Nat) : Int) := by
  unfold ishr
  rw [m31 hk]
  have e : (Int32.ofInt (a : Int) >>> Int32.ofInt (k : Int)).toBitVec.toNat = a >>> k := by
    rw [Int32.toBitVec_shiftRight, BitVec.sshiftRight_eq', s32 hk, BitVec.sshiftRight_eq_of_msb_false, BitVec.toNat_ushiftRight, iN ha]
    rw [BitVec.msb_eq_decide, iN ha]
    simp
    omega
  rw [tI, e]
  rw [e]
  exact Nat.lt_of_le_of_lt (by rw [Nat.shiftRight_eq_div_pow]; exact Nat.div_le_self _ _) ha
theorem bit_at {a k : Nat} (hk : k < 32) (ha : a < 2147483648) : iand (ishr (a : Int) (k : Int)) 1 = if a.testBit k = true then 1 else 0 := by
  rw [ishr_nat hk ha]
  have h : a >>> k < 2147483648 := Nat.lt_of_le_of_lt (by rw [Nat.shiftRight_eq_div_pow]; exact Nat.div_le_self _ _) ha
  have := iand_nat (b := 1) h (by omega)
  rw [show ((1 : Nat) : Int) = 1 from rfl] at this
  rw [this, Nat.and_one_is_mod, Nat.testBit_eq_decide_div_mod_eq, Nat.shiftRight_eq_div_pow]
  by_cases h : a / 2 ^ k % 2 = 1
  · simp [h]
  · have : a / 2 ^ k % 2 = 0 := by omega
    simp [this]
theorem p10 {k : Nat} (hk : k < 10) : 2 ^ k < 1024 := by
  have : ∀ k : Fin 10, 2 ^ k.val < 1024 := by decide
  exact this ⟨k, hk⟩
theorem shl1 {k : Nat} (hk : k < 10) : ishl 1 (k : Int) = ((2 ^ k : Nat) : Int) := by
  have h := p10 hk
  have := ishl_nat (a := 1) (k := k) (by omega) (by rw [Nat.one_mul]; omega)
  rw [Nat.one_mul] at this
  exact this
theorem iandn {a b : Nat} (ha : a < 2147483648) (hb : b < 2147483648) : iand (a : Int) (ixor (b : Int) (-1)) = ((a ^^^ (a &&& b) : Nat) : Int) := by
  unfold iand ixor
  rw [Int32.ofInt_toInt]
  have e : (Int32.ofInt (a : Int) &&& (Int32.ofInt (b : Int) ^^^ Int32.ofInt (-1))).toBitVec.toNat = a ^^^ (a &&& b) := by
    have e2 : (Int32.ofInt (a : Int) &&& (Int32.ofInt (b : Int) ^^^ Int32.ofInt (-1))).toBitVec = (Int32.ofInt (a : Int)).toBitVec ^^^ ((Int32.ofInt (a : Int)).toBitVec &&& (Int32.ofInt (b : Int)).toBitVec) := by
      show (Int32.ofInt (a : Int)).toBitVec &&& ((Int32.ofInt (b : Int)).toBitVec ^^^ (Int32.ofInt (-1)).toBitVec) = _
      have : (Int32.ofInt (-1)).toBitVec = BitVec.allOnes 32 := by decide +kernel
      rw [this]
      generalize (Int32.ofInt (a : Int)).toBitVec = x
      generalize (Int32.ofInt (b : Int)).toBitVec = y
      apply BitVec.eq_of_getLsbD_eq
      intro i hi
      simp only [BitVec.getLsbD_and, BitVec.getLsbD_xor, BitVec.getLsbD_allOnes, hi, decide_true]
      cases x.getLsbD i <;> cases y.getLsbD i <;> rfl
    rw [e2, BitVec.toNat_xor, BitVec.toNat_and, iN ha, iN hb]
  rw [tI, e]
  rw [e]
  exact Nat.xor_lt_two_pow (n := 31) ha (Nat.lt_of_le_of_lt Nat.and_le_left ha)
/-- a set less another -/
def sub (a b : Nat) : Nat := a ^^^ (a &&& b)
theorem sub_bit {a b k : Nat} : (sub a b).testBit k = (a.testBit k && !b.testBit k) := by
  unfold sub
  rw [Nat.testBit_xor, Nat.testBit_and]
  cases a.testBit k <;> cases b.testBit k <;> rfl
theorem sub_lt {a b n : Nat} (h : a < 2 ^ n) : sub a b < 2 ^ n := Nat.xor_lt_two_pow h (Nat.lt_of_le_of_lt Nat.and_le_left h)
/-- how many of the first -/
def cnt (P : Nat → Bool) : Nat → Nat
  | 0 => 0
  | n + 1 => cnt P n + if P n = true then 1 else 0
theorem cnt_s {P : Nat → Bool} {n : Nat} : cnt P (n + 1) = cnt P n + if P n = true then 1 else 0 := rfl
def setOf (P : Nat → Bool) : Nat → Nat
  | 0 => 0
  | n + 1 => setOf P n ||| if P n = true then 2 ^ n else 0
theorem setOf_lt (P : Nat → Bool) (n : Nat) : setOf P n < 2 ^ n := by
  induction n with
  | zero => simp [setOf]
  | succ n ih =>
    unfold setOf
    have h : 2 ^ n < 2 ^ (n + 1) := Nat.pow_lt_pow_right (by omega) (by omega)
    refine Nat.or_lt_two_pow (by omega) ?_
    split
    · exact h
    · exact Nat.two_pow_pos _
theorem setOf_lt' {P : Nat → Bool} {n : Nat} (h : n ≤ 10) : setOf P n < 1024 := Nat.lt_of_lt_of_le (setOf_lt P n) (Nat.pow_le_pow_right (n := 2) (by omega) h)
theorem setOf_bit (P : Nat → Bool) (n k : Nat) : (setOf P n).testBit k = (decide (k < n) && P k) := by
  induction n with
  | zero => simp [setOf]
  | succ n ih =>
    unfold setOf
    rw [Nat.testBit_or, ih]
    by_cases h : k = n
    · subst h
      by_cases q : P k = true
      · simp [q, Nat.testBit_two_pow_self]
      · simp [q]
    · have e : (if P n = true then 2 ^ n else 0).testBit k = false := by
        split
        · rw [Nat.testBit_two_pow]; simp; omega
        · simp
      rw [e, Bool.or_false]
      by_cases q : k < n
      · simp [q, show k < n + 1 by omega]
      · simp [q, show ¬ k < n + 1 by omega]
theorem setOf_cg {P Q : Nat → Bool} {n : Nat} (h : ∀ k, k < n → P k = Q k) : setOf P n = setOf Q n := by
  induction n with
  | zero => rfl
  | succ n ih => unfold setOf; rw [ih (fun k hk => h k (by omega)), h n (by omega)]
theorem cnt_cg {P Q : Nat → Bool} {n : Nat} (h : ∀ k, k < n → P k = Q k) : cnt P n = cnt Q n := by
  induction n with
  | zero => rfl
  | succ n ih => unfold cnt; rw [ih (fun k hk => h k (by omega)), h n (by omega)]
theorem cnt_le (P : Nat → Bool) (n : Nat) : cnt P n ≤ n := by
  induction n with
  | zero => exact Nat.le_refl _
  | succ n ih => unfold cnt; split <;> omega
theorem cnt_out {P : Nat → Bool} {n m : Nat} (h : n ≤ m) (hP : ∀ k, n ≤ k → k < m → P k = false) : cnt P m = cnt P n := by
  induction m with
  | zero => rw [show n = 0 by omega]
  | succ m ih =>
    by_cases q : n = m + 1
    · rw [q]
    · rw [cnt_s, hP m (by omega) (by omega), ih (by omega) (fun k h1 h2 => hP k h1 (by omega))]
      rfl
theorem ior_set {P : Nat → Bool} {n : Nat} (h : n < 10) (hP : P n = true) : ior (setOf P n : Nat) (ishl 1 (n : Int)) = ((setOf P (n + 1) : Nat) : Int) := by
  rw [shl1 h, ior_nat (by have := @setOf_lt' P n (by omega); omega) (by have := p10 h; omega)]
  rw [show setOf P (n + 1) = setOf P n ||| if P n = true then 2 ^ n else 0 from rfl, if_pos hP]
theorem nor_set {P : Nat → Bool} {n : Nat} (hP : P n = false) : setOf P (n + 1) = setOf P n := by
  rw [show setOf P (n + 1) = setOf P n ||| if P n = true then 2 ^ n else 0 from rfl, hP]
  simp
theorem ior_0 {a : Nat} (h : a < 2147483648) : ior (a : Int) 0 = a := by
  have := ior_nat (b := 0) h (by omega)
  rw [Nat.or_zero] at this
  exact this
/-- how many are in a set -/
def sz (s : Nat) : Nat := cnt (fun k => s.testBit k) 10
theorem s_bitCount {s : Nat} {σ : Mem} (h : s < 1024) : f_JI_bitCount (s : Int) σ = some ((sz s : Nat) : Int) := by
  have : ∀ s : Fin 1024, ∀ σ : Mem, f_JI_bitCount (s.val : Int) σ = some ((cnt (fun k => s.val.testBit k) 10 : Nat) : Int) := by
    intro s σ
    show f_JI_bitCount_b0 _ _ = _
    unfold f_JI_bitCount_b0
    congr 1
    revert s
    decide +kernel
  exact this ⟨s, h⟩ σ
theorem sz_setOf {P : Nat → Bool} {n : Nat} (h : n ≤ 10) : sz (setOf P n) = cnt P n := by
  unfold sz
  rw [cnt_out (n := n) h (fun k h1 _ => by rw [setOf_bit]; simp [show ¬ k < n by omega])]
  exact cnt_cg fun k hk => by rw [setOf_bit]; simp [hk]
theorem sz_le (s : Nat) : sz s ≤ 10 := cnt_le _ _
theorem s_has {s k : Nat} {σ : Mem} (hk : k < 32) (h : s < 2147483648) : f_X12_has (s : Int) (k : Int) σ = some (if s.testBit k = true then 1 else 0) := by
  show f_X12_has_b0 _ _ _ = _
  unfold f_X12_has_b0
  rw [bit_at hk h]
  by_cases q : s.testBit k = true
  · simp [q]
  · simp [q]
theorem s_sizeOf {s : Nat} {σ : Mem} (h : s < 1024) : f_X12_sizeOf (s : Int) σ = some ((sz s : Nat) : Int) := by
  show f_X12_sizeOf_h4 FU (s : Int) ((cnt (fun k => s.testBit k) 0 : Nat) : Int) ((0 : Nat) : Int) σ = _
  refine up_all (Q := fun n i => f_X12_sizeOf_h4 n (s : Int) ((cnt (fun k => s.testBit k) i : Nat) : Int) (i : Int) σ = some ((sz s : Nat) : Int)) 10 (fun n => ?_) (fun n i hi ih => ?_) (by unfold FU; omega)
  · rw [hs_X12_sizeOf_h4]
    unfold f_X12_sizeOf_b4
    rfl
  · rw [hs_X12_sizeOf_h4]
    unfold f_X12_sizeOf_b4
    rw [if_neg (by omega), s_has (by omega) (by omega)]
    have hc := cnt_le (fun k => s.testBit k) i
    unfold cnt at ih
    unfold f_X12_sizeOf_b24
    simp only [Option.bind_some]
    by_cases q : s.testBit i = true
    · simp only [q, if_true] at ih ⊢
      rw [if_neg (by omega), w32_in (by omega) (by omega), w32_in (by omega) (by omega)]
      exact ih
    · simp only [q, if_false, if_true] at ih ⊢
      rw [w32_in (by omega) (by omega), w32_in (by omega) (by omega)]
      simpa using ih
theorem w32_al {x y : Int} : w32 (w32 x + y) = w32 (x + y) := by simp only [w32_mod]; omega
theorem w32_ar {x y : Int} : w32 (x + w32 y) = w32 (x + y) := by simp only [w32_mod]; omega
theorem w32_sl {x y : Int} : w32 (w32 x - y) = w32 (x - y) := by simp only [w32_mod]; omega
theorem w32_sr {x y : Int} : w32 (x - w32 y) = w32 (x - y) := by simp only [w32_mod]; omega
theorem w64_al {x y : Int} : w64 (w64 x + y) = w64 (x + y) := by simp only [w64_mod]; omega
theorem w64_ar {x y : Int} : w64 (x + w64 y) = w64 (x + y) := by simp only [w64_mod]; omega
theorem w64_sl {x y : Int} : w64 (w64 x - y) = w64 (x - y) := by simp only [w64_mod]; omega
theorem w64_sr {x y : Int} : w64 (x - w64 y) = w64 (x - y) := by simp only [w64_mod]; omega
