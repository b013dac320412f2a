/-! ===== windows, windowSet ===== -/
section
variable {σ τ : Mem} {B D : Nat → Int}
theorem cnt_split {P Q : Nat → Bool} {n : Nat} : cnt P n = cnt (fun k => P k && Q k) n + cnt (fun k => P k && !Q k) n := by
  induction n with
  | zero => rfl
  | succ n ih =>
    rw [cnt_s, cnt_s, cnt_s, ih]
    cases P n <;> cases Q n <;> simp <;> omega
theorem cnt_zero {P : Nat → Bool} {n : Nat} : cnt P n = 0 ↔ ∀ k, k < n → P k = false := by
  induction n with
  | zero => exact ⟨fun _ k hk => by omega, fun _ => rfl⟩
  | succ n ih =>
    rw [cnt_s]
    constructor
    · intro q k hk
      by_cases t : k = n
      · subst t
        cases e : P k
        · rfl
        · rw [e] at q; simp at q
      · exact (ih.mp (by omega)) k (by omega)
    · intro q
      rw [ih.mpr (fun k hk => q k (by omega)), q n (by omega)]
      rfl
theorem cnt_mono {P Q : Nat → Bool} {n : Nat} (h : ∀ k, k < n → P k = true → Q k = true) : cnt P n ≤ cnt Q n := by
  induction n with
  | zero => exact Nat.le_refl _
  | succ n ih =>
    rw [cnt_s, cnt_s]
    have h1 := ih (fun k hk => h k (by omega))
    have h2 := h n (by omega)
    cases e : P n <;> cases e2 : Q n <;> rw [e, e2] at h2 <;> simp_all <;> omega
theorem cnt_up {P : Nat → Bool} {n m : Nat} (h : n ≤ m) : cnt P n ≤ cnt P m := by
  induction m with
  | zero => rw [show n = 0 by omega]; exact Nat.le_refl _
  | succ m ih =>
    by_cases q : n = m + 1
    · rw [q]; exact Nat.le_refl _
    · rw [cnt_s]
      have := ih (by omega)
      omega
theorem cnt_full {P Q : Nat → Bool} {n : Nat} (h : ∀ k, k < n → P k = true → Q k = true) (e : cnt P n = cnt Q n) : ∀ k, k < n → P k = Q k := by
  have h1 : cnt (fun k => Q k && P k) n = cnt P n := cnt_cg fun k hk => by
    have := h k hk
    cases e1 : P k <;> cases e2 : Q k <;> simp_all
  have h2 := @cnt_split Q P n
  have h3 := cnt_zero.mp (show cnt (fun k => Q k && !P k) n = 0 by omega)
  intro k hk
  have h4 := h3 k hk
  have h5 := h k hk
  cases e1 : P k <;> cases e2 : Q k <;> simp_all
theorem setOf_s {P : Nat → Bool} {n : Nat} : setOf P (n + 1) = setOf P n + if P n = true then 2 ^ n else 0 := by
  cases e : P n
  · rw [nor_set e]; simp
  · apply Nat.eq_of_testBit_eq
    intro k
    rw [setOf_bit, if_pos rfl, Nat.add_comm (setOf P n)]
    by_cases q : k = n
    · subst q
      rw [Nat.testBit_two_pow_add_eq, setOf_bit]
      simp [e]
    · by_cases r : k < n
      · rw [Nat.testBit_two_pow_add_gt r, setOf_bit]
        simp [r]
        omega
      · have h1 := setOf_lt P n
        rw [Nat.testBit_lt_two_pow (show 2 ^ n + setOf P n < 2 ^ k from Nat.lt_of_lt_of_le (by rw [Nat.pow_succ]; omega) (Nat.pow_le_pow_right (n := 2) (by omega) (show n + 1 ≤ k by omega)))]
        simp
        omega
theorem setOf_self {s : Nat} (h : s < 1024) : setOf (fun k => s.testBit k) 10 = s := by
  apply Nat.eq_of_testBit_eq
  intro k
  rw [setOf_bit]
  by_cases q : k < 10
  · simp [q]
  · have h1 : s < 2 ^ k := Nat.lt_of_lt_of_le h (Nat.pow_le_pow_right (n := 2) (by omega) (show 10 ≤ k by omega))
    rw [Nat.testBit_lt_two_pow h1]
    simp
def nd (t a : Nat) : Nat := if sz a < 2 * sz t then 2 * sz t - sz a else 1 + sz a - 2 * sz t
def sd (t a p : Nat) : Nat := sub (if sz a < 2 * sz t then t else sub a t) (2 ^ p)
def gP (s m k : Nat) : Bool := s.testBit k && decide (cnt (fun j => s.testBit j) k < m)
def wv (t a p : Nat) : Int := if nd t a ≤ sz (sd t a p) then ((setOf (gP (sd t a p) (nd t a)) 10 : Nat) : Int) else -1
def Okw (t a p s : Nat) : Prop := (∀ k, s.testBit k = true → a.testBit k = true) ∧ s.testBit p = false ∧ ¬ more (sub t s) (sub a s) = more t a
theorem sz_sub {t s : Nat} : sz (sub t s) = cnt (fun k => t.testBit k && !s.testBit k) 10 := cnt_cg fun k _ => sub_bit
theorem sz_spl {t s : Nat} : sz t = cnt (fun k => t.testBit k && s.testBit k) 10 + sz (sub t s) := by rw [sz_sub]; exact cnt_split
theorem gP_cnt {s m n : Nat} : cnt (gP s m) n = min m (cnt (fun j => s.testBit j) n) := by
  induction n with
  | zero => simp [cnt]
  | succ n ih =>
    rw [cnt_s, cnt_s, ih]
    unfold gP
    cases e : s.testBit n
    · simp
    · by_cases q : cnt (fun j => s.testBit j) n < m
      · simp [q]; omega
      · simp [q]; omega
theorem gP_min {s m n : Nat} {P : Nat → Bool} (h : ∀ k, k < n → P k = true → s.testBit k = true) (e : cnt P n = m) : setOf (gP s m) n ≤ setOf P n := by
  induction n generalizing m with
  | zero => exact Nat.le_refl _
  | succ n ih =>
    have h' : ∀ k, k < n → P k = true → s.testBit k = true := fun k hk => h k (by omega)
    have hm : cnt P n ≤ cnt (fun j => s.testBit j) n := cnt_mono h'
    rw [cnt_s] at e
    rw [setOf_s, setOf_s]
    cases eP : P n
    · rw [eP] at e
      have eg : gP s m n = false := by
        unfold gP
        have : ¬ cnt (fun j => s.testBit j) n < m := by simp at e; omega
        simp [this]
      rw [eg]
      have := ih h' (m := m) (by simpa using e)
      simpa using this
    · rw [eP] at e
      simp at e
      have hs := h n (by omega) eP
      by_cases q : cnt (fun j => s.testBit j) n < m
      · have eg : gP s m n = true := by unfold gP; simp [hs, q]
        rw [eg]
        have e2 : cnt P n = cnt (fun j => s.testBit j) n := by omega
        have e3 := cnt_full h' e2
        have e4 : setOf (gP s m) n = setOf P n := setOf_cg fun k hk => by
          rw [e3 k hk]
          unfold gP
          have : cnt (fun j => s.testBit j) k < m := Nat.lt_of_le_of_lt (cnt_up (by omega)) q
          simp [this]
        rw [e4]
        exact Nat.le_refl _
      · have eg : gP s m n = false := by unfold gP; simp [q]
        rw [eg]
        have := setOf_lt (gP s m) n
        simp
        omega
theorem sd_bit {t a p k : Nat} : (sd t a p).testBit k = ((if sz a < 2 * sz t then t.testBit k else (a.testBit k && !t.testBit k)) && !decide (p = k)) := by
  unfold sd
  rw [sub_bit, Nat.testBit_two_pow]
  split
  · rfl
  · rw [sub_bit]
theorem Okw_ge {t a p s : Nat} (ht : ∀ k, t.testBit k = true → a.testBit k = true) (h : Okw t a p s) : nd t a ≤ cnt (fun k => s.testBit k && (sd t a p).testBit k) 10 := by
  obtain ⟨h1, h2, h3⟩ := h
  have e1 := @sz_spl a s
  have e2 := @sz_spl t s
  have e3 := @sz_spl s t
  have c1 : cnt (fun k => a.testBit k && s.testBit k) 10 = sz s := cnt_cg fun k _ => by
    have := h1 k
    cases q1 : a.testBit k <;> cases q2 : s.testBit k <;> simp_all
  have c2 : cnt (fun k => t.testBit k && s.testBit k) 10 = cnt (fun k => s.testBit k && t.testBit k) 10 := cnt_cg fun k _ => Bool.and_comm _ _
  have c3 : cnt (fun k => s.testBit k && (sd t a p).testBit k) 10 = if sz a < 2 * sz t then cnt (fun k => s.testBit k && t.testBit k) 10 else sz (sub s t) := by
    split
    · next q =>
      refine cnt_cg fun k _ => ?_
      rw [sd_bit, if_pos q]
      by_cases z : p = k
      · rw [← z, h2]; simp
      · simp [z]
    · next q =>
      rw [sz_sub]
      refine cnt_cg fun k _ => ?_
      rw [sd_bit, if_neg q]
      have := h1 k
      by_cases z : p = k
      · rw [← z, h2]; simp
      · cases q1 : a.testBit k <;> cases q2 : s.testBit k <;> simp_all
  unfold more at h3
  unfold nd
  rw [c3]
  by_cases q : sz a < 2 * sz t
  · rw [if_pos q, if_pos q]
    have : ¬ sz (sub a s) < 2 * sz (sub t s) := fun z => h3 (by simp [z, q])
    omega
  · rw [if_neg q, if_neg q]
    have : sz (sub a s) < 2 * sz (sub t s) := Classical.byContradiction fun z => h3 (by simp [z, q])
    omega
theorem Okw_of {t a p s : Nat} (ht : ∀ k, t.testBit k = true → a.testBit k = true) (h1 : ∀ k, s.testBit k = true → (sd t a p).testBit k = true) (e : sz s = nd t a) : Okw t a p s := by
  have hsa : ∀ k, s.testBit k = true → a.testBit k = true := fun k hk => by
    have := h1 k hk
    rw [sd_bit] at this
    split at this
    · exact ht k (by simp at this; exact this.1)
    · simp at this; exact this.1.1
  refine ⟨hsa, ?_, ?_⟩
  · cases q : s.testBit p
    · rfl
    · have := h1 p q
      rw [sd_bit] at this
      simp at this
  · have e1 := @sz_spl a s
    have e2 := @sz_spl t s
    have e3 := @sz_spl s t
    have c1 : cnt (fun k => a.testBit k && s.testBit k) 10 = sz s := cnt_cg fun k _ => by
      have := hsa k
      cases q1 : a.testBit k <;> cases q2 : s.testBit k <;> simp_all
    have c2 : cnt (fun k => t.testBit k && s.testBit k) 10 = cnt (fun k => s.testBit k && t.testBit k) 10 := cnt_cg fun k _ => Bool.and_comm _ _
    unfold more
    unfold nd at e
    by_cases q : sz a < 2 * sz t
    · rw [if_pos q] at e
      have c3 : cnt (fun k => s.testBit k && t.testBit k) 10 = sz s := cnt_cg fun k _ => by
        have z := h1 k
        rw [sd_bit, if_pos q] at z
        cases q2 : s.testBit k
        · rfl
        · have z2 := z q2
          simp at z2
          rw [z2.1]
          rfl
      have : ¬ sz (sub a s) < 2 * sz (sub t s) := by omega
      simp [this, q]
    · rw [if_neg q] at e
      have c3 : cnt (fun k => s.testBit k && t.testBit k) 10 = 0 := cnt_zero.mpr fun k _ => by
        have z := h1 k
        rw [sd_bit, if_neg q] at z
        cases q2 : s.testBit k
        · rfl
        · have z2 := z q2
          simp at z2
          rw [z2.1.2]
          rfl
      have : sz (sub a s) < 2 * sz (sub t s) := by omega
      simp [this, q]
/-- what the reference's look at all sets ends with -/
def wFin (t a p N : Nat) (r : Int) : Prop := (r = -1 ∧ ∀ s, s < N → ¬ Okw t a p s) ∨ ∃ b : Nat, r = b ∧ b < N ∧ Okw t a p b ∧ ∀ s, s < N → Okw t a p s → sz b ≤ sz s ∧ (sz s = sz b → b ≤ s)
theorem wv_eq {t a p n : Nat} {r : Int} (hn : n ≤ 10) (ha : a < 2 ^ n) (ht : ∀ k, t.testBit k = true → a.testBit k = true) (h : wFin t a p (2 ^ n) r) : r = wv t a p := by
  have p1 : (2 : Nat) ^ n ≤ 1024 := Nat.pow_le_pow_right (n := 2) (by omega) hn
  have hsd : ∀ k, (sd t a p).testBit k = true → a.testBit k = true := fun k hk => by
    rw [sd_bit] at hk
    split at hk
    · exact ht k (by simp at hk; exact hk.1)
    · simp at hk; exact hk.1.1
  have lt_n : ∀ s : Nat, s < 1024 → (∀ k, s.testBit k = true → a.testBit k = true) → s < 2 ^ n := fun s _ hs => by
    apply Nat.lt_pow_two_of_testBit
    intro i hi
    cases q : s.testBit i
    · rfl
    · have := hs i q
      rw [Nat.testBit_lt_two_pow (Nat.lt_of_lt_of_le ha (Nat.pow_le_pow_right (n := 2) (by omega) hi))] at this
      cases this
  unfold wv
  by_cases q : nd t a ≤ sz (sd t a p)
  · rw [if_pos q]
    have gl : setOf (gP (sd t a p) (nd t a)) 10 < 1024 := setOf_lt _ _
    have gb : ∀ k, (setOf (gP (sd t a p) (nd t a)) 10).testBit k = true → (sd t a p).testBit k = true := fun k hk => by
      rw [setOf_bit] at hk
      unfold gP at hk
      simp at hk
      exact hk.2.1
    have gz : sz (setOf (gP (sd t a p) (nd t a)) 10) = nd t a := by
      rw [sz_setOf (Nat.le_refl _), gP_cnt]
      have : cnt (fun j => (sd t a p).testBit j) 10 = sz (sd t a p) := rfl
      omega
    have gok : Okw t a p (setOf (gP (sd t a p) (nd t a)) 10) := Okw_of ht gb gz
    have gN := lt_n _ gl (fun k hk => hsd k (gb k hk))
    rcases h with ⟨_, h2⟩ | ⟨b, rfl, hb, h2, h3⟩
    · exact absurd gok (h2 _ gN)
    · have g1 := Okw_ge ht h2
      have g2 := h3 _ gN gok
      have e3 := @sz_spl b (sd t a p)
      have z : sz b = nd t a := by omega
      have hb0 : ∀ k, k < 10 → b.testBit k = true → (sd t a p).testBit k = true := by
        have e4 : sz (sub b (sd t a p)) = 0 := by omega
        rw [sz_sub] at e4
        have e5 := cnt_zero.mp e4
        intro k hk hbk
        have := e5 k hk
        rw [hbk] at this
        simpa using this
      have g3 := gP_min (n := 10) (P := fun k => b.testBit k) hb0 z
      rw [setOf_self (by omega)] at g3
      have g4 := g2.2 (by omega)
      congr 1
      omega
  · rw [if_neg q]
    rcases h with ⟨h1, _⟩ | ⟨b, rfl, hb, h2, h3⟩
    · exact h1
    · have g1 := Okw_ge ht h2
      have : cnt (fun k => b.testBit k && (sd t a p).testBit k) 10 ≤ sz (sd t a p) := cnt_mono fun k _ hk => by simp at hk; exact hk.2
      omega
/-! the court's -/
theorem tS_bit {g q : Int} {k : Nat} : (tS B g q).testBit k = (decide (k < nP B) && tB B g q k) := setOf_bit _ _ _
theorem aS_bit {k : Nat} : (aS B).testBit k = (decide (k < nP B) && stn B k) := setOf_bit _ _ _
theorem tS_sub {g q : Int} {k : Nat} (h : (tS B g q).testBit k = true) : (aS B).testBit k = true := by
  rw [tS_bit] at h
  rw [aS_bit]
  unfold tB at h
  simp at h ⊢
  exact ⟨h.1, h.2.1⟩
theorem x_windowsFor {g : Int} {p : Nat} (h : XH σ B D) (hp : p < nP B) : f_X9_windowsFor 5 g p σ = some (wv (tS B g p) (aS B) p) := by
  have hB := h.2.2.nP_le
  have lt := @tS_lt B g p h.2.2
  have la := aS_lt h.2.2
  have l1 := sz_le (tS B g p)
  have l2 := sz_le (aS B)
  have hd : ∀ m s : Nat, m ≤ 21 → s < 1024 → (∀ k, nP B ≤ k → s.testBit k = false) → f_X9_windowsFor_h68 FU 5 m s 0 0 σ = some (if m ≤ sz s then ((setOf (gP s m) 10 : Nat) : Int) else -1) := by
    intro m s hm hs hz
    have ez : cnt (fun j => s.testBit j) (nP B) = sz s := (cnt_out hB.1 (fun k h1 _ => hz k h1)).symm
    have es : setOf (gP s m) (nP B) = setOf (gP s m) 10 := by
      apply Nat.eq_of_testBit_eq
      intro k
      rw [setOf_bit, setOf_bit]
      by_cases q : k < nP B
      · simp [q]; intro; omega
      · unfold gP
        rw [hz k (by omega)]
        simp
    have b111 : ∀ i : Nat, (i = nP B ∨ m ≤ cnt (fun j => s.testBit j) i) → i ≤ nP B → f_X9_windowsFor_b111 ((m - cnt (gP s m) i : Nat) : Int) ((setOf (gP s m) i : Nat) : Int) σ = some (if m ≤ sz s then ((setOf (gP s m) 10 : Nat) : Int) else -1) := by
      intro i hi hi2
      unfold f_X9_windowsFor_b111
      rw [gP_cnt]
      rcases hi with rfl | hi
      · rw [ez, es]
        by_cases q : m ≤ sz s
        · rw [if_pos q, if_pos (by omega)]
        · rw [if_neg q, if_neg (by omega)]
      · have h1 : cnt (fun j => s.testBit j) i ≤ cnt (fun j => s.testBit j) (nP B) := cnt_up hi2
        rw [if_pos (by omega), if_pos (by omega), ← es]
        have : setOf (gP s m) (nP B) = setOf (gP s m) i := by
          apply Nat.eq_of_testBit_eq
          intro k
          rw [setOf_bit, setOf_bit]
          by_cases q : k < i
          · simp [q]; intro; omega
          · by_cases q2 : k < nP B
            · have : m ≤ cnt (fun j => s.testBit j) k := Nat.le_trans hi (cnt_up (by omega))
              unfold gP
              simp [q, show ¬ cnt (fun j => s.testBit j) k < m by omega]
            · simp [q, q2]
        rw [this]
    refine up_all (Q := fun n i => f_X9_windowsFor_h68 n 5 ((m - cnt (gP s m) i : Nat) : Int) s ((setOf (gP s m) i : Nat) : Int) i σ = some (if m ≤ sz s then ((setOf (gP s m) 10 : Nat) : Int) else -1)) (nP B) (fun n => ?_) (fun n i hi ih => ?_) (by unfold FU; omega)
    · rw [hs_X9_windowsFor_h68]
      unfold f_X9_windowsFor_b68
      simp only [w_g, obs, h.2.1.1.1]
      rw [if_pos (by omega)]
      exact b111 _ (.inl rfl) (Nat.le_refl _)
    · rw [hs_X9_windowsFor_h68]
      unfold f_X9_windowsFor_b68 f_X9_windowsFor_b105
      simp only [w_g, obs, h.2.1.1.1]
      rw [if_neg (by omega), w32_in (z := (i : Int) + 1) (by omega) (by omega), bit_at (by omega) (by omega)]
      have ec := @gP_cnt s m i
      by_cases q : m ≤ cnt (fun j => s.testBit j) i
      · rw [if_pos (by omega)]
        exact b111 _ (.inr q) (by omega)
      · rw [if_neg (by omega)]
        by_cases z : s.testBit i = true
        · have eg : gP s m i = true := by unfold gP; simp [z]; omega
          rw [if_pos z, if_pos rfl, ior_set (by omega) eg, w32_in (by omega) (by omega)]
          rw [cnt_s, if_pos eg] at ih
          rw [show ((m - cnt (gP s m) i : Nat) : Int) + -1 = ((m - (cnt (gP s m) i + 1) : Nat) : Int) by omega]
          exact ih
        · have eg : gP s m i = false := by unfold gP; simp [z]
          rw [if_neg z, if_neg (by omega)]
          rw [cnt_s, eg, nor_set eg] at ih
          exact ih
  have hz : ∀ k, nP B ≤ k → (sd (tS B g p) (aS B) p).testBit k = false := fun k hk => by
    rw [sd_bit]
    have h1 : (aS B).testBit k = false := by rw [aS_bit]; simp; omega
    have h2 : (tS B g p).testBit k = false := by rw [tS_bit]; simp; omega
    rw [h1, h2]
    split <;> rfl
  have sl : sd (tS B g p) (aS B) p < 1024 := by
    unfold sd
    apply sub_lt (n := 10)
    split
    · exact lt
    · exact sub_lt (n := 10) la
  unfold f_X9_windowsFor f_X9_windowsFor_b0 f_X9_windowsFor_b35 f_X9_windowsFor_b54
  simp only [show isO Sh 9 5 = true from rfl, if_true, w_turningFrom h (q := (p : Int)) (show 0 ≤ (p : Int) ∧ (p : Int) < 10 by omega), obs, s_bitCount lt, w_stoneCount h, w_g, h.2.1.1.2.1]
  rw [w32_in (z := 2 * ((sz (tS B g p) : Nat) : Int)) (by omega) (by omega), w32_in (z := 2 * ((sz (tS B g p) : Nat) : Int) - ((sz (aS B) : Nat) : Int)) (by omega) (by omega), w32_in (by omega) (by omega), shl1 (by omega)]
  have pw := p10 (show p < 10 by omega)
  unfold wv
  by_cases q : sz (aS B) < 2 * sz (tS B g p)
  · rw [if_neg (by omega), if_neg (by omega), iandn (by omega) (by omega)]
    have e1 : sub (tS B g p) (2 ^ p) = sd (tS B g p) (aS B) p := by unfold sd; rw [if_pos q]
    have e2 : 2 * ((sz (tS B g p) : Nat) : Int) - ((sz (aS B) : Nat) : Int) = ((nd (tS B g p) (aS B) : Nat) : Int) := by unfold nd; rw [if_pos q]; omega
    rw [show (tS B g p) ^^^ ((tS B g p) &&& 2 ^ p) = sub (tS B g p) (2 ^ p) from rfl, e1, e2]
    exact hd _ _ (by unfold nd; split <;> omega) sl hz
  · rw [if_pos (by omega), if_pos (by omega), iandn (by omega) (by omega), show (aS B) ^^^ ((aS B) &&& tS B g p) = sub (aS B) (tS B g p) from rfl, iandn (by have := @sub_lt (aS B) (tS B g p) 10 la; omega) (by omega)]
    have e1 : sub (sub (aS B) (tS B g p)) (2 ^ p) = sd (tS B g p) (aS B) p := by unfold sd; rw [if_neg q]
    have e2 : 1 - (2 * ((sz (tS B g p) : Nat) : Int) - ((sz (aS B) : Nat) : Int)) = ((nd (tS B g p) (aS B) : Nat) : Int) := by unfold nd; rw [if_neg q]; omega
    rw [show (sub (aS B) (tS B g p)) ^^^ ((sub (aS B) (tS B g p)) &&& 2 ^ p) = sub (sub (aS B) (tS B g p)) (2 ^ p) from rfl, e1, e2]
    exact hd _ _ (by unfold nd; split <;> omega) sl hz
/-! the reference's -/
theorem sub_0 {s a : Nat} : sub s a = 0 ↔ ∀ k, s.testBit k = true → a.testBit k = true := by
  constructor
  · intro h k hk
    have := congrArg (fun x => Nat.testBit x k) h
    simp only [sub_bit, Nat.zero_testBit, hk] at this
    simpa using this
  · intro h
    apply Nat.eq_of_testBit_eq
    intro k
    rw [sub_bit, Nat.zero_testBit]
    have := h k
    cases q1 : s.testBit k <;> cases q2 : a.testBit k <;> simp_all
theorem m_windowsFor {g : Int} {p : Nat} (h : MH τ B) (hp : p < nP B) : f_X12_windowsFor 113 g p τ = some (wv (tS B g p) (aS B) p) := by
  have hB := h.2.2.nP_le
  have lt := @tS_lt B g p h.2.2
  have la := aS_lt h.2.2
  have p1 : (2 : Nat) ^ nP B ≤ 1024 := Nat.pow_le_pow_right (n := 2) (by omega) hB.1
  have key : ∃ r, f_X12_windowsFor 113 g p τ = some r ∧ wFin (tS B g p) (aS B) p (2 ^ nP B) r := by
    unfold f_X12_windowsFor f_X12_windowsFor_b0
    simp only [oM, if_true, m_turnedFrom h.1 h.2.1 h.2.2 (g := g) (q := (p : Int)) (show 0 ≤ (p : Int) ∧ (p : Int) < 10 by omega), obs, m_stones h.1 h.2.1 h.2.2, m_isMore lt la]
    have := up_all (Q := fun n s => ∀ best, wFin (tS B g p) (aS B) p s best → ∃ r, f_X12_windowsFor_h29 n 113 p best (tS B g p : Nat) (aS B : Nat) (if more (tS B g p) (aS B) = true then 1 else 0) s τ = some r ∧ wFin (tS B g p) (aS B) p (2 ^ nP B) r) (2 ^ nP B) (fun n best q => ?_) (fun n s hs ih best q => ?_) (by unfold FU; omega)
    · exact this (-1) (.inl ⟨rfl, fun s hs => by omega⟩)
    · rw [hs_X12_windowsFor_h29]
      unfold f_X12_windowsFor_b29
      simp only [gM, obs, h.1.at 113 20 118 rfl, m_c0 h]
      rw [show ishl 1 ((nP B : Nat) : Int) = _ from ishl_nat (a := 1) (k := nP B) (by omega) (by omega), if_pos (by omega)]
      exact ⟨_, rfl, q⟩
    · rw [hs_X12_windowsFor_h29]
      unfold f_X12_windowsFor_b29 f_X12_windowsFor_b80 f_X12_windowsFor_b106
      simp only [gM, obs, h.1.at 113 20 118 rfl, m_c0 h]
      have la' : sub (aS B) s < 1024 := sub_lt (n := 10) la
      have lt' : sub (tS B g p) s < 1024 := sub_lt (n := 10) lt
      rw [show ishl 1 ((nP B : Nat) : Int) = _ from ishl_nat (a := 1) (k := nP B) (by omega) (by omega), if_neg (by omega), iandn (a := s) (b := aS B) (by omega) (by omega), iandn (a := tS B g p) (b := s) (by omega) (by omega), iandn (a := aS B) (b := s) (by omega) (by omega), show s ^^^ (s &&& aS B) = sub s (aS B) from rfl, show aS B ^^^ (aS B &&& s) = sub (aS B) s from rfl, show tS B g p ^^^ (tS B g p &&& s) = sub (tS B g p) s from rfl, m_isMore lt' la', obs, s_has (by omega) (by omega), obs, w32_in (z := (s : Int) + 1) (by omega) (by omega)]
      have skip : ∀ best, wFin (tS B g p) (aS B) p s best → (Okw (tS B g p) (aS B) p s → ∃ b : Nat, best = b ∧ sz b ≤ sz s) → wFin (tS B g p) (aS B) p (s + 1) best := by
        intro best hb hz
        rcases hb with ⟨h1, h2⟩ | ⟨b, h1, h2, h3, h4⟩
        · refine .inl ⟨h1, fun s' hs' => ?_⟩
          by_cases e : s' = s
          · rw [e]
            intro ho
            obtain ⟨b, hb, _⟩ := hz ho
            omega
          · exact h2 s' (by omega)
        · refine .inr ⟨b, h1, by omega, h3, fun s' hs' ho => ?_⟩
          by_cases e : s' = s
          · rw [e] at ho ⊢
            obtain ⟨b', hb', h5⟩ := hz ho
            have : b' = b := by omega
            subst this
            exact ⟨h5, fun _ => by omega⟩
          · exact h4 s' (by omega) ho
      have take : ∀ best, wFin (tS B g p) (aS B) p s best → Okw (tS B g p) (aS B) p s → (best = -1 ∨ ∃ b : Nat, best = b ∧ sz s < sz b) → wFin (tS B g p) (aS B) p (s + 1) s := by
        intro best hb ho hz
        refine .inr ⟨s, rfl, by omega, ho, fun s' hs' ho' => ?_⟩
        by_cases e : s' = s
        · rw [e]; exact ⟨Nat.le_refl _, fun _ => Nat.le_refl _⟩
        · rcases hb with ⟨h1, h2⟩ | ⟨b, h1, h2, h3, h4⟩
          · exact absurd ho' (h2 s' (by omega))
          · rcases hz with z | ⟨b', z1, z2⟩
            · omega
            · have : b' = b := by omega
              subst this
              have := (h4 s' (by omega) ho').1
              exact ⟨by omega, fun _ => by omega⟩
      by_cases c1 : sub s (aS B) = 0
      · rw [if_pos (by omega)]
        by_cases c2 : s.testBit p = true
        · rw [if_pos c2, if_neg (by omega)]
          exact ih best (skip best q fun ho => by rw [ho.2.1] at c2; cases c2)
        · rw [if_neg c2, if_pos rfl]
          have okm : Okw (tS B g p) (aS B) p s ↔ ¬ more (sub (tS B g p) s) (sub (aS B) s) = more (tS B g p) (aS B) := ⟨fun o => o.2.2, fun o => ⟨sub_0.mp c1, by simpa using c2, o⟩⟩
          have mm : ((if more (sub (tS B g p) s) (sub (aS B) s) = true then (1 : Int) else 0) = (if more (tS B g p) (aS B) = true then 1 else 0)) ↔ more (sub (tS B g p) s) (sub (aS B) s) = more (tS B g p) (aS B) := by
            cases more (sub (tS B g p) s) (sub (aS B) s) <;> cases more (tS B g p) (aS B) <;> simp
          have fin : (best = -1 ∨ ∃ b : Nat, best = b ∧ sz s < sz b) → ∃ r, (if (if more (sub (tS B g p) s) (sub (aS B) s) = true then (1 : Int) else 0) = (if more (tS B g p) (aS B) = true then 1 else 0) then f_X12_windowsFor_h29 n 113 p best (tS B g p : Nat) (aS B : Nat) (if more (tS B g p) (aS B) = true then 1 else 0) ((s : Int) + 1) τ else f_X12_windowsFor_h29 n 113 p s (tS B g p : Nat) (aS B : Nat) (if more (tS B g p) (aS B) = true then 1 else 0) ((s : Int) + 1) τ) = some r ∧ wFin (tS B g p) (aS B) p (2 ^ nP B) r := by
            intro hz
            by_cases c3 : more (sub (tS B g p) s) (sub (aS B) s) = more (tS B g p) (aS B)
            · rw [if_pos (mm.mpr c3)]
              exact ih best (skip best q fun ho => absurd c3 ho.2.2)
            · rw [if_neg (fun z => c3 (mm.mp z))]
              exact ih s (take best q (okm.mpr c3) hz)
          rcases q with ⟨h1, h2⟩ | ⟨b, h1, h2, h3, h4⟩
          · rw [if_pos (by omega)]
            exact fin (.inl h1)
          · subst h1
            rw [if_neg (by omega), s_sizeOf (by omega), obs, s_sizeOf (by omega), obs]
            by_cases c4 : sz s < sz b
            · rw [if_pos (by omega)]
              exact fin (.inr ⟨b, rfl, c4⟩)
            · rw [if_neg (by omega)]
              exact ih b (skip b (.inr ⟨b, rfl, h2, h3, h4⟩) fun _ => ⟨b, rfl, by omega⟩)
      · rw [if_neg (by omega)]
        exact ih best (skip best q fun ho => absurd (sub_0.mpr ho.1) c1)
  obtain ⟨r, hr, hf⟩ := key
  rw [hr, wv_eq hB.1 (show aS B < 2 ^ nP B from setOf_lt _ _) (fun k hk => tS_sub hk) hf]
/-! the calls -/
def vWin (B : Nat → Int) (g p : Int) : Int := wv (tS B g p) (aS B) p.toNat
def yWin (B : Nat → Int) (g p : Int) : Int := if yGu B g p = 0 then (if stn B p.toNat = true then (if vWin B g p = -1 then 8 else 0) else 9) else yGu B g p
theorem wv_cases {t a p : Nat} : wv t a p = -1 ∨ ∃ s : Nat, wv t a p = s ∧ s < 1024 := by
  unfold wv
  split
  · exact .inr ⟨_, rfl, setOf_lt _ _⟩
  · exact .inl rfl
theorem x_windowsWhy {g p : Int} (h : XH σ B D) : f_X11_windowsWhy 0 g p σ = some (yWin B g p) := by
  unfold f_X11_windowsWhy f_X11_windowsWhy_b0 yWin
  simp only [oX, if_true, x_guiltWhy h, obs, gX, h.1.at 0 3 5 rfl]
  by_cases hy : yGu B g p = 0
  · obtain ⟨h1, h2⟩ := yGu0 hy
    obtain ⟨k, rfl, hk, h10⟩ := isP_nat h1 h.2.2
    rw [if_pos hy, if_pos hy, w_isStone' h hk, obs, x_windowsFor h hk, obs, Int.toNat_natCast]
    unfold vWin
    rw [Int.toNat_natCast]
    grind
  · rw [if_neg hy, if_neg hy]
theorem yWin0 {g p : Int} (h : yWin B g p = 0) : isP B p ∧ ¬ vWin B g p = -1 := by
  unfold yWin at h
  by_cases hy : yGu B g p = 0
  · obtain ⟨h1, h2⟩ := yGu0 hy
    exact ⟨h1, by grind⟩
  · rw [if_neg hy] at h; exact absurd h hy
theorem m_whyNoW {g p : Int} (h : MH τ B) : f_X12_whyNoWindows 113 g p τ = some (if yGu B g p = 0 then (if stn B p.toNat = true then 0 else 9) else yGu B g p) := by
  unfold f_X12_whyNoWindows f_X12_whyNoWindows_b0
  simp only [oM, if_true, m_whyNoTrial h, obs]
  have := @yGu_ge B g p
  by_cases hy : yGu B g p = 0
  · obtain ⟨h1, h2⟩ := yGu0 hy
    obtain ⟨k, rfl, hk, h10⟩ := isP_nat h1 h.2.2
    rw [if_pos (by omega), if_pos hy, m_stone' h (by omega), obs, Int.toNat_natCast]
    grind
  · rw [if_neg (by omega), if_neg hy]
theorem ok_windowSet {g p : Int} (h : Rel σ) : Ok (f_X11_windowSet 0 g p) (f_X12_windowSet 113 g p) σ := by
  have hx := h.xh
  refine Ok.mk (r := if yWin (σ 118) g p = 0 then vWin (σ 118) g p else -1) (y := yWin (σ 118) g p) h (XO.mk ?_) fun τ ht _ => MO.mk ?_
  · unfold f_X11_windowSet f_X11_windowSet_b0
    simp only [oX, if_true, x_windowsWhy hx, obs]
    by_cases hy : yWin (σ 118) g p = 0
    · obtain ⟨h1, h2⟩ := yWin0 hy
      obtain ⟨k, rfl, hk, h10⟩ := isP_nat h1 hx.2.2
      rw [hy]
      simp only [s_ref0, obs, if_true, gX, hx.st.1.at 0 3 5 rfl, x_windowsFor hx.st hk]
      unfold vWin
      rw [Int.toNat_natCast]
    · simp only [s_refn hy, obs, hy, if_false, Int.one_ne_zero]
  · unfold f_X12_windowSet f_X12_windowSet_b0
    simp only [oM, if_true, pM, gM, obs, m_whyNoW ht.r1, upm_same, s_refuse]
    have := @yGu_ge (σ 118) g p
    by_cases hy : yGu (σ 118) g p = 0
    · obtain ⟨h1, h2⟩ := yGu0 hy
      obtain ⟨k, rfl, hk, h10⟩ := isP_nat h1 hx.2.2
      unfold yWin
      simp only [hy, if_true, Int.toNat_natCast]
      by_cases hs : stn (σ 118) k = true
      · have h3 := (ht.r1.r0 (v := 0))
        simp only [hs, if_true, Int.le_refl, m_windowsFor h3 hk, obs]
        have : vWin (σ 118) g k = wv (tS (σ 118) g k) (aS (σ 118)) k := by unfold vWin; rw [Int.toNat_natCast]
        rw [this]
        rcases @wv_cases (tS (σ 118) g k) (aS (σ 118)) k with z | ⟨s, z, _⟩
        · rw [z, upm_upm]; rfl
        · rw [z, if_pos (show (0 : Int) ≤ s by omega), if_neg (show ¬ (s : Int) = -1 by omega), if_pos rfl]
      · simp only [hs, if_false, Bool.false_eq_true]
        rfl
    · unfold yWin
      simp only [hy, if_false]
      rw [if_neg (by omega)]
theorem ok_windows {g p : Int} (h : Rel σ) : Ok (f_X11_windows 0 g p) (f_X12_windows 113 g p) σ := by
  have hx := h.xh
  refine Ok.mk (r := if yWin (σ 118) g p = 0 then ((sz (vWin (σ 118) g p).toNat : Nat) : Int) else -1) (y := yWin (σ 118) g p) h (XO.mk ?_) fun τ ht _ => MO.mk ?_
  · unfold f_X11_windows f_X11_windows_b0
    simp only [oX, if_true, x_windowsWhy hx, obs]
    by_cases hy : yWin (σ 118) g p = 0
    · obtain ⟨h1, h2⟩ := yWin0 hy
      obtain ⟨k, rfl, hk, h10⟩ := isP_nat h1 hx.2.2
      rw [hy]
      simp only [s_ref0, obs, if_true, gX, hx.st.1.at 0 3 5 rfl, x_windowsFor hx.st hk]
      unfold vWin at h2 ⊢
      rw [Int.toNat_natCast] at h2 ⊢
      rcases @wv_cases (tS (σ 118) g k) (aS (σ 118)) k with z | ⟨s, z, hs⟩
      · exact absurd z h2
      · rw [z, s_bitCount hs, obs, Int.toNat_natCast]
    · simp only [s_refn hy, obs, hy, if_false, Int.one_ne_zero]
  · unfold f_X12_windows f_X12_windows_b0
    simp only [oM, if_true, pM, gM, obs, m_whyNoW ht.r1, upm_same, s_refuse]
    have := @yGu_ge (σ 118) g p
    by_cases hy : yGu (σ 118) g p = 0
    · obtain ⟨h1, h2⟩ := yGu0 hy
      obtain ⟨k, rfl, hk, h10⟩ := isP_nat h1 hx.2.2
      unfold yWin
      simp only [hy, if_true, Int.toNat_natCast]
      by_cases hs : stn (σ 118) k = true
      · have h3 := (ht.r1.r0 (v := 0))
        simp only [hs, if_true, Int.le_refl, m_windowsFor h3 hk, obs]
        have : vWin (σ 118) g k = wv (tS (σ 118) g k) (aS (σ 118)) k := by unfold vWin; rw [Int.toNat_natCast]
        rw [this]
        rcases @wv_cases (tS (σ 118) g k) (aS (σ 118)) k with z | ⟨s, z, hs⟩
        · rw [z, upm_upm]; rfl
        · rw [z, if_pos (show (0 : Int) ≤ s by omega), if_neg (show ¬ (s : Int) = -1 by omega), if_pos rfl, s_sizeOf hs, obs, Int.toNat_natCast]
      · simp only [hs, if_false, Bool.false_eq_true]
        rfl
    · unfold yWin
      simp only [hy, if_false]
      rw [if_neg (by omega)]
end
