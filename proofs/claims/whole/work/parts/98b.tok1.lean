/-! ===== texts: bytes, runs, names ===== -/
section
/-- how far a run of such bytes goes -/
def rnF (P : Nat → Bool) (N : Nat) : Nat → Nat → Nat
  | 0, p => p
  | f + 1, p => if p < N ∧ P p = true then rnF P N f (p + 1) else p
def rn (P : Nat → Bool) (N p : Nat) : Nat := rnF P N (N - p) p
variable {P : Nat → Bool} {N p : Nat}
theorem rn_stop (h : ¬ (p < N ∧ P p = true)) : rn P N p = p := by
  unfold rn
  cases N - p with
  | zero => rfl
  | succ f => unfold rnF; rw [if_neg h]
theorem rn_go (h : p < N) (h1 : P p = true) : rn P N p = rn P N (p + 1) := by
  unfold rn
  rw [show N - p = (N - (p + 1)) + 1 by omega]
  show (if p < N ∧ P p = true then _ else _) = _
  rw [if_pos ⟨h, h1⟩]
theorem rn_all : ∀ (k p : Nat), N - p ≤ k → (p ≤ rn P N p ∧ (p ≤ N → rn P N p ≤ N) ∧ (∀ i, p ≤ i → i < rn P N p → i < N ∧ P i = true) ∧ ¬ (rn P N p < N ∧ P (rn P N p) = true)) := by
  intro k
  induction k with
  | zero =>
    intro p hp
    have h : ¬ (p < N ∧ P p = true) := by omega
    rw [rn_stop h]
    exact ⟨Nat.le_refl _, fun q => q, fun i h1 h2 => by omega, h⟩
  | succ k ih =>
    intro p hp
    by_cases h : p < N ∧ P p = true
    · obtain ⟨i1, i2, i3, i4⟩ := ih (p + 1) (by omega)
      rw [rn_go h.1 h.2]
      refine ⟨by omega, fun _ => i2 (by omega), fun i h1 h2 => ?_, i4⟩
      by_cases q : i = p
      · rw [q]; exact h
      · exact i3 i (by omega) h2
    · rw [rn_stop h]
      exact ⟨Nat.le_refl _, fun q => q, fun i h1 h2 => by omega, h⟩
theorem rn_ge : p ≤ rn P N p := (rn_all _ p (Nat.le_refl _)).1
theorem rn_le (h : p ≤ N) : rn P N p ≤ N := (rn_all _ p (Nat.le_refl _)).2.1 h
theorem rn_in {i : Nat} (h : p ≤ i) (h1 : i < rn P N p) : i < N ∧ P i = true := (rn_all _ p (Nat.le_refl _)).2.2.1 i h h1
theorem rn_gt (h : p < N) (h1 : P p = true) : p < rn P N p := by rw [rn_go h h1]; exact rn_ge
def pSp (t : Nat → Int) (i : Nat) : Bool := decide (t i = 10 ∨ t i = 32)
def pLt (t : Nat → Int) (i : Nat) : Bool := decide (97 ≤ t i ∧ t i ≤ 122)
def pDg (t : Nat → Int) (i : Nat) : Bool := decide (48 ≤ t i ∧ t i ≤ 57)
/-- letters as numbers -/
def lts (t : Nat → Int) (a n : Nat) : List Nat := (List.range n).map fun k => (t (a + k) - 96).toNat
theorem ev_snoc {b d : Nat} {l : List Nat} : ev b (l ++ [d]) = ev b l * b + d := by unfold ev; rw [List.foldl_append]; rfl
theorem lts_s {t : Nat → Int} {a n : Nat} : lts t a (n + 1) = lts t a n ++ [(t (a + n) - 96).toNat] := by unfold lts; rw [List.range_succ, List.map_append]; rfl
theorem lts_len {t : Nat → Int} {a n : Nat} : (lts t a n).length = n := by unfold lts; simp
theorem snoc_ind {Q : List Nat → Prop} (h0 : Q []) (hs : ∀ l d, Q l → Q (l ++ [d])) : ∀ l, Q l := by
  intro l
  have : ∀ (n : Nat) (l : List Nat), l.length = n → Q l := by
    intro n
    induction n with
    | zero => intro l hl; rw [List.length_eq_zero_iff.mp hl]; exact h0
    | succ n ih =>
      intro l hl
      have hne : l ≠ [] := fun q => by rw [q] at hl; cases hl
      rw [← List.dropLast_concat_getLast hne]
      exact hs _ _ (ih _ (by rw [List.length_dropLast]; omega))
  exact this _ l rfl
def dg (l : List Nat) : Prop := ∀ d ∈ l, 1 ≤ d ∧ d ≤ 26
theorem dg_snoc {l : List Nat} {d : Nat} : dg (l ++ [d]) ↔ dg l ∧ 1 ≤ d ∧ d ≤ 26 := by
  unfold dg
  simp only [List.mem_append, List.mem_singleton]
  constructor
  · intro h
    exact ⟨fun x hx => h x (.inl hx), h d (.inr rfl)⟩
  · rintro ⟨h1, h2⟩ x (hx | rfl)
    · exact h1 x hx
    · exact h2
theorem ev_lt {b : Nat} (hb : 27 ≤ b) : ∀ l, dg l → ev b l < b ^ l.length := by
  refine snoc_ind (fun _ => ?_) (fun l d ih h => ?_)
  · exact Nat.le_refl 1
  · obtain ⟨h1, h2, h3⟩ := dg_snoc.mp h
    have := ih h1
    rw [ev_snoc, List.length_append, List.length_singleton, Nat.pow_succ]
    calc ev b l * b + d < ev b l * b + b := by omega
      _ = (ev b l + 1) * b := by rw [Nat.add_mul, Nat.one_mul]
      _ ≤ b ^ l.length * b := Nat.mul_le_mul_right _ this
theorem ev_inj {b : Nat} (hb : 27 ≤ b) : ∀ l, dg l → ∀ m, dg m → ev b l = ev b m → l = m := by
  refine snoc_ind (fun _ => ?_) (fun l d ih h => ?_)
  · refine snoc_ind (fun _ _ => rfl) (fun m e _ hm q => ?_)
    obtain ⟨h1, h2, h3⟩ := dg_snoc.mp hm
    rw [ev_snoc] at q
    have : ev b [] = 0 := rfl
    omega
  · obtain ⟨h1, h2, h3⟩ := dg_snoc.mp h
    refine snoc_ind (fun _ q => ?_) (fun m e _ hm q => ?_)
    · rw [ev_snoc] at q
      have : ev b [] = 0 := rfl
      omega
    · obtain ⟨k1, k2, k3⟩ := dg_snoc.mp hm
      rw [ev_snoc, ev_snoc] at q
      have qd : d = e := by
        have q1 := congrArg (· % b) q
        simp only [Nat.mul_comm _ b, Nat.mul_add_mod] at q1
        rw [Nat.mod_eq_of_lt (by omega), Nat.mod_eq_of_lt (by omega)] at q1
        exact q1
      subst qd
      have : ev b l = ev b m := Nat.eq_of_mul_eq_mul_right (show 0 < b by omega) (by omega)
      rw [ih h1 m k1 this]
theorem Nm.inj {x y x' y' : Int} (h : Nm x y) (g : Nm x' y') : x = x' ↔ y = y' := by
  obtain ⟨l, l1, l2, l3, l4⟩ := h
  obtain ⟨m, m1, m2, m3, m4⟩ := g
  rw [l3, m3, l4, m4]
  constructor
  · intro q
    rw [ev_inj (b := 27) (by omega) l l2 m m2 (by omega)]
  · intro q
    rw [ev_inj (b := 32) (by omega) l l2 m m2 (by omega)]
theorem Nm.nn {x y : Int} (h : Nm x y) : 0 ≤ x ∧ 0 ≤ y ∧ x < 282429536481 ∧ y < 1099511627776 := by
  obtain ⟨l, l1, l2, l3, l4⟩ := h
  have h27 := ev_lt (b := 27) (by omega) l l2
  have h32 := ev_lt (b := 32) (by omega) l l2
  have p27 : 27 ^ l.length ≤ 27 ^ 8 := Nat.pow_le_pow_right (by omega) l1
  have p32 : 32 ^ l.length ≤ 32 ^ 8 := Nat.pow_le_pow_right (by omega) l1
  omega
/-! the words that are kept -/
def WL : List (List Nat) := [[15, 4, 4, 19], [19, 20, 15, 14, 5], [12, 5, 14, 9, 5, 14, 20], [13, 15, 19, 19], [19, 20, 18, 15, 14, 7], [7, 1, 16], [3, 18, 15, 23], [15, 14], [6, 15, 18], [1, 7, 1, 9, 14, 19, 20], [25, 5, 1, 18], [20, 18, 25], [11, 9, 14, 4], [8, 1, 18, 19, 8], [3, 12, 5, 1, 18], [6, 12, 25], [1, 14, 25], [23, 8, 5, 14], [20, 21, 18, 14, 19], [19, 20, 1, 14, 4, 19], [12, 15, 15, 16], [5, 14, 4], [19, 20, 15, 16]]
def kx (k : Nat) : Int := ev 27 (WL.getD k [])
def km (k : Nat) : Int := ev 32 (WL.getD k [])
theorem WL_ok : ∀ k, k < 23 → (WL.getD k []).length ≤ 8 ∧ dg (WL.getD k []) := by unfold dg; decide +kernel
theorem Nm_k {k : Nat} (h : k < 23) : Nm (kx k) (km k) := ⟨_, (WL_ok k h).1, (WL_ok k h).2, rfl, rfl⟩
theorem kx_inj : ∀ i, i < 23 → ∀ j, j < 23 → kx i = kx j → i = j := by decide +kernel
set_option maxRecDepth 100000 in
theorem SG4 : ∀ k, k < 23 → SG 4 k = kx k := by decide +kernel
end
