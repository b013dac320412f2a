/-! ===== cuts, cutOf: the search as such ===== -/
section
variable {lf : Nat → Nat → Bool} {st : Nat → Bool}
def alb (P : Nat → Bool) : Nat → Bool
  | 0 => true
  | n + 1 => alb P n && P n
theorem alb_s {P : Nat → Bool} {n : Nat} : alb P (n + 1) = (alb P n && P n) := rfl
theorem alb_iff {P : Nat → Bool} {n : Nat} : alb P n = true ↔ ∀ k, k < n → P k = true := by
  induction n with
  | zero => exact ⟨fun _ k hk => by omega, fun _ => rfl⟩
  | succ n ih =>
    rw [alb_s, Bool.and_eq_true, ih]
    constructor
    · intro h k hk
      by_cases e : k = n
      · rw [e]; exact h.2
      · exact h.1 k (by omega)
    · intro h
      exact ⟨fun k hk => h k (by omega), h n (by omega)⟩
theorem alb_cg {P Q : Nat → Bool} {n : Nat} (h : ∀ k, k < n → P k = Q k) : alb P n = alb Q n := by
  induction n with
  | zero => rfl
  | succ n ih => rw [alb_s, alb_s, ih (fun k hk => h k (by omega)), h n (by omega)]
/-- the first way, by places, with just l cuts -/
def Sc (lf : Nat → Nat → Bool) (st : Nat → Bool) : Nat → Nat → Nat → Nat → Nat → Option (Nat × Nat)
  | 0, _, l, K, H => if l = 0 ∧ lf K H = true then some (K, H) else none
  | r + 1, p, l, K, H => (Sc lf st r (p + 1) l K H).or (if l = 0 ∨ st p = false then none else (Sc lf st r (p + 1) (l - 1) (K ||| 2 ^ p) H).or (Sc lf st r (p + 1) (l - 1) K (H ||| 2 ^ p)))
theorem Sc_0 {p l K H : Nat} : Sc lf st 0 p l K H = if l = 0 ∧ lf K H = true then some (K, H) else none := rfl
theorem Sc_s {r p l K H : Nat} : Sc lf st (r + 1) p l K H = (Sc lf st r (p + 1) l K H).or (if l = 0 ∨ st p = false then none else (Sc lf st r (p + 1) (l - 1) (K ||| 2 ^ p) H).or (Sc lf st r (p + 1) (l - 1) K (H ||| 2 ^ p))) := rfl
theorem Sc_out {d p l K H : Nat} (h : ∀ k, p ≤ k → st k = false) : Sc lf st d p l K H = Sc lf st 0 p l K H := by
  induction d generalizing p with
  | zero => rfl
  | succ d ih =>
    rw [Sc_s, if_pos (.inr (h p (Nat.le_refl _))), Option.or_none, ih (fun k hk => h k (by omega))]
    rfl
theorem Sc_ext {r d p l K H : Nat} (h : ∀ k, p + r ≤ k → st k = false) : Sc lf st (r + d) p l K H = Sc lf st r p l K H := by
  induction r generalizing p l K H with
  | zero => rw [Nat.zero_add]; exact Sc_out (fun k hk => h k (by omega))
  | succ r ih =>
    rw [show r + 1 + d = (r + d) + 1 by omega, Sc_s, Sc_s, ih (fun k hk => h k (by omega)), ih (fun k hk => h k (by omega)), ih (fun k hk => h k (by omega))]
theorem Sc_lf0 (h : ∀ K H, lf K H = false) {r p l K H : Nat} : Sc lf st r p l K H = none := by
  induction r generalizing p l K H with
  | zero => rw [Sc_0, h]; simp
  | succ r ih => rw [Sc_s, ih, ih, ih]; simp
theorem Sc_l0 {r p K H : Nat} : Sc lf st r p 0 K H = if lf K H = true then some (K, H) else none := by
  induction r generalizing p with
  | zero => rw [Sc_0]; simp
  | succ r ih => rw [Sc_s, if_pos (.inl rfl), Option.or_none, ih]
theorem Sc_n {r p l K H : Nat} (h : Sc lf st (r + 1) p l K H = none) : Sc lf st r (p + 1) l K H = none ∧ (0 < l → st p = true → Sc lf st r (p + 1) (l - 1) (K ||| 2 ^ p) H = none ∧ Sc lf st r (p + 1) (l - 1) K (H ||| 2 ^ p) = none) := by
  rw [Sc_s, Option.or_eq_none_iff] at h
  refine ⟨h.1, fun h1 h2 => ?_⟩
  rw [if_neg (by rw [h2]; simp; omega), Option.or_eq_none_iff] at h
  exact h.2
def frs (p K H : Nat) : Prop := ∀ k, p ≤ k → K.testBit k = false ∧ H.testBit k = false
def nbt (p : Nat) (W : Nat → Bool) : Nat := cnt (fun k => decide (p ≤ k) && W k) 10
theorem nbt_s {p : Nat} {W : Nat → Bool} (hp : p < 10) : nbt p W = nbt (p + 1) W + b2n (W p) := by
  unfold nbt
  have := cnt_one (P := fun k => decide (p + 1 ≤ k) && W k) (Q := fun k => decide (p ≤ k) && W k) (i := p) (n := 10) hp (fun k _ hk => by
    by_cases e : p ≤ k
    · simp [e, show p + 1 ≤ k by omega]
    · simp [e, show ¬ p + 1 ≤ k by omega])
  simp only [show decide (p + 1 ≤ p) = false by simp, show decide (p ≤ p) = true by simp, Bool.false_and, Bool.true_and] at this
  rw [show b2n false = 0 from rfl] at this
  omega
theorem Sc_spec {r : Nat} : ∀ {p l K H K' H' : Nat}, Sc lf st r p l K H = some (K', H') → frs p K H → p + r ≤ 10 → K < 1024 → H < 1024 → (∀ k, k < p → K'.testBit k = K.testBit k ∧ H'.testBit k = H.testBit k) ∧ (∀ k, p ≤ k → (K'.testBit k = true → st k = true) ∧ (H'.testBit k = true → st k = true) ∧ ¬ (K'.testBit k = true ∧ H'.testBit k = true)) ∧ nbt p (fun k => K'.testBit k || H'.testBit k) = l ∧ lf K' H' = true ∧ K' < 1024 ∧ H' < 1024 := by
  induction r with
  | zero =>
    intro p l K H K' H' h f hp hK hH
    rw [Sc_0] at h
    by_cases z : l = 0 ∧ lf K H = true
    · rw [if_pos z] at h
      cases h
      refine ⟨fun _ _ => ⟨rfl, rfl⟩, fun k hk => ?_, ?_, z.2, hK, hH⟩
      · rw [(f k hk).1, (f k hk).2]; simp
      · rw [z.1]
        unfold nbt
        refine cnt_zero.mpr fun k _ => ?_
        by_cases e : p ≤ k
        · show (decide (p ≤ k) && (K.testBit k || H.testBit k)) = false
          rw [(f k e).1, (f k e).2]; simp
        · simp [e]
    · rw [if_neg z] at h; cases h
  | succ r ih =>
    intro p l K H K' H' h f hp hK hH
    rw [Sc_s] at h
    have pw : 2 ^ p < 2 ^ 10 := Nat.pow_lt_pow_right (by omega) (by omega)
    cases e1 : Sc lf st r (p + 1) l K H with
    | some w =>
      rw [e1, Option.some_or] at h
      cases h
      obtain ⟨g1, g2, g3, g4, g5, g6⟩ := ih e1 (fun k hk => f k (by omega)) (by omega) hK hH
      have gp := g1 p (by omega)
      rw [(f p (Nat.le_refl _)).1, (f p (Nat.le_refl _)).2] at gp
      refine ⟨fun k hk => g1 k (by omega), fun k hk => ?_, ?_, g4, g5, g6⟩
      · by_cases e : k = p
        · rw [e, gp.1, gp.2]; simp
        · exact g2 k (by omega)
      · rw [nbt_s (by omega), g3, gp.1, gp.2]; rfl
    | none =>
      rw [e1, Option.none_or] at h
      by_cases z : l = 0 ∨ st p = false
      · rw [if_pos z] at h; cases h
      · rw [if_neg z] at h
        have z' : ¬ l = 0 ∧ st p = true := ⟨fun q => z (.inl q), by cases q : st p; exact absurd (.inr q) z; rfl⟩
        cases e2 : Sc lf st r (p + 1) (l - 1) (K ||| 2 ^ p) H with
        | some w =>
          rw [e2, Option.some_or] at h
          cases h
          obtain ⟨g1, g2, g3, g4, g5, g6⟩ := ih e2 (fun k hk => by rw [or_bit, (f k (by omega)).1, (f k (by omega)).2]; simp; omega) (by omega) (Nat.or_lt_two_pow (n := 10) hK pw) hH
          have gp := g1 p (by omega)
          rw [or_bit, (f p (Nat.le_refl _)).1, (f p (Nat.le_refl _)).2] at gp
          simp only [decide_true, Bool.or_true] at gp
          refine ⟨fun k hk => ?_, fun k hk => ?_, ?_, g4, g5, g6⟩
          · have := g1 k (by omega)
            rw [or_bit] at this
            simpa [show ¬ p = k by omega] using this
          · by_cases e : k = p
            · rw [e, gp.1, gp.2, z'.2]; simp
            · exact g2 k (by omega)
          · rw [nbt_s (by omega), g3, gp.1, gp.2]
            simp [b2n]
            omega
        | none =>
          rw [e2, Option.none_or] at h
          obtain ⟨g1, g2, g3, g4, g5, g6⟩ := ih h (fun k hk => by rw [or_bit, (f k (by omega)).1, (f k (by omega)).2]; simp; omega) (by omega) hK (Nat.or_lt_two_pow (n := 10) hH pw)
          have gp := g1 p (by omega)
          rw [or_bit, (f p (Nat.le_refl _)).1, (f p (Nat.le_refl _)).2] at gp
          simp only [decide_true, Bool.or_true] at gp
          refine ⟨fun k hk => ?_, fun k hk => ?_, ?_, g4, g5, g6⟩
          · have := g1 k (by omega)
            rw [or_bit] at this
            simpa [show ¬ p = k by omega] using this
          · by_cases e : k = p
            · rw [e, gp.1, gp.2, z'.2]; simp
            · exact g2 k (by omega)
          · rw [nbt_s (by omega), g3, gp.1, gp.2]
            simp [b2n]
            omega
/-! when a way may still be found -/
def rst (a p : Nat) : Nat := sub a (2 ^ p - 1)
theorem rst_bit {a p k : Nat} : (rst a p).testBit k = (a.testBit k && decide (p ≤ k)) := by
  unfold rst
  rw [sub_bit, Nat.testBit_two_pow_sub_one]
  by_cases e : p ≤ k
  · simp [e, show ¬ k < p by omega]
  · simp [e, show k < p by omega]
def cE (e : Nat × Bool) (K H : Nat) : Nat := sz (sub e.1 K ||| H)
def hS (a p : Nat) (e : Nat × Bool) : Nat := if e.2 = true then sub (rst a p) e.1 else rst a p &&& e.1
def cH1 (a p l K H : Nat) (e : Nat × Bool) : Prop := if e.2 = true then sz a / 2 < cE e K H + min l (sz (hS a p e)) else (cE e K H : Int) - (min l (sz (hS a p e)) : Nat) ≤ (sz a / 2 : Nat)
def cH2 (a p l K H : Nat) (e f : Nat × Bool) : Prop := (1 : Int) ≤ (cE e K H : Int) - (cE f K H : Nat) + (min l (sz (sub (rst a p &&& f.1) e.1)) : Nat)
def CH (a M : Nat) (e : Nat → Nat × Bool) (p l K H : Nat) : Prop := (∀ j, j < M → cH1 a p l K H (e j)) ∧ ∀ i, i < M → (e i).2 = true → ∀ j, j < M → (e j).2 = false → cH2 a p l K H (e i) (e j)
def hlb (a K H : Nat) (e : Nat × Bool) : Bool := more (sub e.1 K ||| H) a == e.2
theorem hlb_iff {a K H : Nat} {e : Nat × Bool} : hlb a K H e = true ↔ (sz a / 2 < cE e K H ↔ e.2 = true) := by
  unfold hlb more cE
  cases e.2 <;> simp <;> omega
def lfb (a M : Nat) (e : Nat → Nat × Bool) (K H : Nat) : Bool := alb (fun j => hlb a K H (e j)) M
theorem cnt_5 {P Q R S U : Nat → Bool} {n : Nat} (h : ∀ k, k < n → b2n (P k) + b2n (Q k) ≤ b2n (R k) + b2n (S k) + b2n (U k)) : cnt P n + cnt Q n ≤ cnt R n + cnt S n + cnt U n := by
  induction n with
  | zero => exact Nat.le_refl _
  | succ n ih =>
    have h1 := ih (fun k hk => h k (by omega))
    have h2 := h n (by omega)
    unfold b2n at h2
    rw [cnt_s, cnt_s, cnt_s, cnt_s, cnt_s]
    omega
theorem cE_cnt {e : Nat × Bool} {K H : Nat} : cE e K H = cnt (fun k => (e.1.testBit k && !K.testBit k) || H.testBit k) 10 := cnt_cg fun k _ => by rw [Nat.testBit_or, sub_bit]
theorem CH_of {a M r p l l' K H : Nat} {e : Nat → Nat × Bool} {w : Nat × Nat} (hs : ∀ k, st k = a.testBit k) (h : Sc (lfb a M e) st r p l' K H = some w) (hl : l' ≤ l) (f : frs p K H) (hp : p + r ≤ 10) (hK : K < 1024) (hH : H < 1024) : CH a M e p l K H := by
  obtain ⟨K', H'⟩ := w
  obtain ⟨g1, g2, g3, g4, g5, g6⟩ := Sc_spec h f hp hK hH
  have gl : ∀ j, j < M → hlb a K' H' (e j) = true := alb_iff.mp g4
  have key : ∀ (W : Nat → Bool), cnt (fun k => (decide (p ≤ k) && (K'.testBit k || H'.testBit k)) && W k) 10 ≤ l := by
    intro W
    have : cnt (fun k => (decide (p ≤ k) && (K'.testBit k || H'.testBit k)) && W k) 10 ≤ nbt p (fun k => K'.testBit k || H'.testBit k) := cnt_mono fun k _ hk => by simp at hk ⊢; exact hk.1
    omega
  constructor
  · intro j hj
    have hj2 := hlb_iff.mp (gl j hj)
    unfold cH1
    rw [cE_cnt] at hj2 ⊢
    by_cases z : (e j).2 = true
    · rw [if_pos z]
      have z2 := hj2.mpr z
      have k1 := key (fun k => a.testBit k && !(e j).1.testBit k)
      have k2 : cnt (fun k => (decide (p ≤ k) && (K'.testBit k || H'.testBit k)) && (a.testBit k && !(e j).1.testBit k)) 10 ≤ sz (hS a p (e j)) := cnt_mono fun k _ hk => by
        unfold hS
        rw [if_pos z, sub_bit, rst_bit]
        simp at hk ⊢
        exact ⟨⟨hk.2.1, hk.1.1⟩, hk.2.2⟩
      have k3 := cnt_5 (P := fun k => ((e j).1.testBit k && !K'.testBit k) || H'.testBit k) (Q := fun _ => false) (R := fun k => ((e j).1.testBit k && !K.testBit k) || H.testBit k) (S := fun k => (decide (p ≤ k) && (K'.testBit k || H'.testBit k)) && (a.testBit k && !(e j).1.testBit k)) (U := fun _ => false) (n := 10) (fun k _ => by
        by_cases q : k < p
        · rw [(g1 k q).1, (g1 k q).2]
          unfold b2n
          omega
        · obtain ⟨s1, s2, s3⟩ := g2 k (by omega)
          rw [hs] at s1 s2
          rw [(f k (by omega)).1, (f k (by omega)).2]
          have qp : p ≤ k := by omega
          revert s1 s2 s3
          generalize K'.testBit k = x
          generalize H'.testBit k = y
          generalize a.testBit k = u
          generalize (e j).1.testBit k = v
          cases x <;> cases y <;> cases u <;> cases v <;> simp [b2n, qp])
      have k4 : cnt (fun _ => false) 10 = 0 := cnt_zero.mpr fun _ _ => rfl
      omega
    · rw [if_neg z]
      have z2 : ¬ sz a / 2 < cnt (fun k => (e j).1.testBit k && !K'.testBit k || H'.testBit k) 10 := fun q => z (hj2.mp q)
      have k1 := key (fun k => a.testBit k && (e j).1.testBit k)
      have k2 : cnt (fun k => (decide (p ≤ k) && (K'.testBit k || H'.testBit k)) && (a.testBit k && (e j).1.testBit k)) 10 ≤ sz (hS a p (e j)) := cnt_mono fun k _ hk => by
        unfold hS
        rw [if_neg z, Nat.testBit_and, rst_bit]
        simp at hk ⊢
        exact ⟨⟨hk.2.1, hk.1.1⟩, hk.2.2⟩
      have k3 := cnt_5 (P := fun k => ((e j).1.testBit k && !K.testBit k) || H.testBit k) (Q := fun _ => false) (R := fun k => ((e j).1.testBit k && !K'.testBit k) || H'.testBit k) (S := fun k => (decide (p ≤ k) && (K'.testBit k || H'.testBit k)) && (a.testBit k && (e j).1.testBit k)) (U := fun _ => false) (n := 10) (fun k _ => by
        by_cases q : k < p
        · rw [(g1 k q).1, (g1 k q).2]
          unfold b2n
          omega
        · obtain ⟨s1, s2, s3⟩ := g2 k (by omega)
          rw [hs] at s1 s2
          rw [(f k (by omega)).1, (f k (by omega)).2]
          have qp : p ≤ k := by omega
          revert s1 s2 s3
          generalize K'.testBit k = x
          generalize H'.testBit k = y
          generalize a.testBit k = u
          generalize (e j).1.testBit k = v
          cases x <;> cases y <;> cases u <;> cases v <;> simp [b2n, qp])
      have k4 : cnt (fun _ => false) 10 = 0 := cnt_zero.mpr fun _ _ => rfl
      omega
  · intro i hi ci j hj cj
    have hi2 := (hlb_iff.mp (gl i hi)).mpr ci
    have hj2 : ¬ sz a / 2 < cE (e j) K' H' := fun q => by
      have := (hlb_iff.mp (gl j hj)).mp q
      rw [cj] at this
      cases this
    unfold cH2
    rw [cE_cnt] at hi2 hj2 ⊢
    rw [cE_cnt]
    have k1 := key (fun k => a.testBit k && ((e j).1.testBit k && !(e i).1.testBit k))
    have k2 : cnt (fun k => (decide (p ≤ k) && (K'.testBit k || H'.testBit k)) && (a.testBit k && ((e j).1.testBit k && !(e i).1.testBit k))) 10 ≤ sz (sub (rst a p &&& (e j).1) (e i).1) := cnt_mono fun k _ hk => by
      rw [sub_bit, Nat.testBit_and, rst_bit]
      simp at hk ⊢
      exact ⟨⟨⟨hk.2.1, hk.1.1⟩, hk.2.2.1⟩, hk.2.2.2⟩
    have k3 := cnt_5 (P := fun k => ((e i).1.testBit k && !K'.testBit k) || H'.testBit k) (Q := fun k => ((e j).1.testBit k && !K.testBit k) || H.testBit k) (R := fun k => ((e i).1.testBit k && !K.testBit k) || H.testBit k) (S := fun k => ((e j).1.testBit k && !K'.testBit k) || H'.testBit k) (U := fun k => (decide (p ≤ k) && (K'.testBit k || H'.testBit k)) && (a.testBit k && ((e j).1.testBit k && !(e i).1.testBit k))) (n := 10) (fun k _ => by
      by_cases q : k < p
      · rw [(g1 k q).1, (g1 k q).2]
        unfold b2n
        omega
      · obtain ⟨s1, s2, s3⟩ := g2 k (by omega)
        rw [hs] at s1 s2
        rw [(f k (by omega)).1, (f k (by omega)).2]
        have qp : p ≤ k := by omega
        revert s1 s2 s3
        generalize K'.testBit k = x
        generalize H'.testBit k = y
        generalize a.testBit k = u
        generalize (e j).1.testBit k = v
        generalize (e i).1.testBit k = w
        cases x <;> cases y <;> cases u <;> cases v <;> cases w <;> simp [b2n, qp])
    omega
/-- with no cut left, or no place, the look is exact -/
theorem CH_end {a M p l K H : Nat} {e : Nat → Nat × Bool} (h : CH a M e p l K H) (h0 : l = 0 ∨ 10 ≤ p) : lfb a M e K H = true := by
  refine alb_iff.mpr fun j hj => hlb_iff.mpr ?_
  have h1 := h.1 j hj
  have z0 : min l (sz (hS a p (e j))) = 0 := by
    rcases h0 with z | z
    · omega
    · have : sz (hS a p (e j)) = 0 := by
        refine cnt_zero.mpr fun k hk => ?_
        unfold hS
        have : (rst a p).testBit k = false := by rw [rst_bit]; simp; omega
        split
        · rw [sub_bit, this]; rfl
        · rw [Nat.testBit_and, this]; rfl
      omega
  unfold cH1 at h1
  rw [z0] at h1
  by_cases z : (e j).2 = true
  · rw [if_pos z] at h1
    exact ⟨fun _ => z, fun _ => by omega⟩
  · rw [if_neg z] at h1
    exact ⟨fun q => by omega, fun q => absurd q z⟩
end
