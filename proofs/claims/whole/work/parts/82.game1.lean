/-! ===== game, moveOf: the court's ===== -/
section
variable {σ τ : Mem} {B D : Nat → Int} {g q : Int}
def swB (B : Nat → Int) (g q : Int) (p : Nat) : Bool := stn B p && decide (mc B p q - 3 < g ∧ g ≤ mc B p q)
def kpB' (B : Nat → Int) (g q : Int) (p : Nat) : Bool := stn B p && decide (mc B p q < g ∧ g ≤ mc B p q + 3)
def bst2 (a : Bool) (x y : Int) : Int := if a = true then imax x y else imin x y
def gn : Nat → Bool → Nat → Nat → Int
  | 0, _, _, _ => 0
  | t + 1, a, s, k =>
    let b0 := gn t (!a) s k
    let b1 := if 0 < s then bst2 a b0 ((if a = true then 1 else 0) + gn t (!a) (s - 1) k) else b0
    if 0 < k then bst2 a b1 ((if a = true then 0 else -1) + gn t (!a) s (k - 1)) else b1
theorem gn_s {t : Nat} {a : Bool} {s k : Nat} : gn (t + 1) a s k = if 0 < k then bst2 a (if 0 < s then bst2 a (gn t (!a) s k) ((if a = true then 1 else 0) + gn t (!a) (s - 1) k) else gn t (!a) s k) ((if a = true then 0 else -1) + gn t (!a) s (k - 1)) else (if 0 < s then bst2 a (gn t (!a) s k) ((if a = true then 1 else 0) + gn t (!a) (s - 1) k) else gn t (!a) s k) := rfl
theorem gn_le : ∀ (t : Nat) (a : Bool) (s k : Nat), -(t : Int) ≤ gn t a s k ∧ gn t a s k ≤ t := by
  intro t
  induction t with
  | zero => intro a s k; exact ⟨Int.le_refl _, Int.le_refl _⟩
  | succ t ih =>
    intro a s k
    rw [gn_s]
    have h1 := ih (!a) s k
    have h2 := ih (!a) (s - 1) k
    have h3 := ih (!a) s (k - 1)
    generalize gn t (!a) s k = x at *
    generalize gn t (!a) (s - 1) k = y at *
    generalize gn t (!a) s (k - 1) = z at *
    cases a <;> simp only [bst2, imax, imin, Bool.false_eq_true, if_false, if_true] <;> grind
def bI (a : Bool) : Int := if a = true then 1 else 0
theorem x_gain : ∀ (t : Nat), t ≤ 4 → ∀ (n : Nat) (a : Bool) (s k : Nat), t < n → s ≤ 10 → k ≤ 10 → f_X1_gain n t (bI a) s k σ = some (gn t a s k) := by
  intro t
  induction t with
  | zero =>
    intro _ n a s k hn hs hk
    obtain ⟨n, rfl⟩ : ∃ m, n = m + 1 := ⟨n - 1, by omega⟩
    rw [hs_X1_gain]
    unfold f_X1_gain_body f_X1_gain_b0
    rw [if_pos (by omega)]
    rfl
  | succ t ih =>
    intro ht n a s k hn hs hk
    obtain ⟨n, rfl⟩ : ∃ m, n = m + 1 := ⟨n - 1, by omega⟩
    have c1 := ih (by omega) n (!a) s k (by omega) hs hk
    have c2 := ih (by omega) n (!a) (s - 1) k (by omega) (by omega) hk
    have c3 := ih (by omega) n (!a) s (k - 1) (by omega) hs (by omega)
    have l1 := gn_le t (!a) s k
    have l2 := gn_le t (!a) (s - 1) k
    have l3 := gn_le t (!a) s (k - 1)
    rw [hs_X1_gain]
    unfold f_X1_gain_body f_X1_gain_b0
    rw [if_neg (by omega), if_pos (by omega), w32_in (z := ((t + 1 : Nat) : Int) - 1) (by omega) (by omega), show ((t + 1 : Nat) : Int) - 1 = t by omega, gn_s]
    unfold f_X1_gain_b23 f_X1_gain_b43 f_X1_gain_b55 f_X1_gain_b86 f_X1_gain_b88 f_X1_gain_b101 f_X1_gain_b113
    rw [w32_in (z := ((t + 1 : Nat) : Int) - 1) (by omega) (by omega), show ((t + 1 : Nat) : Int) - 1 = t by omega]
    have hs1 : 0 < s → w32 ((s : Int) - 1) = ((s - 1 : Nat) : Int) := fun h => by rw [w32_in (by omega) (by omega)]; omega
    have hk1 : 0 < k → w32 ((k : Int) - 1) = ((k - 1 : Nat) : Int) := fun h => by rw [w32_in (by omega) (by omega)]; omega
    cases a
    · simp only [bI, Bool.not_false, Bool.false_eq_true, if_false, if_true] at c1 c2 c3 l1 l2 l3 ⊢
      rw [c1, obs]
      by_cases z1 : 0 < s
      · rw [hs1 z1, c2]
        simp only [obs]
        rw [if_neg (by omega), if_pos z1]
        by_cases z2 : 0 < k
        · rw [hk1 z2, c3]
          simp only [obs]
          rw [if_neg (by omega), if_pos z2, w32_in (by omega) (by omega), w32_in (by omega) (by omega)]
          rfl
        · rw [if_pos (by omega), if_neg z2, w32_in (by omega) (by omega)]
          rfl
      · rw [if_pos (by omega), if_neg z1]
        by_cases z2 : 0 < k
        · rw [hk1 z2, c3]
          simp only [obs]
          rw [if_neg (by omega), if_pos z2, w32_in (by omega) (by omega)]
          rfl
        · rw [if_pos (by omega), if_neg z2]
    · simp only [bI, Bool.not_true, Bool.false_eq_true, if_false, if_true, Int.one_ne_zero] at c1 c2 c3 l1 l2 l3 ⊢
      rw [c1, obs]
      by_cases z1 : 0 < s
      · rw [hs1 z1, c2]
        simp only [obs]
        rw [if_neg (by omega), if_pos z1]
        by_cases z2 : 0 < k
        · rw [hk1 z2, c3]
          simp only [obs]
          rw [if_neg (by omega), if_pos z2, w32_in (by omega) (by omega), w32_in (by omega) (by omega)]
          rfl
        · rw [if_pos (by omega), if_neg z2, w32_in (by omega) (by omega)]
          rfl
      · rw [if_pos (by omega), if_neg z1]
        by_cases z2 : 0 < k
        · rw [hk1 z2, c3]
          simp only [obs]
          rw [if_neg (by omega), if_pos z2, w32_in (by omega) (by omega)]
          rfl
        · rw [if_pos (by omega), if_neg z2]
theorem oDb : isO Sh 1 58 = true := rfl
theorem gDb {j : Nat} : gf Sh σ 1 58 j = some (σ 58 j) := gf_at oDb
theorem pDb {j : Nat} {v : Int} : pf Sh σ 1 58 j v = some (upm σ 58 j v) := pf_at oDb
theorem x_canSway {p : Nat} (h : XH σ B D) (hp : p < nP B) (e1 : σ 58 1 = g) (e2 : σ 58 2 = q) (hg : 0 ≤ g ∧ g ≤ 99) (hq : 0 ≤ q ∧ q < 10) : f_X1_canSway 58 p σ = some (if swB B g q p = true then 1 else 0) := by
  have hB := h.2.2.nP_le
  unfold f_X1_canSway f_X1_canSway_b0 f_X1_excess f_X1_excess_b0 swB
  simp only [oDb, if_true, gDb, obs, h.1.at 58 0 5 rfl, w_isStone' h hp, e1, e2]
  by_cases z : stn B p = true
  · have l := @mc_le B p q h.2.2 (by omega) hq
    simp only [z, if_true, w_mercyFor h hp z hq, obs, Bool.true_and, decide_eq_true_eq]
    rw [w32_in (z := g - mc B p q) (by omega) (by omega), w32_in (by omega) (by omega)]
    grind
  · simp only [z, if_false, Bool.false_eq_true, if_true, Bool.false_and]
theorem x_canKeep {p : Nat} (h : XH σ B D) (hp : p < nP B) (e1 : σ 58 1 = g) (e2 : σ 58 2 = q) (hg : 0 ≤ g ∧ g ≤ 99) (hq : 0 ≤ q ∧ q < 10) : f_X1_canKeep 58 p σ = some (if kpB' B g q p = true then 1 else 0) := by
  have hB := h.2.2.nP_le
  unfold f_X1_canKeep f_X1_canKeep_b0 f_X1_excess f_X1_excess_b0 kpB'
  simp only [oDb, if_true, gDb, obs, h.1.at 58 0 5 rfl, w_isStone' h hp, e1, e2]
  by_cases z : stn B p = true
  · have l := @mc_le B p q h.2.2 (by omega) hq
    simp only [z, if_true, w_mercyFor h hp z hq, obs, Bool.true_and, decide_eq_true_eq]
    rw [w32_in (z := g - mc B p q) (by omega) (by omega), w32_in (by omega) (by omega)]
    grind
  · simp only [z, if_false, Bool.false_eq_true, if_true, Bool.false_and]
/-- the debate begun -/
def dbI (σ1 : Mem) (B : Nat → Int) (g q : Int) (i : Nat) : Prop := σ1 58 1 = g ∧ σ1 58 2 = q ∧ σ1 58 3 = (cnt (swB B g q) i : Nat) ∧ σ1 58 4 = (cnt (kpB' B g q) i : Nat)
theorem x_begin (h : XH σ B D) (hg : 0 ≤ g ∧ g ≤ 99) (hq : 0 ≤ q ∧ q < 10) : ∃ σ', f_X1_begin 58 g q σ = some σ' ∧ Fr [0] σ σ' ∧ dbI σ' B g q (nP B) := by
  have hB := h.2.2.nP_le
  unfold f_X1_begin f_X1_begin_b0
  simp only [oDb, if_true, pDb, obs]
  have := up_all (Q := fun n i => ∀ σ1, Fr [0] σ σ1 → dbI σ1 B g q i → ∃ σ', f_X1_begin_h22 n 58 i σ1 = some σ' ∧ Fr [0] σ σ' ∧ dbI σ' B g q (nP B)) (nP B) (fun n σ1 f1 d1 => ?_) (fun n i hi ih σ1 f1 d1 => ?_) (by unfold FU; omega)
  · refine this _ ((((Fr.up (show gid 58 1 ∈ _ by decide)).then (by decide)).then (by decide)).then (by decide)) ⟨?_, ?_, ?_, ?_⟩ <;> rfl
  · have hx := h.fr0 f1
    rw [hs_X1_begin_h22]
    unfold f_X1_begin_b22
    simp only [gDb, obs, hx.1.at 58 0 5 rfl, w_g, hx.2.1.1.1]
    rw [if_pos (by omega)]
    exact ⟨σ1, rfl, f1, d1⟩
  · have hx := h.fr0 f1
    obtain ⟨d1, d2, d3, d4⟩ := d1
    have l1 := cnt_le (swB B g q) i
    have l2 := cnt_le (kpB' B g q) i
    rw [hs_X1_begin_h22]
    unfold f_X1_begin_b22 f_X1_begin_b72
    simp only [gDb, pDb, obs, hx.1.at 58 0 5 rfl, w_g, hx.2.1.1.1, x_canSway hx hi d1 d2 hg hq, x_canKeep hx hi d1 d2 hg hq, d3, d4]
    rw [if_neg (by omega), w32_in (z := (i : Int) + 1) (by omega) (by omega), w32_in (z := ((cnt (swB B g q) i : Nat) : Int) + 1) (by omega) (by omega), w32_in (z := ((cnt (kpB' B g q) i : Nat) : Int) + 1) (by omega) (by omega)]
    by_cases z1 : swB B g q i = true
    · have z2 : ¬ kpB' B g q i = true := by
        unfold swB at z1
        unfold kpB'
        simp at z1 ⊢
        omega
      rw [if_pos z1, if_neg (by decide)]
      refine ih _ (f1.then (by decide)) ⟨d1, d2, ?_, ?_⟩
      · rw [upm_same, cnt_s, if_pos z1]; rfl
      · rw [upm_app, if_neg (by omega), cnt_s, if_neg z2, d4]; rfl
    · rw [if_neg z1, if_pos rfl]
      by_cases z2 : kpB' B g q i = true
      · rw [if_pos z2, if_neg (by decide)]
        refine ih _ (f1.then (by decide)) ⟨d1, d2, ?_, ?_⟩
        · rw [upm_app, if_neg (by omega), cnt_s, if_neg z1, d3]; rfl
        · rw [upm_same, cnt_s, if_pos z2]; rfl
      · rw [if_neg z2, if_pos rfl]
        refine ih _ f1 ⟨d1, d2, ?_, ?_⟩
        · rw [cnt_s, if_neg z1, d3]; rfl
        · rw [cnt_s, if_neg z2, d4]; rfl
theorem x_outcome {T p : Nat} (h : XH σ B D) (hT : T ≤ 4) (hp : p < 10) (d : dbI σ B g p (nP B)) : f_X1_outcome 58 T σ = some ((tc B g p : Nat) + gn T true (cnt (swB B g p) (nP B)) (cnt (kpB' B g p) (nP B))) := by
  have hB := h.2.2.nP_le
  obtain ⟨d1, d2, d3, d4⟩ := d
  have l1 := cnt_le (swB B g p) (nP B)
  have l2 := cnt_le (kpB' B g p) (nP B)
  have l3 := gn_le T true (cnt (swB B g p) (nP B)) (cnt (kpB' B g p) (nP B))
  have l4 := @tc_le B g p
  unfold f_X1_outcome f_X1_outcome_b0
  simp only [oDb, if_true, gDb, obs, h.1.at 58 0 5 rfl, d1, d2, d3, d4, w_turnCount h hp]
  rw [show f_X1_gain FR T 1 (cnt (swB B g p) (nP B) : Nat) (cnt (kpB' B g p) (nP B) : Nat) σ = _ from x_gain T hT FR true _ _ (show T < 40 by omega) (by omega) (by omega), obs, w32_in (by omega) (by omega)]
/-- how many more by a first move -/
def gw (B : Nat → Int) (g q : Int) (d : Nat) (a : Bool) (s k p : Nat) : Int := if swB B g q p = true then bI a + gn d (!a) (s - 1) k else if kpB' B g q p = true then (if a = true then 0 else -1) + gn d (!a) s (k - 1) else gn d (!a) s k
theorem x_gainBy {T p r : Nat} (h : XH σ B D) (hT : T ≤ 3) (hp : p < 10) (hg : 0 ≤ g ∧ g ≤ 99) (d : dbI σ B g p (nP B)) (hr : r < nP B) (hs : stn B r = true) : f_X1_gainBy 58 r ((T + 1 : Nat) : Int) σ = some (gw B g p T true (cnt (swB B g p) (nP B)) (cnt (kpB' B g p) (nP B)) r) := by
  have hB := h.2.2.nP_le
  obtain ⟨d1, d2, d3, d4⟩ := d
  have l1 := cnt_le (swB B g p) (nP B)
  have l2 := cnt_le (kpB' B g p) (nP B)
  unfold f_X1_gainBy f_X1_gainBy_b0 f_X1_gainBy_b57 gw
  simp only [oDb, if_true, gDb, obs, d3, d4, x_canSway h hr d1 d2 hg (show 0 ≤ (p : Int) ∧ (p : Int) < 10 by omega), x_canKeep h hr d1 d2 hg (show 0 ≤ (p : Int) ∧ (p : Int) < 10 by omega)]
  rw [w32_in (z := ((T + 1 : Nat) : Int) - 1) (by omega) (by omega), show ((T + 1 : Nat) : Int) - 1 = T by omega]
  have gx : ∀ s k : Nat, s ≤ 10 → k ≤ 10 → f_X1_gain FR T 0 s k σ = some (gn T false s k) := fun s k h1 h2 => x_gain T (by omega) FR false s k (show T < 40 by omega) h1 h2
  have pos : ∀ P : Nat → Bool, P r = true → 0 < cnt P (nP B) := fun P hP => by
    have : ¬ cnt P (nP B) = 0 := fun z => by rw [cnt_zero.mp z r hr] at hP; cases hP
    omega
  by_cases z1 : swB B g p r = true
  · have := pos _ z1
    have l3 := gn_le T false (cnt (swB B g p) (nP B) - 1) (cnt (kpB' B g p) (nP B))
    rw [if_pos z1, if_neg (by decide), if_pos z1, w32_in (z := ((cnt (swB B g p) (nP B) : Nat) : Int) - 1) (by omega) (by omega), show ((cnt (swB B g p) (nP B) : Nat) : Int) - 1 = ((cnt (swB B g p) (nP B) - 1 : Nat) : Int) by omega, gx _ _ (by omega) (by omega), obs, w32_in (by omega) (by omega)]
    rfl
  · rw [if_neg z1, if_pos rfl, if_neg z1]
    by_cases z2 : kpB' B g p r = true
    · have := pos _ z2
      rw [if_pos z2, if_neg (by decide), if_pos z2, w32_in (z := ((cnt (kpB' B g p) (nP B) : Nat) : Int) - 1) (by omega) (by omega), show ((cnt (kpB' B g p) (nP B) : Nat) : Int) - 1 = ((cnt (kpB' B g p) (nP B) - 1 : Nat) : Int) by omega, gx _ _ (by omega) (by omega), obs, Int.zero_add]
      rfl
    · rw [if_neg z2, if_pos rfl, if_neg z2, gx _ _ (by omega) (by omega), obs]
      rfl
theorem x_firstMove {T p : Nat} (h : XH σ B D) (hT : T ≤ 3) (hp : p < 10) (hg : 0 ≤ g ∧ g ≤ 99) (d : dbI σ B g p (nP B)) : f_X1_firstMove 58 ((T + 1 : Nat) : Int) σ = some (ff (fun r => stn B r && decide (gw B g p T true (cnt (swB B g p) (nP B)) (cnt (kpB' B g p) (nP B)) r = gn (T + 1) true (cnt (swB B g p) (nP B)) (cnt (kpB' B g p) (nP B)))) (nP B) 0) := by
  have hB := h.2.2.nP_le
  have d' := d
  obtain ⟨d1, d2, d3, d4⟩ := d'
  have l1 := cnt_le (swB B g p) (nP B)
  have l2 := cnt_le (kpB' B g p) (nP B)
  unfold f_X1_firstMove f_X1_firstMove_b0
  simp only [oDb, if_true, gDb, obs, d3, d4]
  rw [show f_X1_gain FR ((T + 1 : Nat) : Int) 1 (cnt (swB B g p) (nP B) : Nat) (cnt (kpB' B g p) (nP B) : Nat) σ = _ from x_gain (T + 1) (by omega) FR true _ _ (show T + 1 < 40 by omega) (by omega) (by omega), obs]
  refine up_all (Q := fun n i => f_X1_firstMove_h16 n 58 ((T + 1 : Nat) : Int) (gn (T + 1) true (cnt (swB B g p) (nP B)) (cnt (kpB' B g p) (nP B))) i σ = some (ff (fun r => stn B r && decide (gw B g p T true (cnt (swB B g p) (nP B)) (cnt (kpB' B g p) (nP B)) r = gn (T + 1) true (cnt (swB B g p) (nP B)) (cnt (kpB' B g p) (nP B)))) (nP B) i)) (nP B) (fun n => ?_) (fun n i hi ih => ?_) (by unfold FU; omega)
  · rw [hs_X1_firstMove_h16]
    unfold f_X1_firstMove_b16
    simp only [gDb, obs, h.1.at 58 0 5 rfl, w_g, h.2.1.1.1]
    rw [if_pos (by omega), ff_N]
  · rw [hs_X1_firstMove_h16]
    unfold f_X1_firstMove_b16 f_X1_firstMove_b51
    simp only [gDb, obs, h.1.at 58 0 5 rfl, w_g, h.2.1.1.1, w_isStone' h hi]
    rw [if_neg (by omega), ff_s hi, w32_in (by omega) (by omega)]
    by_cases z : stn B i = true
    · rw [if_pos z, if_neg (by decide), x_gainBy h hT hp hg d hi z, obs]
      by_cases z2 : gw B g p T true (cnt (swB B g p) (nP B)) (cnt (kpB' B g p) (nP B)) i = gn (T + 1) true (cnt (swB B g p) (nP B)) (cnt (kpB' B g p) (nP B))
      · rw [if_pos z2, if_pos (by simp [z, z2])]
      · rw [if_neg z2, if_neg (by simp [z2])]
        exact ih
    · rw [if_neg z, if_pos rfl, if_neg (by simp [z])]
      exact ih
end
