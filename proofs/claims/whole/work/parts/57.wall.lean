/-! ===== the WALL: the reference's block B is its picture; WR: a wall of the court is as B says ===== -/
def nP (B : Nat → Int) : Nat := (B 0).toNat
def nK (B : Nat → Int) : Nat := (B 1).toNat
def stn (B : Nat → Int) (p : Nat) : Bool := decide (B (7 + p) = 1)
/-- what the crows on a place add -/
def cs (B : Nat → Int) (p : Int) : Nat → Int
  | 0 => 0
  | k + 1 => cs B p k + if B (47 + k) = p then (if B (51 + k) = 1 then 3 else -3) else 0
def ab (x : Int) : Int := if 0 ≤ x then x else -x
def mi (x y : Int) : Int := if y < x then y else x
def ds (n p q : Int) : Int := mi (ab (p - q)) (n - ab (p - q))
def mc (B : Nat → Int) (p : Nat) (q : Int) : Int := B (17 + p) + B (27 + p) + ds (B 0) p q + cs B p (nK B)
/-- the block aged by years, as far as mercy looks at it -/
def agd (B : Nat → Int) (y : Int) : Nat → Int := fun j => if 27 ≤ j ∧ j < 37 then mi 9 (B j + y * B (j - 20)) else B j
def tB (B : Nat → Int) (g q : Int) (p : Nat) : Bool := stn B p && decide (mc B p q < g)
def tS (B : Nat → Int) (g q : Int) : Nat := setOf (tB B g q) (nP B)
def aS (B : Nat → Int) : Nat := setOf (stn B) (nP B)
def more (s t : Nat) : Bool := decide (sz t < 2 * sz s)
def cdm (B : Nat → Int) (g : Int) (q : Nat) : Bool := stn B q && more (tS B g q) (aS B)
def ms (B : Nat → Int) : Nat → Int
  | 0 => 0
  | p + 1 => ms B p + if stn B p = true then B (27 + p) else 0
def cw (B : Nat → Int) (p : Int) (w : Nat) : Bool := decide (B (47 + w) = p)
/-- a name as the court and as the reference write it -/
def ev (b : Nat) (l : List Nat) : Nat := l.foldl (fun x d => x * b + d) 0
def Nm (x y : Int) : Prop := ∃ l : List Nat, l.length ≤ 8 ∧ (∀ d ∈ l, 1 ≤ d ∧ d ≤ 26) ∧ x = ev 27 l ∧ y = ev 32 l
/-- what a block holds -/
def BV (B : Nat → Int) : Prop := (0 ≤ B 0 ∧ B 0 ≤ 10) ∧ (0 ≤ B 1 ∧ B 1 ≤ 4) ∧ ((0 ≤ B 2 ∧ B 2 ≤ 16) ∧ R32 (B 5)) ∧ 0 ≤ B 3 ∧
  (∀ p, p < 10 → (B (7 + p) = 0 ∨ B (7 + p) = 1) ∧ (0 ≤ B (17 + p) ∧ B (17 + p) ≤ 30) ∧ (0 ≤ B (27 + p) ∧ B (27 + p) ≤ 9) ∧ (0 ≤ B (37 + p) ∧ B (37 + p) ≤ 9) ∧ (B (7 + p) = 1 → 1 ≤ B (37 + p)) ∧ (B 0 ≤ p → B (7 + p) = 0)) ∧
  (∀ w, w < nK B → (B (51 + w) = 0 ∨ B (51 + w) = 1) ∧ (B (47 + w) = -1 ∨ (0 ≤ B (47 + w) ∧ B (47 + w) < B 0 ∧ stn B (B (47 + w)).toNat = true)))
def WR (σ : Mem) (a : Nat) (B D : Nat → Int) : Prop :=
  (σ a 0 = B 0 ∧ σ a 1 = (aS B : Nat) ∧ σ a 7 = B 1 ∧ σ a 11 = B 2 ∧ σ a 12 = B 3 ∧ σ a 13 = B 4 ∧ σ a 14 = B 5 ∧ σ a 15 = B 6) ∧
  (∀ p, p < nP B → (stn B p = true → σ (a + 1) p = B (17 + p) ∧ σ (a + 2) p = B (27 + p) ∧ σ (a + 3) p = B (37 + p)) ∧ (stn B p = false → σ (a + 2) p = 0) ∧ σ (a + 4) p = cs B p (nK B)) ∧
  (∀ w, w < nK B → σ (a + 6) w = B (47 + w) ∧ σ (a + 7) w = B (51 + w)) ∧
  (∀ p, p < nP B → Nm (σ (a + 5) p) (D p)) ∧ (∀ w, w < nK B → Nm (σ (a + 8) w) (D (10 + w)))
/-! the cells of a wall -/
def wl (a : Nat) : Prop := a = 5 ∨ a = 21 ∨ a = 42 ∨ a = 68 ∨ a = 83 ∨ a = 98
section
variable {σ : Mem} {a j : Nat} {v i : Int}
theorem oW (h : wl a) : isO Sh 9 (a : Int) = true := by
  rcases h with rfl | rfl | rfl | rfl | rfl | rfl <;> rfl
theorem gW (h : wl a) : gf Sh σ 9 (a : Int) j = some (σ a j) := by rw [gf_at (oW h), Int.toNat_natCast]
theorem pW (h : wl a) : pf Sh σ 9 (a : Int) j v = some (upm σ a j v) := by rw [pf_at (oW h), Int.toNat_natCast]
theorem shW (h : wl a) : Sh[a + 1]? = some (20, 10) ∧ Sh[a + 2]? = some (20, 10) ∧ Sh[a + 3]? = some (20, 10) ∧ Sh[a + 4]? = some (20, 10) ∧ Sh[a + 5]? = some (21, 10) ∧ Sh[a + 6]? = some (20, 4) ∧ Sh[a + 7]? = some (23, 4) ∧ Sh[a + 8]? = some (21, 4) := by
  rcases h with rfl | rfl | rfl | rfl | rfl | rfl <;> exact ⟨rfl, rfl, rfl, rfl, rfl, rfl, rfl, rfl⟩
theorem rW (hR : Ref σ) (h : wl a) : σ a 2 = ((a + 1 : Nat) : Int) ∧ σ a 3 = ((a + 2 : Nat) : Int) ∧ σ a 4 = ((a + 3 : Nat) : Int) ∧ σ a 5 = ((a + 4 : Nat) : Int) ∧ σ a 6 = ((a + 5 : Nat) : Int) ∧ σ a 8 = ((a + 6 : Nat) : Int) ∧ σ a 9 = ((a + 7 : Nat) : Int) ∧ σ a 10 = ((a + 8 : Nat) : Int) := by
  rcases h with rfl | rfl | rfl | rfl | rfl | rfl <;> exact ⟨hR.at _ _ _ rfl, hR.at _ _ _ rfl, hR.at _ _ _ rfl, hR.at _ _ _ rfl, hR.at _ _ _ rfl, hR.at _ _ _ rfl, hR.at _ _ _ rfl, hR.at _ _ _ rfl⟩
theorem aW1 (h : wl a) (h0 : 0 ≤ i) (h1 : i < 10) : isA Sh 20 ((a + 1 : Nat) : Int) i = true := isA_at (shW h).1 h0 h1
theorem aW2 (h : wl a) (h0 : 0 ≤ i) (h1 : i < 10) : isA Sh 20 ((a + 2 : Nat) : Int) i = true := isA_at (shW h).2.1 h0 h1
theorem aW3 (h : wl a) (h0 : 0 ≤ i) (h1 : i < 10) : isA Sh 20 ((a + 3 : Nat) : Int) i = true := isA_at (shW h).2.2.1 h0 h1
theorem aW4 (h : wl a) (h0 : 0 ≤ i) (h1 : i < 10) : isA Sh 20 ((a + 4 : Nat) : Int) i = true := isA_at (shW h).2.2.2.1 h0 h1
theorem aW5 (h : wl a) (h0 : 0 ≤ i) (h1 : i < 10) : isA Sh 21 ((a + 5 : Nat) : Int) i = true := isA_at (shW h).2.2.2.2.1 h0 h1
theorem aW6 (h : wl a) (h0 : 0 ≤ i) (h1 : i < 4) : isA Sh 20 ((a + 6 : Nat) : Int) i = true := isA_at (shW h).2.2.2.2.2.1 h0 h1
theorem aW7 (h : wl a) (h0 : 0 ≤ i) (h1 : i < 4) : isA Sh 23 ((a + 7 : Nat) : Int) i = true := isA_at (shW h).2.2.2.2.2.2.1 h0 h1
theorem aW8 (h : wl a) (h0 : 0 ≤ i) (h1 : i < 4) : isA Sh 21 ((a + 8 : Nat) : Int) i = true := isA_at (shW h).2.2.2.2.2.2.2 h0 h1
theorem alW1 (h : wl a) (h0 : 0 ≤ i) (h1 : i < 10) : al Sh σ 20 ((a + 1 : Nat) : Int) i = some (σ (a + 1) i.toNat) := by rw [al_at (aW1 h h0 h1), Int.toNat_natCast]
theorem alW2 (h : wl a) (h0 : 0 ≤ i) (h1 : i < 10) : al Sh σ 20 ((a + 2 : Nat) : Int) i = some (σ (a + 2) i.toNat) := by rw [al_at (aW2 h h0 h1), Int.toNat_natCast]
theorem alW3 (h : wl a) (h0 : 0 ≤ i) (h1 : i < 10) : al Sh σ 20 ((a + 3 : Nat) : Int) i = some (σ (a + 3) i.toNat) := by rw [al_at (aW3 h h0 h1), Int.toNat_natCast]
theorem alW4 (h : wl a) (h0 : 0 ≤ i) (h1 : i < 10) : al Sh σ 20 ((a + 4 : Nat) : Int) i = some (σ (a + 4) i.toNat) := by rw [al_at (aW4 h h0 h1), Int.toNat_natCast]
theorem alW5 (h : wl a) (h0 : 0 ≤ i) (h1 : i < 10) : al Sh σ 21 ((a + 5 : Nat) : Int) i = some (σ (a + 5) i.toNat) := by rw [al_at (aW5 h h0 h1), Int.toNat_natCast]
theorem alW6 (h : wl a) (h0 : 0 ≤ i) (h1 : i < 4) : al Sh σ 20 ((a + 6 : Nat) : Int) i = some (σ (a + 6) i.toNat) := by rw [al_at (aW6 h h0 h1), Int.toNat_natCast]
theorem alW7 (h : wl a) (h0 : 0 ≤ i) (h1 : i < 4) : al Sh σ 23 ((a + 7 : Nat) : Int) i = some (σ (a + 7) i.toNat) := by rw [al_at (aW7 h h0 h1), Int.toNat_natCast]
theorem alW8 (h : wl a) (h0 : 0 ≤ i) (h1 : i < 4) : al Sh σ 21 ((a + 8 : Nat) : Int) i = some (σ (a + 8) i.toNat) := by rw [al_at (aW8 h h0 h1), Int.toNat_natCast]
theorem stW1 (h : wl a) (h0 : 0 ≤ i) (h1 : i < 10) : st_ Sh σ 20 ((a + 1 : Nat) : Int) i v = some (upm σ (a + 1) i.toNat v) := by rw [st_at (aW1 h h0 h1), Int.toNat_natCast]
theorem stW2 (h : wl a) (h0 : 0 ≤ i) (h1 : i < 10) : st_ Sh σ 20 ((a + 2 : Nat) : Int) i v = some (upm σ (a + 2) i.toNat v) := by rw [st_at (aW2 h h0 h1), Int.toNat_natCast]
theorem stW3 (h : wl a) (h0 : 0 ≤ i) (h1 : i < 10) : st_ Sh σ 20 ((a + 3 : Nat) : Int) i v = some (upm σ (a + 3) i.toNat v) := by rw [st_at (aW3 h h0 h1), Int.toNat_natCast]
theorem stW4 (h : wl a) (h0 : 0 ≤ i) (h1 : i < 10) : st_ Sh σ 20 ((a + 4 : Nat) : Int) i v = some (upm σ (a + 4) i.toNat v) := by rw [st_at (aW4 h h0 h1), Int.toNat_natCast]
theorem stW5 (h : wl a) (h0 : 0 ≤ i) (h1 : i < 10) : st_ Sh σ 21 ((a + 5 : Nat) : Int) i v = some (upm σ (a + 5) i.toNat v) := by rw [st_at (aW5 h h0 h1), Int.toNat_natCast]
theorem stW6 (h : wl a) (h0 : 0 ≤ i) (h1 : i < 4) : st_ Sh σ 20 ((a + 6 : Nat) : Int) i v = some (upm σ (a + 6) i.toNat v) := by rw [st_at (aW6 h h0 h1), Int.toNat_natCast]
theorem stW7 (h : wl a) (h0 : 0 ≤ i) (h1 : i < 4) : st_ Sh σ 23 ((a + 7 : Nat) : Int) i v = some (upm σ (a + 7) i.toNat v) := by rw [st_at (aW7 h h0 h1), Int.toNat_natCast]
theorem stW8 (h : wl a) (h0 : 0 ≤ i) (h1 : i < 4) : st_ Sh σ 21 ((a + 8 : Nat) : Int) i v = some (upm σ (a + 8) i.toNat v) := by rw [st_at (aW8 h h0 h1), Int.toNat_natCast]
theorem nrW (h : wl a) : isRf a 0 = false ∧ isRf a 1 = false ∧ isRf a 7 = false ∧ isRf a 11 = false ∧ isRf a 12 = false ∧ isRf a 13 = false ∧ isRf a 14 = false ∧ isRf a 15 = false := by
  rcases h with rfl | rfl | rfl | rfl | rfl | rfl <;> exact ⟨rfl, rfl, rfl, rfl, rfl, rfl, rfl, rfl⟩
theorem isRf_cell (h : (rfT.any fun e => e.1 == a) = false) : isRf a j = false := by
  cases e : isRf a j
  · rfl
  · unfold isRf at e
    rw [List.any_eq_true] at e
    obtain ⟨x, h1, h2⟩ := e
    have : (rfT.any fun e => e.1 == a) = true := List.any_eq_true.mpr ⟨x, h1, by simp at h2 ⊢; exact h2.1⟩
    rw [h] at this
    cases this
theorem nrWs (h : wl a) {k : Nat} (h0 : 1 ≤ k) (h1 : k ≤ 8) : isRf (a + k) j = false := by
  apply isRf_cell
  rcases (show k = 1 ∨ k = 2 ∨ k = 3 ∨ k = 4 ∨ k = 5 ∨ k = 6 ∨ k = 7 ∨ k = 8 by omega) with rfl | rfl | rfl | rfl | rfl | rfl | rfl | rfl <;> rcases h with rfl | rfl | rfl | rfl | rfl | rfl <;> rfl
end
theorem iabs_in {x : Int} (h : -2147483647 ≤ x) (h2 : x ≤ 2147483647) : iabs x = ab x := by
  unfold iabs ab
  split
  · rfl
  · rw [w32_in (by omega) (by omega)]; omega
theorem cs_le (B : Nat → Int) (p : Int) (k : Nat) : -3 * k ≤ cs B p k ∧ cs B p k ≤ 3 * k := by
  induction k with
  | zero => simp [cs]
  | succ k ih => unfold cs; split <;> (try split) <;> omega
theorem BV.nP_le {B : Nat → Int} (h : BV B) : nP B ≤ 10 ∧ (nP B : Int) = B 0 := by
  obtain ⟨h, _⟩ := h
  unfold nP
  omega
theorem BV.nK_le {B : Nat → Int} (h : BV B) : nK B ≤ 4 ∧ (nK B : Int) = B 1 := by
  obtain ⟨_, h, _⟩ := h
  unfold nK
  omega
/-! what the court's wall answers -/
section
variable {σ : Mem} {a : Nat} {B D : Nat → Int}
theorem x_isPlace {v : Int} (hW : wl a) (h : WR σ a B D) : f_X9_isPlace a v σ = some (if 0 ≤ v ∧ v < B 0 then 1 else 0) := by
  unfold f_X9_isPlace f_X9_isPlace_b0
  simp only [oW hW, gW hW, if_true, lcmp_lt, lcmp_ge, obs, h.1.1]
  grind
theorem x_isStone {v : Int} (hW : wl a) (h : WR σ a B D) (hB : BV B) : f_X9_isStone a v σ = some (if 0 ≤ v ∧ v < B 0 ∧ stn B v.toNat = true then 1 else 0) := by
  unfold f_X9_isStone f_X9_isStone_b0
  simp only [oW hW, gW hW, if_true, lcmp_lt, lcmp_ge, obs, h.1.1, h.1.2.1]
  by_cases h0 : 0 ≤ v ∧ v < B 0
  · obtain ⟨k, rfl⟩ := nat_of h0.1
    have hn := hB.nP_le
    rw [if_neg (by omega), if_neg (by omega), w32_in (by omega) (by omega), bit_at (by omega) (by have := @setOf_lt' (stn B) (nP B) hn.1; unfold aS; omega)]
    unfold aS
    rw [setOf_bit, Int.toNat_natCast]
    have : k < nP B := by omega
    simp only [this, decide_true, Bool.true_and, h0, true_and]
    split <;> simp
  · grind
theorem x_isStone' {p : Nat} (hW : wl a) (h : WR σ a B D) (hB : BV B) (hp : p < nP B) : f_X9_isStone a p σ = some (if stn B p = true then 1 else 0) := by
  rw [x_isStone hW h hB]
  have hn := hB.nP_le
  have : 0 ≤ (p : Int) ∧ (p : Int) < B 0 := by omega
  simp only [this, true_and, Int.toNat_natCast]
theorem x_isCrow {v : Int} (hW : wl a) (h : WR σ a B D) : f_X9_isCrow a v σ = some (if 0 ≤ v ∧ v < B 1 then 1 else 0) := by
  unfold f_X9_isCrow f_X9_isCrow_b0
  simp only [oW hW, gW hW, if_true, obs, h.1.2.2.1]
  grind
theorem aS_lt (hB : BV B) : aS B < 1024 := setOf_lt' hB.nP_le.1
theorem tS_lt {g q : Int} (hB : BV B) : tS B g q < 1024 := setOf_lt' hB.nP_le.1
theorem x_stoneCount (hW : wl a) (h : WR σ a B D) (hB : BV B) : f_X9_stoneCount a σ = some ((sz (aS B) : Nat) : Int) := by
  unfold f_X9_stoneCount f_X9_stoneCount_b0
  simp only [oW hW, gW hW, if_true, obs, h.1.2.1, s_bitCount (aS_lt hB)]
theorem x_mercyFor {p : Nat} {q y : Int} (hW : wl a) (hR : Ref σ) (h : WR σ a B D) (hB : BV B) (hp : p < nP B) (hs : stn B p = true) (hq : 0 ≤ q ∧ q < 10) (hy : 0 ≤ y ∧ y ≤ 9) : f_X9_mercyFor a p q y σ = some (mc (agd B y) p q) := by
  have hn := hB.nP_le
  have hk := hB.nK_le
  obtain ⟨r1, r2, r3, r4, _⟩ := rW hR hW
  obtain ⟨⟨g1, _⟩, g2, _⟩ := h
  obtain ⟨g3, g4, g5⟩ := g2 p hp
  obtain ⟨_, _, _, _, b1, b2⟩ := hB
  obtain ⟨c1, c2, c3, c4⟩ := b1 p (by omega)
  have c5 := cs_le B p (nK B)
  have hs' : B (7 + p) = 1 := by unfold stn at hs; simpa using hs
  unfold f_X9_mercyFor f_X9_mercyFor_b0
  simp only [oW hW, gW hW, if_true, obs, r1, r2, r4]
  rw [alW1 hW (by omega) (by omega), alW2 hW (by omega) (by omega), alW4 hW (by omega) (by omega)]
  simp only [obs, Int.toNat_natCast, (g3 hs).1, (g3 hs).2.1, g5, g1]
  rw [w32_in (z := (p : Int) - q) (by omega) (by omega), iabs_in (by omega) (by omega)]
  have e1 : agd B y (27 + p) = mi 9 (B (27 + p) + y) := by
    unfold agd
    rw [if_pos (by omega), show 27 + p - 20 = 7 + p by omega, hs', Int.mul_one]
  have e2 : cs (agd B y) p (nK (agd B y)) = cs B p (nK B) := by
    have : nK (agd B y) = nK B := rfl
    rw [this]
    have : ∀ k, k ≤ 4 → cs (agd B y) p k = cs B p k := by
      intro k hk
      induction k with
      | zero => rfl
      | succ k ih =>
        unfold cs
        rw [ih (by omega)]
        have : agd B y (47 + k) = B (47 + k) ∧ agd B y (51 + k) = B (51 + k) := by unfold agd; constructor <;> rw [if_neg (by omega)]
        rw [this.1, this.2]
    exact this _ hk.1
  have e3 : agd B y (17 + p) = B (17 + p) ∧ agd B y 0 = B 0 := by unfold agd; constructor <;> rw [if_neg (by omega)]
  unfold mc ds
  rw [e1, e2, e3.1, e3.2]
  have h1 : 0 ≤ ab ((p : Int) - q) ∧ ab ((p : Int) - q) < 10 := by unfold ab; split <;> omega
  rw [w32_in (z := B (27 + p) + y) (by omega) (by omega), w32_in (z := B 0 - ab ((p : Int) - q)) (by omega) (by omega)]
  have e4 : ∀ x y, imin x y = mi x y := fun x y => rfl
  rw [e4, e4]
  have h2 : 0 ≤ mi 9 (B (27 + p) + y) ∧ mi 9 (B (27 + p) + y) ≤ 9 := by unfold mi; split <;> omega
  have h3 : -10 ≤ mi (ab ((p : Int) - q)) (B 0 - ab ((p : Int) - q)) ∧ mi (ab ((p : Int) - q)) (B 0 - ab ((p : Int) - q)) ≤ 10 := by unfold mi; split <;> omega
  simp only [w32_al]
  rw [w32_in (by omega) (by omega)]
theorem stn_agd {y : Int} {p : Nat} (hp : p < 10) : stn (agd B y) p = stn B p := by
  unfold stn agd
  rw [if_neg (by omega)]
theorem x_turningFrom {g q y : Int} (hW : wl a) (hR : Ref σ) (h : WR σ a B D) (hB : BV B) (hq : 0 ≤ q ∧ q < 10) (hy : 0 ≤ y ∧ y ≤ 9) : f_X9_turningFrom a g q y σ = some ((tS (agd B y) g q : Nat) : Int) := by
  have hn := hB.nP_le
  unfold f_X9_turningFrom f_X9_turningFrom_b0
  rw [if_pos (oW hW)]
  show f_X9_turningFrom_h6 FU a g q y ((setOf (tB (agd B y) g q) 0 : Nat) : Int) ((0 : Nat) : Int) σ = _
  refine up_all (Q := fun n i => f_X9_turningFrom_h6 n a g q y ((setOf (tB (agd B y) g q) i : Nat) : Int) (i : Int) σ = some ((tS (agd B y) g q : Nat) : Int)) (nP B) (fun n => ?_) (fun n i hi ih => ?_) (by unfold FU; omega)
  · rw [hs_X9_turningFrom_h6]
    unfold f_X9_turningFrom_b6
    simp only [gW hW, obs, h.1.1]
    rw [if_pos (by omega)]
    rfl
  · rw [hs_X9_turningFrom_h6]
    unfold f_X9_turningFrom_b6 f_X9_turningFrom_b46
    simp only [gW hW, obs, h.1.1, x_isStone' hW h hB hi]
    rw [if_neg (by omega), w32_in (by omega) (by omega)]
    by_cases hs : stn B i = true
    · simp only [hs, if_true, x_mercyFor hW hR h hB hi hs hq hy, obs]
      rw [if_neg (by omega)]
      by_cases hg : g ≤ mc (agd B y) i q
      · rw [if_pos hg]
        rw [nor_set] at ih
        · exact ih
        · unfold tB; simp; intro; omega
      · rw [if_neg hg, ior_set (by omega)]
        · exact ih
        · unfold tB; rw [stn_agd (by omega), hs]; simp; omega
    · simp only [hs, if_false, if_true, Bool.false_eq_true]
      rw [nor_set] at ih
      · exact ih
      · unfold tB; rw [stn_agd (by omega)]; simp [hs]
end
