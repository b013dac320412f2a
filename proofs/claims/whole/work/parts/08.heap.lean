/-! ===== cells ===== -/
section
variable {ad ad' : Nat → Nat} {z : Ats} {cA : Nat → ClassId} {σ σ' : Mem} {sh : Shp}
theorem wsO_at {a : Nat} {kn : Nat × Nat} (h : sh[a]? = some kn) : (wsO ad z cA σ sh)[a]? = some (ad a, ent ad z cA σ a kn) := by
  simp [wsO, h]
theorem wsO_set {a : Nat} {kn : Nat × Nat} (h : sh[a]? = some kn) (he : ∀ b, b ≠ a → σ' b = σ b) : (wsO ad z cA σ sh).set a (ad a, ent ad z cA σ' a kn) = wsO ad z cA σ' sh := by
  apply List.ext_getElem?
  intro i
  by_cases hi : i = a
  · subst hi
    have hlt : i < sh.length := (List.getElem?_eq_some_iff.mp h).1
    rw [wsO_at h, List.getElem?_set_self (by simp [wsO]; exact hlt)]
  · rw [List.getElem?_set_ne (fun q => hi q.symm)]
    cases hs : sh[i]? with
    | none => simp [wsO, hs]
    | some q =>
      rw [wsO_at hs, wsO_at hs]
      unfold ent
      rw [he i hi]
theorem cv_agree {n : Nat} {v : TV} (hv : wfv n v) (h : ∀ a, a < n → ad' a = ad a) : cv ad' z v = cv ad z v := by
  obtain ⟨t, x⟩ := v
  unfold cv
  split <;> try rfl
  next q =>
    dsimp only at q
    subst q
    by_cases h0 : x < 0
    · simp [h0]
    · have h1 : x < n := hv.a
      simp only [h0, if_false]
      rw [h x.toNat (by omega)]
theorem map_agree {n : Nat} {l : List TV} (hv : wfl n l) (h : ∀ a, a < n → ad' a = ad a) : l.map (cv ad' z) = l.map (cv ad z) :=
  List.map_congr_left fun v hm => cv_agree (hv v hm) h
theorem LH.agree {n : Nat} {lsA : Array Slot} {nL : Nat} {ls : List TV} (hv : wfl n ls) (h : ∀ a, a < n → ad' a = ad a) (g : LH ad z lsA nL ls) : LH ad' z lsA nL ls :=
  ⟨g.1, g.2.1, g.2.2.1, fun i v hi h9 => by rw [cv_agree (hv v (List.mem_of_getElem? hi)) h]; exact g.2.2.2 i v hi h9⟩
theorem ktag_obj {k j : Nat} (h : k < 20) : ktag k j = ftag k j := by simp [ktag, h]
theorem ent_agree {a : Nat} {kn : Nat × Nat} (hm : wfm sh σ) (ha : sh[a]? = some kn) (h : ∀ b, b < sh.length → ad' b = ad b) : ent ad' z cA σ a kn = ent ad z cA σ a kn := by
  obtain ⟨k, n⟩ := kn
  unfold ent
  dsimp only
  split
  · next hk =>
    congr 2
    apply List.map_congr_left
    intro j _
    refine cv_agree (n := sh.length) ?_ h
    rw [← ktag_obj hk]
    exact (hm a k n ha j).1
  · split
    · rfl
    · split
      · rfl
      · next h1 h2 h3 =>
        congr 7
        funext j
        have hw := (hm a k n ha j).1
        have ht : ktag k j = 2 := by simp [ktag, h1, h2, h3]
        rw [ht] at hw
        have h0 := hw.a
        by_cases q : σ a j < 0
        · simp [q]
        · simp only [q, if_false]
          rw [h _ (by omega)]
theorem wsO_agree (hm : wfm sh σ) (h : ∀ b, b < sh.length → ad' b = ad b) : wsO ad' z cA σ sh = wsO ad z cA σ sh := by
  apply List.ext_getElem?
  intro i
  cases hs : sh[i]? with
  | none => simp [wsO, hs]
  | some q => rw [wsO_at hs, wsO_at hs, ent_agree hm hs h, h i (List.getElem?_eq_some_iff.mp hs).1]
theorem upm_ne {a b j : Nat} {v : Int} (h : b ≠ a) : upm σ a j v b = σ b := by
  funext i
  simp [upm, h]
theorem upm_at {a j : Nat} {v : Int} (i : Nat) : upm σ a j v a i = if i = j then v else σ a i := by simp [upm]
theorem wfm_upm {a j : Nat} {v : Int} {k n : Nat} (hm : wfm sh σ) (ha : sh[a]? = some (k, n)) (hv : wfv sh.length (ktag k j, v)) (hb : k = 22 → -128 ≤ v ∧ v ≤ 127) (hz : k = 23 → v = 0 ∨ v = 1) : wfm sh (upm σ a j v) := by
  intro b k' n' hb' i
  by_cases q : b = a
  · subst q
    rw [ha] at hb'
    cases hb'
    rw [upm_at]
    by_cases r : i = j
    · subst r
      rw [if_pos rfl]
      exact ⟨hv, hb, hz⟩
    · rw [if_neg r]
      exact hm b k n ha i
  · rw [upm_ne q]
    exact hm b k' n' hb' i
theorem ent_o {a k n : Nat} (hk : k < 20) : ent ad z cA σ a (k, n) = .inr (k, (List.range n).map fun j => cv ad z (ftag k j, σ a j)) := by simp [ent, hk]
theorem ent_i {a k n : Nat} (hk : k = 20 ∨ k = 22 ∨ k = 23) : ent ad z cA σ a (k, n) = .inl (cA k, n, .inl fun j => Int32.ofInt (σ a j)) := by
  rcases hk with rfl | rfl | rfl <;> simp [ent]
theorem ent_l {a n : Nat} : ent ad z cA σ a (21, n) = .inl (cA 21, n, .inr (.inl fun j => Int64.ofInt (σ a j))) := by simp [ent]
theorem ent_q {a k n : Nat} (hk : 30 ≤ k) : ent ad z cA σ a (k, n) = .inl (cA k, n, .inr (.inr (.inr (.inr fun j => if σ a j < 0 then none else some (ad (σ a j).toNat))))) := by
  have h1 : ¬ k < 20 := by omega
  have h2 : ¬ k = 21 := by omega
  have h3 : ¬ k < 30 := by omega
  simp [ent, h1, h2, h3]
theorem fs_set {a k n j : Nat} {v : Int} (hj : j < n) : ((List.range n).map fun i => cv ad z (ftag k i, σ a i)).set j (cv ad z (ftag k j, v)) = (List.range n).map fun i => cv ad z (ftag k i, upm σ a j v a i) := by
  apply List.ext_getElem?
  intro i
  by_cases hi : i = j
  · subst hi
    rw [List.getElem?_set_self (by simpa using hj)]
    simp [hj, upm_at]
  · rw [List.getElem?_set_ne (fun q => hi q.symm)]
    by_cases hn : i < n
    · simp [hn, upm_at, hi]
    · simp [hn]
theorem cv_2 {x : Int} (h : 0 ≤ x) : cv ad z (2, x) = .ref (ad x.toNat) := by
  have : ¬ x < 0 := by omega
  simp [cv, this]
end
def nf (k : Nat) : Nat := (ftX.getD k []).length
/-- an object of a class -/
def okO (sh : Shp) (k : Nat) (a : Int) : Prop := 0 ≤ a ∧ sh[a.toNat]? = some (k, nf k)
def okA (sh : Shp) (k : Nat) (a i : Int) : Prop := 0 ≤ a ∧ ∃ n, sh[a.toNat]? = some (k, n) ∧ 0 ≤ i ∧ i < n

def isO (sh : Shp) (k : Nat) (a : Int) : Bool := decide (0 ≤ a) && (sh[a.toNat]? == some (k, nf k))
def isA (sh : Shp) (k : Nat) (a i : Int) : Bool := decide (0 ≤ a) && decide (0 ≤ i) && (match sh[a.toNat]? with
  | some kn => kn.1 == k && decide (i < kn.2)
  | none => false)
theorem isO_iff {sh : Shp} {k : Nat} {a : Int} : isO sh k a = true ↔ okO sh k a := by simp [isO, okO]
theorem isA_iff {sh : Shp} {k : Nat} {a i : Int} : isA sh k a i = true ↔ okA sh k a i := by
  unfold isA okA
  cases h : sh[a.toNat]? with
  | none => simp
  | some kn =>
    obtain ⟨k', n'⟩ := kn
    simp only [Bool.and_eq_true, decide_eq_true_eq, beq_iff_eq, Option.some.injEq, Prod.mk.injEq]
    constructor
    · rintro ⟨⟨h1, h2⟩, h3, h4⟩
      exact ⟨h1, n', ⟨h3, rfl⟩, h2, h4⟩
    · rintro ⟨h1, n, ⟨h3, rfl⟩, h2, h4⟩
      exact ⟨⟨h1, h2⟩, h3, h4⟩
/-- a field read, written; a place of an array read, written; a row copied -/
def gf (sh : Shp) (σ : Mem) (k : Nat) (a : Int) (j : Nat) : Option Int := if isO sh k a = true then some (σ a.toNat j) else none
def pf (sh : Shp) (σ : Mem) (k : Nat) (a : Int) (j : Nat) (v : Int) : Option Mem := if isO sh k a = true then some (upm σ a.toNat j v) else none
def al (sh : Shp) (σ : Mem) (k : Nat) (a i : Int) : Option Int := if isA sh k a i = true then some (σ a.toNat i.toNat) else none
def st_ (sh : Shp) (σ : Mem) (k : Nat) (a i v : Int) : Option Mem := if isA sh k a i = true then some (upm σ a.toNat i.toNat v) else none
def ln (sh : Shp) (k : Nat) (a : Int) : Option Int := match sh[a.toNat]? with
  | some kn => if 0 ≤ a ∧ kn.1 = k ∧ (kn.2 : Int) ≤ 2147483647 then some (kn.2 : Int) else none
  | none => none
def cpm (σ : Mem) (a0 i a1 j n : Nat) : Mem := fun b x => if b = a1 ∧ j ≤ x ∧ x < j + n then σ a0 (i + (x - j)) else σ b x
def isR (sh : Shp) (k : Nat) (a i n : Int) : Bool := decide (0 ≤ a) && decide (0 ≤ i) && (match sh[a.toNat]? with
  | some kn => kn.1 == k && decide (i + n ≤ kn.2)
  | none => false)
def cp (sh : Shp) (σ : Mem) (k : Nat) (a0 i a1 j n : Int) : Option Mem := if 0 ≤ n ∧ isR sh k a0 i n = true ∧ isR sh k a1 j n = true then some (cpm σ a0.toNat i.toNat a1.toNat j.toNat n.toNat) else none
/-- a number that is 0 or 1 -/
def bz (x : Int) : Option Int := if x = 0 ∨ x = 1 then some x else none
/-- no division by 0 -/
def nz (x : Int) : Option Int := if x = 0 then none else some x
