/-! ===== stand, fall, least, lived; years; freeIn ===== -/
def setc (σ : Mem) (a : Nat) (f : Nat → Int) : Mem := fun b => if b = a then f else σ b
def up1 (B : Nat → Int) (i : Nat) (v : Int) : Nat → Int := fun j => if j = i then v else B j
theorem setc_same {σ : Mem} {a : Nat} {f : Nat → Int} : setc σ a f a = f := by simp [setc]
theorem setc_ne {σ : Mem} {a b : Nat} {f : Nat → Int} (h : b ≠ a) : setc σ a f b = σ b := by simp [setc, h]
theorem setc_upm {σ : Mem} {a i : Nat} {f : Nat → Int} {v : Int} : upm (setc σ a f) a i v = setc σ a (up1 f i v) := by
  funext b j
  by_cases h : b = a
  · subst h; simp [upm, setc, up1]
  · simp [upm, setc, h]
theorem upm_setc {σ : Mem} {a i : Nat} {v : Int} : upm σ a i v = setc σ a (up1 (σ a) i v) := by
  funext b j
  by_cases h : b = a
  · subst h; simp [upm, setc, up1]
  · simp [upm, setc, h]
theorem setc_id {σ : Mem} {a : Nat} : setc σ a (σ a) = σ := by
  funext b j
  by_cases h : b = a
  · subst h; simp [setc]
  · simp [setc, h]
theorem setc_setc {σ : Mem} {a : Nat} {f g : Nat → Int} : setc (setc σ a f) a g = setc σ a g := by
  funext b j
  by_cases h : b = a
  · subst h; simp [setc]
  · simp [setc, h]
theorem Ref.setc {σ : Mem} {a : Nat} {f : Nat → Int} (h : Ref σ) (hn : (rfT.any fun e => e.1 == a) = false) : Ref (setc σ a f) := by
  refine h.cell fun e he => ?_
  have : ¬ e.1 = a := fun q => by
    have h2 : (rfT.any fun e => e.1 == a) = true := List.any_eq_true.mpr ⟨e, he, by simp [q]⟩
    rw [hn] at h2
    cases h2
  rw [setc_ne this]
theorem MH.setc {σ : Mem} {B B' : Nat → Int} (h : MH σ B) (hB : BV B') : MH (setc σ 118 B') B' := ⟨h.1.setc rfl, setc_same, hB⟩
theorem Fr.setc {G : List Nat} {σ : Mem} {B' : Nat → Int} (h : ∀ j, ¬ B' j = σ 118 j → gid 118 j ∈ G) : Fr G σ (setc σ 118 B') := by
  intro b j hb
  by_cases q : b = 118
  · subst q
    rw [setc_same]
    by_cases r : B' j = σ 118 j
    · exact r
    · exact absurd (h j r) hb
  · rw [setc_ne q]
section
variable {σ : Mem} {B D : Nat → Int}
theorem setOf_0 {P : Nat → Bool} {n : Nat} : setOf P n = 0 ↔ ∀ k, k < n → P k = false := by
  constructor
  · intro h k hk
    have := setOf_bit P n k
    rw [h] at this
    simpa [hk] using this.symm
  · intro h
    induction n with
    | zero => rfl
    | succ n ih => rw [nor_set (h n (by omega)), ih (fun k hk => h k (by omega))]
theorem bst_1 {g sg : Int} {n : Nat} : ((bst B g sg n).1 = -1 ∧ ∀ k, k < n → stn B k = false) ∨ (0 ≤ (bst B g sg n).1 ∧ (bst B g sg n).1 < n ∧ ∃ k, k < n ∧ stn B k = true) := by
  induction n with
  | zero => exact .inl ⟨rfl, fun k hk => by omega⟩
  | succ n ih =>
    rw [bst_s]
    by_cases q : stn B n = true ∧ ((bst B g sg n).1 = -1 ∨ sg * tc B g n < (bst B g sg n).2)
    · rw [if_pos q]
      exact .inr ⟨by simp, by show (n : Int) < ((n + 1 : Nat) : Int); omega, n, by omega, q.1⟩
    · rw [if_neg q]
      rcases ih with ⟨h1, h2⟩ | ⟨h1, h2, k, h3, h4⟩
      · refine .inl ⟨h1, fun k hk => ?_⟩
        by_cases e : k = n
        · subst e
          cases r : stn B k
          · rfl
          · exact absurd ⟨r, .inl h1⟩ q
        · exact h2 k (by omega)
      · exact .inr ⟨h1, by omega, k, by omega, h4⟩
def yGs (B : Nat → Int) (g : Int) (c : Prop) [Decidable c] : Int := if ¬ (0 ≤ g ∧ g ≤ 99) ∨ ¬ c then 5 else if aS B = 0 then 8 else 0
theorem x_guiltOfStonesWhy {g c : Int} (h : XH σ B D) : f_X11_guiltOfStonesWhy 0 g c σ = some (yGs B g (¬ c = 0)) := by
  unfold f_X11_guiltOfStonesWhy f_X11_guiltOfStonesWhy_b0 yGs
  simp only [oX, if_true, gX, obs, h.1.at 0 3 5 rfl, s_isGuilt, w_g, h.2.1.1.2.1]
  grind
theorem yGs_cg {g : Int} {c d : Prop} [Decidable c] [Decidable d] (h : c ↔ d) : yGs B g c = yGs B g d := by unfold yGs; grind
theorem x_stand {g : Int} (h : XH σ B D) : XO (f_X11_stand 0 g) σ (if yGs B g True = 0 then (bst B g 1 (nP B)).1 else -1) (yGs B g True) := by
  apply XO.mk
  unfold f_X11_stand f_X11_stand_b0
  simp only [oX, if_true, obs, x_guiltOfStonesWhy h, yGs_cg (B := B) (g := g) (show (¬ (1 : Int) = 0) ↔ True by decide)]
  by_cases hy : yGs B g True = 0
  · simp only [hy, s_ref0, obs, if_true, gX, h.st.1.at 0 3 5 rfl, w_bestPlace h.st (.inl rfl)]
  · simp only [s_refn hy, obs, hy, if_false, Int.one_ne_zero]
theorem x_fall {g : Int} (h : XH σ B D) : XO (f_X11_fall 0 g) σ (if yGs B g True = 0 then (bst B g (-1) (nP B)).1 else -1) (yGs B g True) := by
  apply XO.mk
  unfold f_X11_fall f_X11_fall_b0
  simp only [oX, if_true, obs, x_guiltOfStonesWhy h, yGs_cg (B := B) (g := g) (show (¬ (1 : Int) = 0) ↔ True by decide)]
  by_cases hy : yGs B g True = 0
  · simp only [hy, s_ref0, obs, if_true, gX, h.st.1.at 0 3 5 rfl, w_bestPlace h.st (.inr rfl)]
  · simp only [s_refn hy, obs, hy, if_false, Int.one_ne_zero]
theorem m_placeBy_h {g sg m : Int} (h : MH σ B) (hs : sg = 1 ∧ m = 0 ∨ sg = -1 ∧ m = 1) : f_X12_placeBy_h36 FU 113 g m (-1) 0 0 σ = some (if 0 ≤ (bst B g sg (nP B)).1 then ((bst B g sg (nP B)).1, σ) else (-1, upm σ 113 0 8)) := by
  have hn := h.2.2.nP_le
  have hs2 : sg = 1 ∨ sg = -1 := by omega
  have := up_all (Q := fun n i => f_X12_placeBy_h36 n 113 g m (bst B g sg i).1 (sg * (bst B g sg i).2) (i : Int) σ = some (if 0 ≤ (bst B g sg (nP B)).1 then ((bst B g sg (nP B)).1, σ) else (-1, upm σ 113 0 8))) (nP B) (fun n => ?_) (fun n i hi ih => ?_) (by unfold FU; omega)
  · rw [show (bst B g sg 0) = (-1, 0) from rfl, Int.mul_zero] at this
    exact this
  · rw [hs_X12_placeBy_h36]
    unfold f_X12_placeBy_b36
    simp only [gM, obs, h.1.at 113 20 118 rfl, s_refuse]
    rw [alC (by omega) (by omega)]
    simp only [obs, h.2.1, Int.reduceToNat]
    rw [if_pos (by omega)]
    split <;> rfl
  · rw [hs_X12_placeBy_h36]
    unfold f_X12_placeBy_b36 f_X12_placeBy_b96 f_X12_placeBy_b103
    simp only [gM, obs, h.1.at 113 20 118 rfl, m_turnedFrom h.1 h.2.1 h.2.2 (q := (i : Int)) (g := g) (by omega), s_sizeOf (tS_lt h.2.2), m_isStoneAt h.1 h.2.1 (show i < 1000 by omega)]
    rw [alC (by omega) (by omega)]
    simp only [obs, h.2.1, Int.reduceToNat]
    rw [if_neg (by omega), w32_in (z := (i : Int) + 1) (by omega) (by omega)]
    rw [bst_s] at ih
    unfold tc at ih
    have hb := @bst_1 B g sg i
    have e0 : ((i + 1 : Nat) : Int) = (i : Int) + 1 := by omega
    rw [e0] at ih
    by_cases q : stn B i = true
    · simp only [q, if_true, true_and, Int.one_ne_zero, if_false] at ih ⊢
      by_cases q1 : (bst B g sg i).1 = -1
      · simp only [q1, true_or, if_true] at ih ⊢
        rw [if_pos (by omega)]
        rcases hs with ⟨rfl, rfl⟩ | ⟨rfl, rfl⟩
        · simpa using ih
        · simpa using ih
      · have h0 : ¬ (bst B g sg i).1 < 0 := by omega
        simp only [q1, false_or, h0, if_false] at ih ⊢
        by_cases q2 : sg * ((sz (tS B g i) : Nat) : Int) < (bst B g sg i).2
        · rw [if_pos q2] at ih
          rcases hs with ⟨rfl, rfl⟩ | ⟨rfl, rfl⟩
          · rw [if_pos rfl, if_pos (by omega)]
            simpa using ih
          · rw [if_neg (by decide), if_pos (by omega)]
            simpa using ih
        · rw [if_neg q2] at ih
          rcases hs with ⟨rfl, rfl⟩ | ⟨rfl, rfl⟩
          · rw [if_pos rfl, if_neg (by omega)]
            exact ih
          · rw [if_neg (by decide), if_neg (by omega)]
            exact ih
    · simp only [q, if_false, if_true, false_and, Bool.false_eq_true] at ih ⊢
      exact ih
theorem m_placeBy {g sg m : Int} (h : MH σ B) (hs : sg = 1 ∧ m = 0 ∨ sg = -1 ∧ m = 1) : f_X12_placeBy 113 g m σ = some (if yGs B g True = 0 then (bst B g sg (nP B)).1 else -1, if yGs B g True = 0 then rf2 σ else upm (rf2 σ) 113 0 (yGs B g True)) := by
  unfold f_X12_placeBy f_X12_placeBy_b0
  simp only [oM, if_true, pM, obs, rf2_e, s_isIn, s_refuse, m_placeBy_h h.rf hs]
  have h1 := @bst_1 B g sg (nP B)
  have h2 := @setOf_0 (stn B) (nP B)
  unfold yGs aS
  by_cases hg : 0 ≤ g ∧ g ≤ 99
  · simp only [hg, and_self, if_true, Int.one_ne_zero, if_false, not_true, or_self]
    rcases h1 with ⟨q1, q2⟩ | ⟨q1, q2, k, q3, q4⟩
    · rw [h2.mpr q2, q1]
      rfl
    · have : ¬ setOf (stn B) (nP B) = 0 := fun e => by have := h2.mp e k q3; rw [q4] at this; cases this
      simp only [this, q1, if_true, if_false]
  · simp only [hg, if_true, if_false, not_false_eq_true, true_or]
    rfl
theorem ok_stand {g : Int} (h : Rel σ) : Ok (f_X11_stand 0 g) (f_X12_stand 113 g) σ := Ok.mk h (x_stand h.xh) fun τ h1 _ => by
  apply MO.mkr
  unfold f_X12_stand f_X12_stand_b0
  simp only [oM, if_true, m_placeBy h1 (.inl ⟨rfl, rfl⟩), obs]
theorem ok_fall {g : Int} (h : Rel σ) : Ok (f_X11_fall 0 g) (f_X12_fall 113 g) σ := Ok.mk h (x_fall h.xh) fun τ h1 _ => by
  apply MO.mkr
  unfold f_X12_fall f_X12_fall_b0
  simp only [oM, if_true, m_placeBy h1 (.inr ⟨rfl, rfl⟩), obs]
/-! least -/
def vLst (B : Nat → Int) (p : Int) : Int := ff (fun g => cdm B g p.toNat) 100 0
def yLst (B : Nat → Int) (p : Int) : Int := if ¬ isP B p then 2 else if vLst B p = -1 then 8 else 0
theorem x_least {p : Int} (h : XH σ B D) : XO (f_X11_least 0 p) σ (if yLst B p = 0 then vLst B p else -1) (yLst B p) := by
  apply XO.mk
  unfold f_X11_least f_X11_least_b0 f_X11_least_b36 f_X11_least_b37
  simp only [oX, if_true, obs, gX, h.1.at 0 3 5 rfl, w_isPlace h, s_refused]
  unfold yLst
  by_cases hp : isP B p
  · obtain ⟨k, rfl, hk, h10⟩ := isP_nat hp h.2.2
    rw [w_leastGuilt h hk]
    unfold isP at hp
    simp only [obs, hp, and_self, isP, if_true, Int.one_ne_zero, if_false, not_true, show ff (fun g => cdm B g k) 100 0 = vLst B k by unfold vLst; rw [Int.toNat_natCast]]
    grind
  · simp only [hp, not_false_eq_true, if_true]
    unfold isP at hp
    simp
theorem m_least_h {p : Nat} (h : MH σ B) (hp : p < 10) : f_X12_least_h27 FU 113 p 0 σ = some (if vLst B p = -1 then (-1, upm σ 113 0 8) else (vLst B p, σ)) := by
  unfold vLst
  rw [Int.toNat_natCast]
  refine up_all (Q := fun n i => f_X12_least_h27 n 113 p (i : Int) σ = some (if ff (fun g => cdm B g p) 100 i = -1 then (-1, upm σ 113 0 8) else (ff (fun g => cdm B g p) 100 i, σ))) 100 (fun n => ?_) (fun n i hi ih => ?_) (by unfold FU; omega)
  · rw [hs_X12_least_h27]
    unfold f_X12_least_b27
    rw [if_pos (by omega), ff_N, s_refuse]
    rfl
  · rw [hs_X12_least_h27]
    unfold f_X12_least_b27
    rw [if_neg (by omega), m_isCondemned h.1 h.2.1 h.2.2 hp, ff_s hi, w32_in (by omega) (by omega)]
    simp only [obs]
    by_cases q : cdm B i p = true
    · simp only [q, if_true, Int.one_ne_zero, if_false]
      rw [if_neg (by omega)]
    · simp only [q, if_true, if_false, Bool.false_eq_true]
      exact ih
theorem m_least {p : Int} (h : MH σ B) : MO (f_X12_least 113 p) σ (if yLst B p = 0 then vLst B p else -1) (yLst B p) := by
  apply MO.mkr
  unfold f_X12_least f_X12_least_b0
  simp only [oM, if_true, pM, obs, rf2_e, s_refuse, m_isPlaceAt h.rf.1 h.rf.2.1 h.rf.2.2]
  unfold yLst
  by_cases hp : isP B p
  · obtain ⟨k, rfl, hk, h10⟩ := isP_nat hp h.2.2
    rw [m_least_h h.rf h10]
    unfold isP at hp
    simp only [hp, and_self, isP, if_true, Int.one_ne_zero, if_false, not_true]
    grind
  · simp only [hp, not_false_eq_true, if_true]
    unfold isP at hp
    simp
theorem ok_least {p : Int} (h : Rel σ) : Ok (f_X11_least 0 p) (f_X12_least 113 p) σ := Ok.mk h (x_least h.xh) fun _ h1 _ => m_least h1
/-! lived -/
theorem aLv {i : Int} (h0 : 0 ≤ i) (h1 : i < 5) : al Sh σ 20 127 i = some (σ 127 i.toNat) := by
  have : isA Sh 20 127 i = true := isA_at (a := 127) rfl h0 h1
  rw [al_at this]
  rfl
def yLv (σ : Mem) (v : Int) : Int := if ¬ (0 ≤ v ∧ v ≤ 4) then 5 else if σ 113 36 = 0 then 8 else 0
theorem x_lived {v : Int} (h : Rel σ) : XO (f_X11_lived 0 v) σ (if yLv σ v = 0 then σ 127 v.toNat else -1) (yLv σ v) := by
  apply XO.mk
  obtain ⟨⟨k1, k2⟩, k3⟩ := h.2.2.2.2.2.2.2.2.2.1
  have e0 : 0 ≤ v → v ≤ 4 → ¬ σ 113 36 = 0 → f_X11_lived_b26 0 v 0 σ = some (σ 127 v.toNat, upm σ 0 19 0) := by
    intro h0 h1 h2
    have k5 := k3 (by omega)
    have k4 := k5.1
    have f0 := k4 0 (by omega)
    have f1 := k4 1 (by omega)
    have f2 := k4 2 (by omega)
    have f3 := k4 3 (by omega)
    have f4 := k4 4 (by omega)
    unfold f_X11_lived_b26
    have e : ∀ j, upm σ 0 19 0 40 j = σ 40 j := fun j => by rw [upm_app, if_neg (by omega)]
    simp only [s_ref0, obs, if_true, gX, (h.xh.st (v := 0)).1.at 0 9 40 rfl, gLf, e]
    rcases (show v = 0 ∨ v = 1 ∨ v = 2 ∨ v = 3 ∨ v = 4 by omega) with rfl | rfl | rfl | rfl | rfl
    · simp only [if_true]; rw [f0]; rfl
    · simp only [Int.one_ne_zero, if_false, if_true]; rw [f1]; rfl
    · simp only [show ¬ (2 : Int) = 0 by decide, show ¬ (2 : Int) = 1 by decide, if_false, if_true]; rw [f2]; rfl
    · simp only [show ¬ (3 : Int) = 0 by decide, show ¬ (3 : Int) = 1 by decide, show ¬ (3 : Int) = 2 by decide, if_false, if_true]; rw [f3]; rfl
    · simp only [show ¬ (4 : Int) = 0 by decide, show ¬ (4 : Int) = 1 by decide, show ¬ (4 : Int) = 2 by decide, show ¬ (4 : Int) = 3 by decide, if_false]
      rw [show (9 : Nat) = 5 + 4 from rfl, f4]
      rcases k5.2 with q | q
      · rw [q]; simp [q]
      · rw [q]; simp [q]
  have e5 : f_X11_lived_b26 0 v 5 σ = some (-1, upm σ 0 19 5) := by
    unfold f_X11_lived_b26
    simp only [s_refn (show ¬ (5 : Int) = 0 by decide), obs, Int.one_ne_zero, if_false]
  have e8 : f_X11_lived_b26 0 v 8 σ = some (-1, upm σ 0 19 8) := by
    unfold f_X11_lived_b26
    simp only [s_refn (show ¬ (8 : Int) = 0 by decide), obs, Int.one_ne_zero, if_false]
  unfold f_X11_lived f_X11_lived_b0 f_X11_lived_b11
  simp only [oX, if_true, gX, obs, k1]
  unfold yLv
  grind
theorem ok_lived {v : Int} (h : Rel σ) : Ok (f_X11_lived 0 v) (f_X12_lived 113 v) σ := Ok.mk h (x_lived h) fun τ h1 h2 => by
  apply MO.mkr
  have e1 : rf2 τ 113 36 = σ 113 36 := by rw [← h2 113 (by omega)]; rfl
  have e2 : rf2 τ 127 = σ 127 := by rw [← h2 127 (by omega)]; rfl
  unfold f_X12_lived f_X12_lived_b0
  simp only [oM, if_true, pM, obs, rf2_e, s_refuse, s_isIn, gM, h1.rf.1.at 113 35 127 rfl, e1]
  unfold yLv
  by_cases hv : 0 ≤ v ∧ v ≤ 4
  · rw [aLv (by omega) (by omega), e2]
    simp only [obs, hv, and_self, if_true, Int.one_ne_zero, if_false, not_true]
    grind
  · simp only [hv, if_true, if_false, not_false_eq_true]
    rfl
/-! years -/
def age1 (B : Nat → Int) (i : Nat) : Nat → Int := fun j => if 27 ≤ j ∧ j < 27 + i then mi 9 (B j + B (j - 20)) else B j
def ageN (B : Nat → Int) (n : Nat) : Nat → Int := fun j => if 27 ≤ j ∧ j < 27 + nP B then mi 9 (B j + n * B (j - 20)) else if j = 3 then B 3 + n else B j
theorem age1_0 : age1 B 0 = B := by funext j; unfold age1; rw [if_neg (by omega)]
theorem age1_s {i : Nat} (hi : i < 10) : up1 (age1 B i) (27 + i) (mi 9 (B (27 + i) + B (7 + i))) = age1 B (i + 1) := by
  funext j
  unfold up1 age1
  by_cases q : j = 27 + i
  · subst q
    rw [if_pos rfl, if_pos (by omega), show 27 + i - 20 = 7 + i by omega]
  · rw [if_neg q]
    by_cases r : 27 ≤ j ∧ j < 27 + i
    · rw [if_pos r, if_pos (by omega)]
    · rw [if_neg r, if_neg (by omega)]
theorem ageN_0 (hB : BV B) : ageN B 0 = B := by
  funext j
  unfold ageN
  have hn := hB.nP_le
  split
  · have := (hB.2.2.2.2.1 (j - 27) (by omega)).2.2.1
    rw [show 27 + (j - 27) = j by omega] at this
    unfold mi
    rw [Int.natCast_zero, Int.zero_mul, Int.add_zero]
    split <;> omega
  · split
    · next q => subst q; simp
    · rfl
theorem nP_ageN {n : Nat} : nP (ageN B n) = nP B := by unfold nP ageN; rw [if_neg (by omega), if_neg (by omega)]
theorem ageN_s {n : Nat} (hB : BV B) : up1 (age1 (ageN B n) (nP B)) 3 (B 3 + n + 1) = ageN B (n + 1) := by
  have hn := hB.nP_le
  funext j
  unfold up1
  by_cases q : j = 3
  · subst q
    rw [if_pos rfl]
    unfold ageN
    rw [if_neg (by omega), if_pos rfl]
    omega
  · rw [if_neg q]
    unfold age1
    by_cases r : 27 ≤ j ∧ j < 27 + nP B
    · rw [if_pos r]
      have e1 : ageN B n j = mi 9 (B j + n * B (j - 20)) := by unfold ageN; rw [if_pos r]
      have e2 : ageN B n (j - 20) = B (j - 20) := by unfold ageN; rw [if_neg (by omega), if_neg (by omega)]
      have e3 : ageN B (n + 1) j = mi 9 (B j + (n + 1 : Nat) * B (j - 20)) := by unfold ageN; rw [if_pos r]
      rw [e1, e2, e3]
      have h1 := (hB.2.2.2.2.1 (j - 27) (by omega)).1
      have h2 := (hB.2.2.2.2.1 (j - 27) (by omega)).2.2.1
      rw [show 7 + (j - 27) = j - 20 by omega] at h1
      rw [show 27 + (j - 27) = j by omega] at h2
      unfold mi
      rcases h1 with e | e <;> rw [e] <;> (repeat' split) <;> omega
    · rw [if_neg r]
      unfold ageN
      rw [if_neg r, if_neg q, if_neg r, if_neg q]
theorem BV_ageN {n : Nat} (hB : BV B) : BV (ageN B n) := by
  have hn := hB.nP_le
  have hk := hB.nK_le
  obtain ⟨b0, b1, b2, b3, b4, b5⟩ := hB
  have e : ∀ j, ¬ (27 ≤ j ∧ j < 37) → ¬ j = 3 → ageN B n j = B j := fun j hj h3 => by unfold ageN; rw [if_neg (by omega), if_neg h3]
  have e2 : nK (ageN B n) = nK B := by unfold nK; rw [e 1 (by omega) (by omega)]
  refine ⟨by rw [e 0 (by omega) (by omega)]; exact b0, by rw [e 1 (by omega) (by omega)]; exact b1, by rw [e 2 (by omega) (by omega), e 5 (by omega) (by omega)]; exact b2, ?_, fun p hp => ?_, fun w hw => ?_⟩
  · unfold ageN; rw [if_neg (by omega), if_pos rfl]; omega
  · rw [e (7 + p) (by omega) (by omega), e (17 + p) (by omega) (by omega), e (37 + p) (by omega) (by omega), e 0 (by omega) (by omega)]
    obtain ⟨c1, c2, c3, c4⟩ := b4 p hp
    refine ⟨c1, c2, ?_, c4⟩
    unfold ageN
    split
    · rw [show 27 + p - 20 = 7 + p by omega]
      unfold mi
      rcases c1 with q | q <;> rw [q] <;> split <;> omega
    · rw [if_neg (by omega)]; exact c3
  · rw [e2] at hw
    rw [e (51 + w) (by omega) (by omega), e (47 + w) (by omega) (by omega), e 0 (by omega) (by omega)]
    obtain ⟨c1, c2⟩ := b5 w hw
    refine ⟨c1, ?_⟩
    rcases c2 with c2 | ⟨c2, c3, c4⟩
    · exact .inl c2
    · refine .inr ⟨c2, c3, ?_⟩
      unfold stn at c4 ⊢
      rw [e _ (by omega) (by omega)]
      exact c4
theorem m_ages (h : MH σ B) (h3 : B 3 < 2000000000) : f_X12_ages 113 σ = some (setc σ 118 (up1 (age1 B (nP B)) 3 (B 3 + 1))) := by
  have hn := h.2.2.nP_le
  have h3' := h.2.2.2.2.2.1
  unfold f_X12_ages f_X12_ages_b0
  rw [if_pos oM]
  have := up_all (Q := fun n i => f_X12_ages_h2 n 113 (i : Int) (setc σ 118 (age1 B i)) = some (setc σ 118 (up1 (age1 B (nP B)) 3 (B 3 + 1)))) (nP B) (fun n => ?_) (fun n i hi ih => ?_) (by unfold FU; omega)
  · rw [age1_0, ← h.2.1, setc_id] at this
    rw [h.2.1] at this
    exact this
  · have hR : Ref (setc σ 118 (age1 B (nP B))) := h.1.setc rfl
    rw [hs_X12_ages_h2]
    unfold f_X12_ages_b2
    simp only [gM, obs, hR.at 113 20 118 rfl]
    simp (disch := omega) only [alC, obs, setc_same]
    rw [if_pos (by unfold age1; rw [if_neg (by omega)]; simp only [Int.reduceToNat]; omega)]
    rw [stC (by omega) (by omega)]
    simp only [obs, Int.reduceToNat, setc_upm]
    rw [show age1 B (nP B) 3 = B 3 by unfold age1; rw [if_neg (by omega)], w32_in (by omega) (by omega)]
  · have hR : Ref (setc σ 118 (age1 B i)) := h.1.setc rfl
    obtain ⟨c1, c2, c3, c4⟩ := h.2.2.2.2.2.2.1 i (by omega)
    rw [hs_X12_ages_h2]
    unfold f_X12_ages_b2
    simp only [gM, obs, hR.at 113 20 118 rfl]
    rw [w32_in (z := 27 + (i : Int)) (by omega) (by omega), w32_in (z := 7 + (i : Int)) (by omega) (by omega), w32_in (z := (i : Int) + 1) (by omega) (by omega)]
    simp (disch := omega) only [alC, stC, obs, setc_same]
    rw [show (27 + (i : Int)).toNat = 27 + i by omega, show (7 + (i : Int)).toNat = 7 + i by omega, if_neg (by unfold age1; rw [if_neg (by omega)]; simp only [Int.reduceToNat]; omega)]
    rw [show age1 B i (27 + i) = B (27 + i) by unfold age1; rw [if_neg (by omega)], show age1 B i (7 + i) = B (7 + i) by unfold age1; rw [if_neg (by omega)]]
    rw [w32_in (by omega) (by omega), show imin 9 (B (27 + i) + B (7 + i)) = mi 9 (B (27 + i) + B (7 + i)) from rfl, setc_upm, age1_s (by omega)]
    exact ih
theorem m_agesN {n : Nat} (h : MH σ B) (h3 : B 3 + n < 2000000000) : f_X12_ages 113 (setc σ 118 (ageN B n)) = some (setc σ 118 (ageN B (n + 1))) := by
  have h3' := h.2.2.2.2.2.1
  have e3 : ageN B n 3 = B 3 + n := by unfold ageN; rw [if_neg (by omega), if_pos rfl]
  rw [m_ages (h.setc (BV_ageN h.2.2)) (by omega), setc_setc, nP_ageN, e3, ageN_s h.2.2]
/-! freeIn -/
theorem aKp {i : Int} (h0 : 0 ≤ i) (h1 : i < 10) : al Sh σ 20 121 i = some (σ 121 i.toNat) := by
  have : isA Sh 20 121 i = true := isA_at (a := 121) rfl h0 h1
  rw [al_at this]
  rfl
theorem sKp {i v : Int} (h0 : 0 ≤ i) (h1 : i < 10) : st_ Sh σ 20 121 i v = some (upm σ 121 i.toNat v) := by
  have : isA Sh 20 121 i = true := isA_at (a := 121) rfl h0 h1
  rw [st_at this]
  rfl
def rsB (B : Nat → Int) (m i : Nat) : Nat → Int := fun j => if 27 ≤ j ∧ j < 27 + i then B j else ageN B m j
theorem m_freeIn_r {v : Int} {m : Nat} (h : MH σ B) (hk : ∀ j, j < 10 → σ 121 j = B (27 + j)) : f_X12_freeIn_b103 113 v (B 3) (setc σ 118 (ageN B m)) = some (if 0 ≤ v then (v, σ) else (-1, upm σ 113 0 8)) := by
  have hn := h.2.2.nP_le
  unfold f_X12_freeIn_b103
  have := up_all (Q := fun n i => f_X12_freeIn_h106 n 113 v (B 3) (i : Int) (setc σ 118 (rsB B m i)) = some (if 0 ≤ v then (v, σ) else (-1, upm σ 113 0 8))) 10 (fun n => ?_) (fun n i hi ih => ?_) (by unfold FU; omega)
  · have e : rsB B m 0 = ageN B m := by funext j; unfold rsB; rw [if_neg (by omega)]
    rw [e] at this
    exact this
  · have hR : Ref (setc σ 118 (rsB B m 10)) := h.1.setc rfl
    rw [hs_X12_freeIn_h106]
    unfold f_X12_freeIn_b106
    rw [if_pos (by omega)]
    simp only [gM, obs, hR.at 113 20 118 rfl]
    rw [stC (by omega) (by omega)]
    simp only [obs, setc_upm, Int.reduceToNat]
    have e : up1 (rsB B m 10) 3 (B 3) = σ 118 := by
      rw [h.2.1]
      funext j
      unfold up1 rsB ageN
      by_cases q : j = 3
      · subst q; simp
      · rw [if_neg q]
        by_cases r : 27 ≤ j ∧ j < 27 + 10
        · rw [if_pos r]
        · rw [if_neg r, if_neg (by omega), if_neg q]
    rw [e, setc_id, s_refuse]
    split <;> rfl
  · have hR : Ref (setc σ 118 (rsB B m i)) := h.1.setc rfl
    rw [hs_X12_freeIn_h106]
    unfold f_X12_freeIn_b106
    rw [if_neg (by omega)]
    simp only [gM, obs, hR.at 113 20 118 rfl, hR.at 113 26 121 rfl]
    rw [aKp (by omega) (by omega), w32_in (z := 27 + (i : Int)) (by omega) (by omega), w32_in (z := (i : Int) + 1) (by omega) (by omega), obs, stC (by omega) (by omega)]
    simp only [obs, setc_upm, Int.toNat_natCast, setc_ne (show 121 ≠ 118 by decide), hk i hi, show (27 + (i : Int)).toNat = 27 + i by omega]
    have e : up1 (rsB B m i) (27 + i) (B (27 + i)) = rsB B m (i + 1) := by
      funext j
      unfold up1 rsB
      by_cases q : j = 27 + i
      · subst q; rw [if_pos rfl, if_pos (by omega)]
      · rw [if_neg q]
        by_cases r : 27 ≤ j ∧ j < 27 + i
        · rw [if_pos r, if_pos (by omega)]
        · rw [if_neg r, if_neg (by omega)]
    rw [e]
    exact ih
theorem mc_cg {B' : Nat → Int} {p : Nat} {q : Int} (hB : BV B) (hp : p < nP B) (e : ∀ j, j < 55 → ¬ j = 3 → (j < 27 + nP B ∨ 37 ≤ j) → B' j = B j) : mc B' p q = mc B p q := by
  have hn := hB.nP_le
  have hk := hB.nK_le
  have e2 : nK B' = nK B := by unfold nK; rw [e 1 (by omega) (by omega) (by omega)]
  have e5 : ∀ k, k ≤ 4 → cs B' p k = cs B p k := by
    intro k hk
    induction k with
    | zero => rfl
    | succ k ih => rw [cs_s, cs_s, ih (by omega), e (47 + k) (by omega) (by omega) (by omega), e (51 + k) (by omega) (by omega) (by omega)]
  unfold mc
  rw [e (17 + p) (by omega) (by omega) (by omega), e (27 + p) (by omega) (by omega) (by omega), e 0 (by omega) (by omega) (by omega), e2, e5 _ hk.1]
theorem tS_cg {B' : Nat → Int} {g q : Int} (hB : BV B) (e : ∀ j, j < 55 → ¬ j = 3 → (j < 27 + nP B ∨ 37 ≤ j) → B' j = B j) : tS B' g q = tS B g q := by
  have hn := hB.nP_le
  have e1 : nP B' = nP B := by unfold nP; rw [e 0 (by omega) (by omega) (by omega)]
  unfold tS
  rw [e1]
  refine setOf_cg fun k hk => ?_
  unfold tB stn
  rw [mc_cg hB hk e, e (7 + k) (by omega) (by omega) (by omega)]
theorem aS_cg {B' : Nat → Int} (hB : BV B) (e : ∀ j, j < 17 → ¬ j = 3 → B' j = B j) : aS B' = aS B := by
  have hn := hB.nP_le
  have e1 : nP B' = nP B := by unfold nP; rw [e 0 (by omega) (by omega)]
  unfold aS
  rw [e1]
  refine setOf_cg fun k hk => ?_
  unfold stn
  rw [e (7 + k) (by omega) (by omega)]
theorem cdm_cg {B' : Nat → Int} {g : Int} {q : Nat} (hB : BV B) (hq : q < 10) (e : ∀ j, j < 55 → ¬ j = 3 → (j < 27 + nP B ∨ 37 ≤ j) → B' j = B j) : cdm B' g q = cdm B g q := by
  unfold cdm stn
  rw [tS_cg hB e, aS_cg hB (fun j h1 h2 => e j (by omega) h2 (by omega)), e (7 + q) (by omega) (by omega) (by omega)]
theorem cdm_ageN {g : Int} {q n : Nat} (hB : BV B) (hq : q < 10) : cdm (ageN B n) g q = cdm (agd B n) g q := by
  refine cdm_cg (BV_agd hB (by omega)) hq fun j h1 h2 h3 => ?_
  have hn := hB.nP_le
  have : nP (agd B n) = nP B := rfl
  rw [this] at h3
  unfold ageN agd
  by_cases q : 27 ≤ j ∧ j < 27 + nP B
  · rw [if_pos q, if_pos (by omega)]
  · rw [if_neg q, if_neg h2, if_neg (by omega)]
def vFre (B : Nat → Int) (g : Int) (p : Nat) : Int := ff (fun y => !cdm (agd B y) g p) 10 0
theorem m_freeIn_h {g : Int} {p : Nat} (h : MH σ B) (hk : ∀ j, j < 10 → σ 121 j = B (27 + j)) (hp : p < 10) (h3 : B 3 ≤ 9999) : f_X12_freeIn_h70 FU 113 g p (-1) (B 3) 0 σ = some (if vFre B g p = -1 then (-1, upm σ 113 0 8) else (vFre B g p, σ)) := by
  unfold vFre
  have := up_to (Q := fun n i => f_X12_freeIn_h70 (n + 1) 113 g p (-1) (B 3) (i : Int) (setc σ 118 (ageN B i)) = some (if ff (fun y => !cdm (agd B y) g p) 10 i = -1 then (-1, upm σ 113 0 8) else (ff (fun y => !cdm (agd B y) g p) 10 i, σ))) 10 (fun n => ?_) (fun n i hi ih => ?_) 0 (Nat.zero_le _) (FU - 1) (by unfold FU; omega)
  · rw [ageN_0 h.2.2, ← h.2.1, setc_id, show FU - 1 + 1 = FU by unfold FU; rfl] at this
    rw [h.2.1] at this
    exact this
  · rw [hs_X12_freeIn_h70]
    unfold f_X12_freeIn_b70
    rw [if_pos (by omega), m_freeIn_r h hk, ff_N]
    rfl
  · rw [hs_X12_freeIn_h70]
    unfold f_X12_freeIn_b70 f_X12_freeIn_b93
    have h2 := h.setc (BV_ageN (n := i) h.2.2)
    rw [if_neg (by omega), if_neg (by omega), m_isCondemned h2.1 h2.2.1 h2.2.2 hp, cdm_ageN h.2.2 hp, ff_s hi, w32_in (by omega) (by omega), m_agesN h (by omega)]
    simp only [obs]
    by_cases q : cdm (agd B i) g p = true
    · simp only [q, if_true, Int.one_ne_zero, if_false, Bool.not_true, Bool.false_eq_true]
      exact ih
    · simp only [q, if_true, if_false, Bool.false_eq_true, Bool.not_false]
      rw [hs_X12_freeIn_h70]
      unfold f_X12_freeIn_b70
      have h0 : (0 : Int) ≤ (i : Int) := by omega
      have h1 : ¬ (i : Int) = -1 := by omega
      simp only [h0, h1, if_true, if_false, m_freeIn_r h hk, ite_self]
def kpB (σ : Mem) (B : Nat → Int) (i : Nat) : Nat → Int := fun j => if j < i then B (27 + j) else σ 121 j
theorem m_freeIn_k {g : Int} {p : Nat} (h : MH σ B) (hp : p < 10) (h3 : B 3 ≤ 9999) : f_X12_freeIn_h37 FU 113 g p (-1) (B 3) 0 σ = some (if vFre B g p = -1 then (-1, upm (setc σ 121 (kpB σ B 10)) 113 0 8) else (vFre B g p, setc σ 121 (kpB σ B 10))) := by
  have := up_all (Q := fun n i => f_X12_freeIn_h37 n 113 g p (-1) (B 3) (i : Int) (setc σ 121 (kpB σ B i)) = some (if vFre B g p = -1 then (-1, upm (setc σ 121 (kpB σ B 10)) 113 0 8) else (vFre B g p, setc σ 121 (kpB σ B 10)))) 10 (fun n => ?_) (fun n i hi ih => ?_) (by unfold FU; omega)
  · rw [show kpB σ B 0 = σ 121 by funext j; unfold kpB; rw [if_neg (by omega)], setc_id] at this
    exact this
  · rw [hs_X12_freeIn_h37]
    unfold f_X12_freeIn_b37
    rw [if_pos (by omega)]
    exact m_freeIn_h ⟨h.1.setc rfl, by rw [setc_ne (by decide)]; exact h.2.1, h.2.2⟩ (fun j hj => by rw [setc_same]; unfold kpB; rw [if_pos hj]) hp h3
  · have hR : Ref (setc σ 121 (kpB σ B i)) := h.1.setc rfl
    rw [hs_X12_freeIn_h37]
    unfold f_X12_freeIn_b37
    rw [if_neg (by omega), w32_in (z := 27 + (i : Int)) (by omega) (by omega), w32_in (z := (i : Int) + 1) (by omega) (by omega)]
    simp only [gM, obs, hR.at 113 20 118 rfl, hR.at 113 26 121 rfl]
    rw [alC (by omega) (by omega), obs, sKp (by omega) (by omega)]
    simp only [obs, setc_upm, setc_ne (show 118 ≠ 121 by decide), h.2.1, Int.toNat_natCast, show (27 + (i : Int)).toNat = 27 + i by omega]
    have e : up1 (kpB σ B i) i (B (27 + i)) = kpB σ B (i + 1) := by
      funext j
      unfold up1 kpB
      by_cases q : j = i
      · subst q; rw [if_pos rfl, if_pos (by omega)]
      · rw [if_neg q]
        by_cases r : j < i
        · rw [if_pos r, if_pos (by omega)]
        · rw [if_neg r, if_neg (by omega)]
    rw [e]
    exact ih
theorem gid121 {j : Nat} : gid 121 j = 20 := by
  have h1 : isRf 121 j = false := isRf_cell rfl
  unfold gid
  simp [h1]
def yFre (B : Nat → Int) (g p : Int) : Int := if yGu B g p = 0 then (if vFre B g p.toNat = -1 then 8 else 0) else yGu B g p
theorem x_freeIn {g p : Int} (h : XH σ B D) : XO (f_X11_freeIn 0 g p) σ (if yFre B g p = 0 then vFre B g p.toNat else -1) (yFre B g p) := by
  apply XO.mk
  unfold f_X11_freeIn f_X11_freeIn_b0 f_X11_freeIn_b36 f_X11_freeIn_b38
  simp only [oX, if_true, obs, x_guiltWhy h, gX, h.1.at 0 3 5 rfl, s_refused]
  unfold yFre
  by_cases hy : yGu B g p = 0
  · obtain ⟨h1, h2⟩ := yGu0 hy
    obtain ⟨k, rfl, hk, h10⟩ := isP_nat h1 h.2.2
    rw [w_yearsToFree h hk]
    simp only [hy, if_true, obs, Int.toNat_natCast, show ff (fun y => !cdm (agd B y) g k) 10 0 = vFre B g k from rfl]
    grind
  · simp only [hy, if_false]
    grind
theorem m_freeIn {g p : Int} (h : MH σ B) (h3 : B 3 ≤ 9999) : MO (f_X12_freeIn 113 g p) σ (if yFre B g p = 0 then vFre B g p.toNat else -1) (yFre B g p) := by
  have h1 := @yGu_ge B g p
  by_cases hy : yGu B g p = 0
  · obtain ⟨q1, q2⟩ := yGu0 hy
    obtain ⟨k, rfl, hk, h10⟩ := isP_nat q1 h.2.2
    have hr := h.r1.r0 (v := 0)
    have e : f_X12_freeIn 113 g k σ = some (if vFre B g k = -1 then (-1, upm (setc (rf2 σ) 121 (kpB (rf2 σ) B 10)) 113 0 8) else (vFre B g k, setc (rf2 σ) 121 (kpB (rf2 σ) B 10))) := by
      unfold f_X12_freeIn f_X12_freeIn_b0
      simp only [oM, if_true, pM, gM, obs, m_whyNoTrial h.r1, upm_same, hy, Int.le_refl, hr.1.at 113 20 118 rfl]
      rw [alC (by omega) (by omega), obs, hr.2.1]
      simp only [Int.reduceToNat]
      exact m_freeIn_k hr h10 h3
    have f1 : Fr [11, 20] σ (setc (rf2 σ) 121 (kpB (rf2 σ) B 10)) := by
      refine Fr.trans (fr_rf (v := 0)) fun b j hb => ?_
      rw [setc_ne]
      · rfl
      · intro q
        subst q
        exact hb (by unfold gs; rw [gid121]; decide)
    unfold yFre
    rw [Int.toNat_natCast, hy]
    by_cases q : vFre B g k = -1
    · exact ⟨_, by rw [e]; simp only [q, if_true]; rfl, f1.then (by decide), upm_same⟩
    · refine ⟨_, by rw [e]; simp only [q, if_true, if_false], f1, ?_⟩
      rw [setc_ne (by decide)]
      simp only [if_true, q, if_false]
      rfl
  · refine MO.mk ?_
    unfold f_X12_freeIn f_X12_freeIn_b0
    simp only [oM, if_true, pM, gM, obs, m_whyNoTrial h.r1, upm_same]
    unfold yFre
    rw [if_neg (by omega), if_neg hy, if_neg hy]
theorem ok_freeIn {g p : Int} (h : Rel σ) : Ok (f_X11_freeIn 0 g p) (f_X12_freeIn 113 g p) σ := Ok.mk h (x_freeIn h.xh) fun _ h1 _ => m_freeIn h1 h.2.2.2.2.2.2.1.2.2
end
