/-! ===== ask ===== -/
section
variable {σ τ : Mem} {B D N : Nat → Int} {lo hi : Int}
def qv (lo hi m : Int) : Int := imax (imin (imax 0 (hi + 1 - lo)) (imax 0 (hi - m))) (imax 0 (hi + 1 - lo) - imin (imax 0 (hi + 1 - lo)) (imax 0 (hi - m)))
def bq (B : Nat → Int) (lo hi : Int) : Nat → Int × Int
  | 0 => (-1, 62)
  | k + 1 => if stn B (k % nP B) = true ∧ qv lo hi (mc B (k % nP B) ((k / nP B : Nat) : Int)) < (bq B lo hi k).2 then ((k : Int), qv lo hi (mc B (k % nP B) ((k / nP B : Nat) : Int))) else bq B lo hi k
theorem bq_s {k : Nat} : bq B lo hi (k + 1) = if stn B (k % nP B) = true ∧ qv lo hi (mc B (k % nP B) ((k / nP B : Nat) : Int)) < (bq B lo hi k).2 then ((k : Int), qv lo hi (mc B (k % nP B) ((k / nP B : Nat) : Int))) else bq B lo hi k := rfl
theorem qv_le {m : Int} (h0 : 0 ≤ lo) (h1 : hi ≤ 60) : 0 ≤ qv lo hi m ∧ qv lo hi m ≤ 61 := by
  unfold qv
  have l : 0 ≤ imax 0 (hi + 1 - lo) ∧ imax 0 (hi + 1 - lo) ≤ 61 := by unfold imax; split <;> omega
  have l1 : 0 ≤ imax 0 (hi - m) := by unfold imax; split <;> omega
  generalize imax 0 (hi + 1 - lo) = A at *
  generalize imax 0 (hi - m) = X at *
  have l2 : 0 ≤ imin A X ∧ imin A X ≤ A := by unfold imin; split <;> omega
  generalize imin A X = T at *
  unfold imax
  split <;> omega
theorem w32_nat {M : Nat} (h : M ≤ 1000000) : w32 (M : Int) = M := w32_in (by omega) (by omega)
theorem bq_inv {k : Nat} (h0 : 0 ≤ lo) (h1 : hi ≤ 60) : ((bq B lo hi k).1 = -1 ∧ (bq B lo hi k).2 = 62 ∧ ∀ j, j < k → stn B (j % nP B) = false) ∨ ((∃ b : Nat, b < k ∧ (bq B lo hi k).1 = b ∧ stn B (b % nP B) = true) ∧ 0 ≤ (bq B lo hi k).2 ∧ (bq B lo hi k).2 ≤ 61) := by
  induction k with
  | zero => exact .inl ⟨rfl, rfl, fun j hj => by omega⟩
  | succ k ih =>
    rw [bq_s]
    have l := @qv_le lo hi (mc B (k % nP B) ((k / nP B : Nat) : Int)) h0 h1
    by_cases z : stn B (k % nP B) = true
    · by_cases z2 : qv lo hi (mc B (k % nP B) ((k / nP B : Nat) : Int)) < (bq B lo hi k).2
      · rw [if_pos ⟨z, z2⟩]
        exact .inr ⟨⟨k, by omega, rfl, z⟩, l.1, l.2⟩
      · rw [if_neg (fun q => z2 q.2)]
        rcases ih with ⟨i1, i2, i3⟩ | ⟨⟨b, i1, i2, i3⟩, i4⟩
        · omega
        · exact .inr ⟨⟨b, by omega, i2, i3⟩, i4⟩
    · rw [if_neg (fun q => z q.1)]
      rcases ih with ⟨i1, i2, i3⟩ | ⟨⟨b, i1, i2, i3⟩, i4⟩
      · refine .inl ⟨i1, i2, fun j hj => ?_⟩
        by_cases e : j = k
        · rw [e]; simpa using z
        · exact i3 j (by omega)
      · exact .inr ⟨⟨b, by omega, i2, i3⟩, i4⟩
theorem bq_end (h0 : 0 ≤ lo) (h1 : hi ≤ 60) : (aS B = 0 ∧ (bq B lo hi (nP B * nP B)).1 = -1) ∨ (¬ aS B = 0 ∧ ∃ b : Nat, b < nP B * nP B ∧ (bq B lo hi (nP B * nP B)).1 = b) := by
  rcases @bq_inv B lo hi (nP B * nP B) h0 h1 with ⟨i1, i2, i3⟩ | ⟨⟨b, i1, i2, i3⟩, i4⟩
  · refine .inl ⟨?_, i1⟩
    unfold aS
    rw [setOf_0]
    intro k hk
    have := i3 k (Nat.lt_of_lt_of_le hk (Nat.le_mul_of_pos_right _ (by omega)))
    rw [Nat.mod_eq_of_lt hk] at this
    exact this
  · refine .inr ⟨fun z => ?_, b, i1, i2⟩
    unfold aS at z
    rw [setOf_0] at z
    have hn : 0 < nP B := by
      apply Classical.byContradiction
      intro q
      rw [show nP B = 0 by omega] at i1
      omega
    rw [z (b % nP B) (Nat.mod_lt _ hn)] at i3
    cases i3
theorem XH.fr0 {σ1 : Mem} (h : XH σ B D) (f1 : Fr [0] σ σ1) : XH σ1 B D := ⟨f1.ref (by decide) h.1, h.2.1.cg (fun b j q1 q2 => by
      rcases gid6 (j := j) q1 q2 with e | e
      · exact f1.at e (by decide)
      · exact f1.at e (by decide)) (fun _ _ => rfl) (fun _ _ => rfl) h.2.2, h.2.2⟩
theorem x_greaterPart {m : Int} (e0 : σ 53 0 = lo) (e1 : σ 53 1 = hi) (hl : 0 ≤ lo ∧ lo ≤ 62) (hh : -22 ≤ hi ∧ hi ≤ 60) (hm : -22 ≤ m ∧ m ≤ 61) : f_X3_greaterPart 53 m σ = some (qv lo hi m) := by
  unfold f_X3_greaterPart f_X3_greaterPart_b0
  simp only [oG, if_true, gG, obs, x_count e0 e1 hl hh, e1]
  have l : 0 ≤ imax 0 (hi + 1 - lo) ∧ imax 0 (hi + 1 - lo) ≤ 61 := by unfold imax; split <;> omega
  have l2 : 0 ≤ imin (imax 0 (hi + 1 - lo)) (imax 0 (hi - m)) ∧ imin (imax 0 (hi + 1 - lo)) (imax 0 (hi - m)) ≤ 61 := by unfold imin imax; split <;> split <;> (try split) <;> omega
  rw [w32_in (z := hi - m) (by omega) (by omega), w32_in (by omega) (by omega)]
  rfl
/-- what stands in the guess when k pairs were looked at -/
def inQ (σ σ1 : Mem) (B : Nat → Int) (lo hi : Int) (k : Nat) : Prop := Fr [0] σ σ1 ∧ σ1 53 0 = lo ∧ σ1 53 1 = hi ∧ ∀ b : Nat, (bq B lo hi k).1 = b → σ1 53 2 = ((b / nP B : Nat) : Int) ∧ σ1 53 3 = ((b % nP B : Nat) : Int)
theorem x_fq_i {k5 : Int → Int → Int → Int → Mem → Option Mem} {p : Nat} (h : XH σ B D) (hp : p < nP B) (hl : 0 ≤ lo ∧ lo ≤ 62) (hh : -22 ≤ hi ∧ hi ≤ 60) : ∀ σ1, inQ σ σ1 B lo hi (p * nP B) → ∃ σ', f_X3_findQuestion_h16 k5 FU 53 5 (bq B lo hi (p * nP B)).2 p 0 σ1 = k5 53 5 (bq B lo hi ((p + 1) * nP B)).2 ((p + 1 : Nat) : Int) σ' ∧ inQ σ σ' B lo hi ((p + 1) * nP B) := by
  have hB := h.2.2.nP_le
  refine up_all (Q := fun n s => ∀ σ1, inQ σ σ1 B lo hi (p * nP B + s) → ∃ σ', f_X3_findQuestion_h16 k5 n 53 5 (bq B lo hi (p * nP B + s)).2 p s σ1 = k5 53 5 (bq B lo hi ((p + 1) * nP B)).2 ((p + 1 : Nat) : Int) σ' ∧ inQ σ σ' B lo hi ((p + 1) * nP B)) (nP B) (fun n σ1 q => ?_) (fun n s hs ih σ1 q => ?_) (by unfold FU; omega)
  · have hx := h.fr0 q.1
    rw [hs_X3_findQuestion_h16]
    unfold f_X3_findQuestion_b16
    simp only [w_g, obs, hx.2.1.1.1]
    rw [if_pos (by omega), w32_in (by omega) (by omega), show p * nP B + nP B = (p + 1) * nP B by rw [Nat.succ_mul]]
    refine ⟨σ1, rfl, ?_⟩
    rw [Nat.succ_mul]
    exact q
  · obtain ⟨q1, q2, q3, q4⟩ := q
    have hx := h.fr0 q1
    have e1 : (p * nP B + s) % nP B = s := by rw [Nat.mul_comm, Nat.mul_add_mod]; exact Nat.mod_eq_of_lt hs
    have e2 : (p * nP B + s) / nP B = p := by rw [Nat.mul_comm, Nat.mul_add_div (by omega), Nat.div_eq_of_lt hs]; rfl
    have eb := @bq_s B lo hi (p * nP B + s)
    rw [e1, e2] at eb
    have ih' : ∀ σ2, inQ σ σ2 B lo hi (p * nP B + s + 1) → ∃ σ', f_X3_findQuestion_h16 k5 n 53 5 (bq B lo hi (p * nP B + s + 1)).2 p ((s : Int) + 1) σ2 = k5 53 5 (bq B lo hi ((p + 1) * nP B)).2 ((p + 1 : Nat) : Int) σ' ∧ inQ σ σ' B lo hi ((p + 1) * nP B) := fun σ2 h2 => ih σ2 h2
    rw [hs_X3_findQuestion_h16]
    unfold f_X3_findQuestion_b16 f_X3_findQuestion_b69
    simp only [w_g, obs, hx.2.1.1.1, w_isStone' hx hs]
    rw [if_neg (by omega), w32_in (z := (s : Int) + 1) (by omega) (by omega)]
    by_cases z : stn B s = true
    · have lm := @mc_le B s p h.2.2 (by omega) (by omega)
      rw [if_pos z, if_neg (by decide), w_mercyFor hx hs z (by omega), obs, x_greaterPart q2 q3 hl hh lm, obs]
      by_cases z2 : qv lo hi (mc B s (p : Int)) < (bq B lo hi (p * nP B + s)).2
      · rw [if_neg (by omega), pG, obs, pG, obs]
        rw [if_pos ⟨z, z2⟩] at eb
        have := ih' (upm (upm σ1 53 2 p) 53 3 s) ⟨(q1.then (by decide)).then (by decide), q2, q3, fun b hb => ?_⟩
        · rw [eb] at this
          exact this
        · rw [eb] at hb
          have : b = p * nP B + s := by dsimp only at hb; omega
          subst this
          rw [e1, e2]
          exact ⟨rfl, rfl⟩
      · rw [if_pos (by omega)]
        rw [if_neg (fun w => z2 w.2)] at eb
        have := ih' σ1 ⟨q1, q2, q3, by rw [eb]; exact q4⟩
        rw [eb] at this
        exact this
    · rw [if_neg z, if_pos rfl]
      rw [if_neg (fun w => z w.1)] at eb
      have := ih' σ1 ⟨q1, q2, q3, by rw [eb]; exact q4⟩
      rw [eb] at this
      exact this
theorem x_findQuestion (h : XH σ B D) (e0 : σ 53 0 = lo) (e1 : σ 53 1 = hi) (hl : 0 ≤ lo ∧ lo ≤ 62) (hh : -22 ≤ hi ∧ hi ≤ 60) : ∃ σ', f_X3_findQuestion 53 5 σ = some σ' ∧ inQ σ σ' B lo hi (nP B * nP B) := by
  have hB := h.2.2.nP_le
  unfold f_X3_findQuestion f_X3_findQuestion_b0
  rw [if_pos oG]
  have := up_all (Q := fun n p => ∀ σ1, inQ σ σ1 B lo hi (p * nP B) → ∃ σ', f_X3_findQuestion_h5 n 53 5 (bq B lo hi (p * nP B)).2 p σ1 = some σ' ∧ inQ σ σ' B lo hi (nP B * nP B)) (nP B) (fun n σ1 q => ?_) (fun n p hp ih σ1 q => ?_) (by unfold FU; omega)
  · have t := this σ ⟨Fr.refl, e0, e1, fun b hb => by rw [Nat.zero_mul] at hb; unfold bq at hb; dsimp only at hb; omega⟩
    rw [Nat.zero_mul] at t
    exact t
  · have hx := h.fr0 q.1
    rw [hs_X3_findQuestion_h5]
    unfold f_X3_findQuestion_b5
    simp only [w_g, obs, hx.2.1.1.1]
    rw [if_pos (by omega)]
    exact ⟨σ1, rfl, q⟩
  · have hx := h.fr0 q.1
    rw [hs_X3_findQuestion_h5]
    unfold f_X3_findQuestion_b5
    simp only [w_g, obs, hx.2.1.1.1]
    rw [if_neg (by omega)]
    obtain ⟨σ2, a1, a2⟩ := x_fq_i (k5 := f_X3_findQuestion_h5 n) h hp hl hh σ1 q
    rw [a1]
    exact ih σ2 a2
/-! the reference's -/
def cmn (lo hi m : Int) : Nat → Int
  | 0 => 0
  | g + 1 => cmn lo hi m g + if (lo ≤ g ∧ g ≤ hi) ∧ m < g then 1 else 0
theorem cmn_s {m : Int} {g : Nat} : cmn lo hi m (g + 1) = cmn lo hi m g + if (lo ≤ g ∧ g ≤ hi) ∧ m < g then 1 else 0 := rfl
theorem cmn_e {m : Int} {g : Nat} (h0 : 0 ≤ lo) : cmn lo hi m g = imax 0 ((if hi < g then hi + 1 else g) - (if lo ≤ m then m + 1 else lo)) := by
  induction g with
  | zero => unfold cmn imax; grind
  | succ g ih =>
    rw [cmn_s, ih]
    unfold imax
    grind
theorem cmn_61 {m : Int} (h0 : 0 ≤ lo) (h1 : hi ≤ 60) : cmn lo hi m 61 = imin (imax 0 (hi + 1 - lo)) (imax 0 (hi - m)) := by
  rw [cmn_e h0, if_pos (by omega)]
  unfold imin imax
  grind
theorem cmn_le {m : Int} {g : Nat} : 0 ≤ cmn lo hi m g ∧ cmn lo hi m g ≤ g := by
  induction g with
  | zero => exact ⟨Int.le_refl _, Int.le_refl _⟩
  | succ g ih => rw [cmn_s]; split <;> omega
theorem m_turns {g : Int} {a b : Nat} (h : MH τ B) (ha : a < 10) (hb : b < 10) : f_X12_turns 113 g a b τ = some (if mc B b a < g then 1 else 0) := by
  unfold f_X12_turns f_X12_turns_b0
  rw [if_pos oM, m_mercyOf h.1 h.2.1 h.2.2 hb (by omega), obs]
  grind
theorem m_ask_i {k56 : Int → Int → Int → Int → Int → Mem → Option (Int × Mem)} {w best least : Int} {k a b : Nat} (h : MH τ B) (ha : a < 10) (hb : b < 10) (hf : ∀ g : Nat, g ≤ 60 → τ 122 g = if lo ≤ g ∧ g ≤ hi then 1 else 0) (h28 : τ 113 28 = imax 0 (hi + 1 - lo)) (hl : 0 ≤ lo) (hh : hi ≤ 60) (hk : k ≤ 100) : f_X12_ask_h102 k56 FU 113 w best least k a b 0 0 τ = if stn B b = true ∧ qv lo hi (mc B b (a : Int)) < least then k56 113 w k (qv lo hi (mc B b (a : Int))) ((k + 1 : Nat) : Int) τ else k56 113 w best least ((k + 1 : Nat) : Int) τ := by
  refine up_all (Q := fun n g => f_X12_ask_h102 k56 n 113 w best least k a b (cmn lo hi (mc B b (a : Int)) g) g τ = if stn B b = true ∧ qv lo hi (mc B b (a : Int)) < least then k56 113 w k (qv lo hi (mc B b (a : Int))) ((k + 1 : Nat) : Int) τ else k56 113 w best least ((k + 1 : Nat) : Int) τ) 61 (fun n => ?_) (fun n g hg ih => ?_) (by unfold FU; omega)
  · have l := @cmn_le lo hi (mc B b (a : Int)) 61
    rw [hs_X12_ask_h102]
    unfold f_X12_ask_b102 f_X12_ask_b195
    simp only [gM, obs, h28, m_stone' h (show b < 1000 by omega)]
    have l2 : 0 ≤ imax 0 (hi + 1 - lo) ∧ imax 0 (hi + 1 - lo) ≤ 61 := by unfold imax; split <;> omega
    rw [if_pos (by omega), w32_in (z := (k : Int) + 1) (by omega) (by omega), w32_in (z := imax 0 (hi + 1 - lo) - cmn lo hi (mc B b (a : Int)) 61) (by omega) (by omega)]
    have eq : imax (cmn lo hi (mc B b (a : Int)) 61) (imax 0 (hi + 1 - lo) - cmn lo hi (mc B b (a : Int)) 61) = qv lo hi (mc B b (a : Int)) := by rw [cmn_61 hl hh]; rfl
    rw [eq]
    by_cases z : stn B b = true
    · rw [if_pos z, if_neg (by decide)]
      by_cases z2 : qv lo hi (mc B b (a : Int)) < least
      · rw [if_pos z2, if_pos ⟨z, z2⟩]; rfl
      · rw [if_neg z2, if_neg (fun q => z2 q.2)]; rfl
    · rw [if_neg z, if_pos rfl, if_neg (fun q => z q.1)]; rfl
  · have l := @cmn_le lo hi (mc B b (a : Int)) g
    rw [hs_X12_ask_h102]
    unfold f_X12_ask_b102 f_X12_ask_b138 f_X12_ask_b139
    simp only [gM, obs, h.1.at 113 27 122 rfl, m_turns h ha hb]
    rw [if_neg (by omega), alFt (by omega) (by omega), obs, Int.toNat_natCast, hf g (by omega), w32_in (z := (g : Int) + 1) (by omega) (by omega), w32_in (by omega) (by omega), w32_in (by omega) (by omega)]
    rw [cmn_s] at ih
    by_cases z : lo ≤ g ∧ g ≤ hi
    · rw [if_pos z, if_neg (by decide)]
      by_cases z2 : mc B b (a : Int) < g
      · rw [if_pos z2, if_neg (by decide)]
        rw [if_pos ⟨z, z2⟩] at ih
        exact ih
      · rw [if_neg z2, if_pos rfl]
        rw [if_neg (fun q => z2 q.2)] at ih
        exact ih
    · rw [if_neg z, if_pos rfl]
      rw [if_neg (fun q => z q.1)] at ih
      exact ih
theorem m_ask_h {w : Int} (h : MH τ B) (hf : ∀ g : Nat, g ≤ 60 → τ 122 g = if lo ≤ g ∧ g ≤ hi then 1 else 0) (h28 : τ 113 28 = imax 0 (hi + 1 - lo)) (hl : 0 ≤ lo) (hh : hi ≤ 60) : f_X12_ask_h56 FU 113 w (-1) 62 0 τ = some (if imax 0 (hi + 1 - lo) < 2 ∨ aS B = 0 then (-1, upm τ 113 0 8) else (if w = 0 then (((bq B lo hi (nP B * nP B)).1.toNat / nP B : Nat) : Int) else (((bq B lo hi (nP B * nP B)).1.toNat % nP B : Nat) : Int), τ)) := by
  have hB := h.2.2.nP_le
  have h100 : nP B * nP B ≤ 100 := Nat.mul_le_mul hB.1 hB.1
  refine up_all (Q := fun n k => f_X12_ask_h56 n 113 w (bq B lo hi k).1 (bq B lo hi k).2 k τ = some (if imax 0 (hi + 1 - lo) < 2 ∨ aS B = 0 then (-1, upm τ 113 0 8) else (if w = 0 then (((bq B lo hi (nP B * nP B)).1.toNat / nP B : Nat) : Int) else (((bq B lo hi (nP B * nP B)).1.toNat % nP B : Nat) : Int), τ))) (nP B * nP B) (fun n => ?_) (fun n k hk ih => ?_) (by unfold FU; omega)
  · rw [hs_X12_ask_h56]
    unfold f_X12_ask_b56 f_X12_ask_b214
    simp only [gM, obs, h.1.at 113 20 118 rfl, m_c0 h, h28, s_refuse]
    rw [← Int.natCast_mul, w32_in (by omega) (by omega), if_pos (by omega)]
    by_cases z : imax 0 (hi + 1 - lo) < 2
    · rw [if_pos z, if_pos (.inl z)]
    · rw [if_neg z]
      rcases @bq_end B lo hi hl hh with ⟨b1, b2⟩ | ⟨b1, b, b2, b3⟩
      · rw [b2, if_neg (by omega), if_pos (.inr b1)]
      · have hn : 0 < nP B := by
          apply Classical.byContradiction
          intro q
          rw [show nP B = 0 by omega] at b2
          omega
        have d1 : b / nP B ≤ b := Nat.div_le_self _ _
        have d2 : b % nP B < nP B := Nat.mod_lt _ hn
        rw [b3, if_pos (show (0 : Int) ≤ b by omega), if_neg (show ¬ (imax 0 (hi + 1 - lo) < 2 ∨ aS B = 0) from fun q => q.elim z b1), Int.toNat_natCast]
        simp only [nzp (show ¬ ((nP B : Nat) : Int) = 0 by omega), obs]
        rw [Int.tdiv_eq_ediv_of_nonneg (by omega), Int.tmod_eq_emod_of_nonneg (by omega), ← Int.natCast_ediv, ← Int.natCast_emod, w32_nat (Nat.le_trans d1 (by omega)), w32_nat (by omega)]
        split <;> rfl
  · have hn : 0 < nP B := by
      apply Classical.byContradiction
      intro q
      rw [show nP B = 0 by omega] at hk
      omega
    have d1 : k / nP B < nP B := (Nat.div_lt_iff_lt_mul hn).mpr hk
    have d2 : k % nP B < nP B := Nat.mod_lt _ hn
    rw [hs_X12_ask_h56]
    unfold f_X12_ask_b56
    simp only [gM, obs, h.1.at 113 20 118 rfl, m_c0 h]
    rw [← Int.natCast_mul, w32_in (z := ((nP B * nP B : Nat) : Int)) (by omega) (by omega), if_neg (by omega), nzp (by omega), obs, obs, Int.tdiv_eq_ediv_of_nonneg (by omega), Int.tmod_eq_emod_of_nonneg (by omega), ← Int.natCast_ediv, ← Int.natCast_emod, w32_nat (Nat.le_trans (Nat.le_of_lt d1) (by omega)), w32_nat (M := k % nP B) (by omega), m_ask_i h (by omega) (by omega) hf h28 hl hh (by omega)]
    rw [bq_s] at ih
    by_cases z : stn B (k % nP B) = true ∧ qv lo hi (mc B (k % nP B) ((k / nP B : Nat) : Int)) < (bq B lo hi k).2
    · rw [if_pos z]
      rw [if_pos z] at ih
      exact ih
    · rw [if_neg z]
      rw [if_neg z] at ih
      exact ih
theorem x_ask_e {t n w : Int} : f_X11_ask 0 t n w σ = f_X11_ask_b17 0 w (if w = 0 ∨ w = 1 then 1 else 0) n t 0 σ := by
  unfold f_X11_ask f_X11_ask_b0 f_X11_ask_b12
  rw [if_pos oX]
  grind
theorem ok_ask {t n w : Int} (h : Rel σ) (hn : R32 n) : Ok (f_X11_ask 0 t n w) (f_X12_ask 113 t n w) σ := by
  have hx := h.xh
  obtain ⟨σ', g1, g2, g3⟩ := x_fitsWhy (t := t) (c := if w = 0 ∨ w = 1 then 1 else 0) h hn
  have ec : (¬ (if w = 0 ∨ w = 1 then (1 : Int) else 0) = 0) ↔ (w = 0 ∨ w = 1) := by grind
  rw [yFit_cg ec] at g1 g3
  by_cases hy : yFit σ t n (w = 0 ∨ w = 1) = 0
  · obtain ⟨o1, o2, o3⟩ := g3 hy
    obtain ⟨hTh, hw, hFt⟩ := yFit0 hy
    obtain ⟨a, k, rfl, rfl, ha, hk, hl⟩ := yTh0 hTh
    rw [Int.toNat_natCast] at o1 o2 o3
    have lb := flo_le hx.2.2 o1
    have hT : yFit σ a k True = 0 := by unfold yFit; rw [if_pos hTh, if_pos trivial]; exact hFt
    have mpart : ∀ τ, MH τ (σ 118) → (∀ b, 113 ≤ b → τ b = σ b) → ∃ τ', f_X12_ask 113 a k w τ = f_X12_ask_h56 FU 113 w (-1) 62 0 τ' ∧ Fr [11, 20] τ τ' ∧ τ' 113 0 = 0 ∧ MH τ' (σ 118) ∧ (∀ g : Nat, g ≤ 60 → τ' 122 g = if flo (σ 118) (rw3 σ a) k ≤ g ∧ g ≤ fhi (σ 118) (rw3 σ a) k then 1 else 0) ∧ τ' 113 28 = imax 0 (fhi (σ 118) (rw3 σ a) k + 1 - flo (σ 118) (rw3 σ a) k) := by
      intro τ ht hg
      have h3 := ht.r1.r0 (v := 0)
      have er : rw3 (upm (upm τ 113 1 0) 113 0 0) a = rw3 σ a := rw3_cg (by rw [upm_ne (by decide), upm_ne (by decide)]; exact hg 116 (by omega))
      obtain ⟨τ', k1, k2, k3, k4, k5, k6⟩ := m_laysFits (n := k) h3 ha (by omega) (by rw [er]; exact o1)
      rw [er] at k4 k5
      refine ⟨τ', ?_, Fr.trans fr_rf (k2.mono (by decide)), by rw [k6, upm_same], h3.fr k2 k3, fun g hg => k4 g hg, by rw [k5, fcn61 lb.1.1 lb.2.2]⟩
      unfold f_X12_ask f_X12_ask_b0
      simp only [oM, if_true, pM, gM, obs, m_pre (w := w) ht hg hn, hT, upm_same, Int.le_refl, s_isIn]
      rw [if_pos (show 0 ≤ w ∧ w ≤ 1 by omega), if_neg (by decide), k1, obs]
    have hR := g2.ref (by decide) h.1
    have hx' := hx.fr0 g2
    have xpre : f_X11_ask 0 a k w σ = f_X11_ask_b52 0 w (if imax 0 (fhi (σ 118) (rw3 σ a) k + 1 - flo (σ 118) (rw3 σ a) k) < 2 ∨ aS (σ 118) = 0 then 8 else 0) σ' := by
      rw [x_ask_e]
      unfold f_X11_ask_b17 f_X11_ask_b48
      simp only [g1, obs, hy, if_true, gX, hR.at 0 12 53 rfl, hR.at 0 3 5 rfl, w_g, hx'.2.1.1.2.1]
      rw [x_count o2 o3 lb.1 lb.2, obs]
      by_cases z : imax 0 (fhi (σ 118) (rw3 σ a) k + 1 - flo (σ 118) (rw3 σ a) k) < 2
      · rw [if_pos z, if_pos (.inl z)]
      · rw [if_neg z]
        by_cases z2 : aS (σ 118) = 0
        · rw [if_pos (by omega), if_pos (.inr z2)]
        · rw [if_neg (by omega), if_neg (fun q => q.elim z z2)]
    by_cases hc : imax 0 (fhi (σ 118) (rw3 σ a) k + 1 - flo (σ 118) (rw3 σ a) k) < 2 ∨ aS (σ 118) = 0
    · refine Ok.mk (r := -1) (y := 8) h ⟨upm σ' 0 19 8, ?_, g2.x01, upm_same⟩ fun τ ht hg => ?_
      · rw [xpre, if_pos hc]
        unfold f_X11_ask_b52
        rw [s_refn (by decide), obs]
        rfl
      · obtain ⟨τ', k1, k2, k3, k4, k5, k6⟩ := mpart τ ht hg
        refine ⟨upm τ' 113 0 8, ?_, k2.then (by decide), upm_same⟩
        rw [k1, m_ask_h k4 k5 k6 lb.1.1 lb.2.2, if_pos hc]
    · rcases @bq_end (σ 118) _ _ lb.1.1 lb.2.2 with ⟨b1, b2⟩ | ⟨b1, b, b2, b3⟩
      · exact absurd (.inr b1) hc
      · obtain ⟨σ2, u1, u2, u3, u4, u5⟩ := x_findQuestion (σ := upm σ' 0 19 0) (hx'.st) (by rw [upm_o (by omega)]; exact o2) (by rw [upm_o (by omega)]; exact o3) lb.1 lb.2
        obtain ⟨v1, v2⟩ := u5 b b3
        refine Ok.mk (r := if w = 0 then ((b / nP (σ 118) : Nat) : Int) else ((b % nP (σ 118) : Nat) : Int)) (y := 0) h ⟨σ2, ?_, (g2.x01 (y := 0)).trans (u2.mono (by decide)), by rw [u2.at (a := 0) (j := 19) rfl (by decide), upm_same]⟩ fun τ ht hg => ?_
        · rw [xpre, if_neg hc]
          unfold f_X11_ask_b52
          simp only [s_ref0, obs, if_true, gX, (hR.up (v := 0) (show isRf 0 19 = false from rfl)).at 0 12 53 rfl, (hR.up (v := 0) (show isRf 0 19 = false from rfl)).at 0 3 5 rfl, u1, (u2.ref (by decide) (hR.up (v := 0) (show isRf 0 19 = false from rfl))).at 0 12 53 rfl, gG, v1, v2]
          split <;> rfl
        · obtain ⟨τ', k1, k2, k3, k4, k5, k6⟩ := mpart τ ht hg
          refine ⟨τ', ?_, k2, k3⟩
          rw [k1, m_ask_h k4 k5 k6 lb.1.1 lb.2.2, if_neg hc, b3, Int.toNat_natCast]
  · have y5 := @yFit_pos σ t n (w = 0 ∨ w = 1) _
    refine Ok.mk (r := -1) (y := yFit σ t n (w = 0 ∨ w = 1)) h ⟨upm σ' 0 19 _, ?_, g2.x01, upm_same⟩ fun τ ht hg => MO.mk ?_
    · rw [x_ask_e]
      unfold f_X11_ask_b17 f_X11_ask_b52
      simp only [g1, obs, hy, if_false, s_refn hy]
      rfl
    · unfold f_X12_ask f_X12_ask_b0
      simp only [oM, if_true, pM, gM, obs, m_pre (w := w) ht hg hn, upm_same, s_isIn, s_refuse]
      have y6 := @yFit_pos σ t n True _
      by_cases hT : yFit σ t n True = 0
      · have hw : ¬ (w = 0 ∨ w = 1) := fun q => hy (by rw [yFit_cg (show (w = 0 ∨ w = 1) ↔ True from ⟨fun _ => trivial, fun _ => q⟩)]; exact hT)
        have e5 : yFit σ t n (w = 0 ∨ w = 1) = 5 := by
          unfold yFit at hT ⊢
          grind
        rw [if_pos (by omega), if_neg (show ¬ (0 ≤ w ∧ w ≤ 1) by omega), if_pos rfl, e5, hT, upm_upm]
      · rw [if_neg (by omega)]
        have e5 : yFit σ t n True = yFit σ t n (w = 0 ∨ w = 1) := by
          have := @yFt_c (σ 118) (rw3 σ t) n.toNat
          unfold yFit at hT hy ⊢
          grind
        rw [e5]
end
