/-! ===== years, trials, crows hatched: the court's wall ===== -/
section
variable {σ σ' : Mem} {a : Nat} {B D : Nat → Int}
theorem BV_sc {i : Nat} {v : Int} (hB : BV B) (hi : i = 4 ∨ i = 5 ∨ i = 6) (hv : R32 v) : BV (up1 B i v) := by
  have hk := hB.nK_le
  obtain ⟨b0, b1, b2, b3, b4, b5⟩ := hB
  refine ⟨by rw [up1_ne (by omega)]; exact b0, by rw [up1_ne (by omega)]; exact b1, ⟨by rw [up1_ne (by omega)]; exact b2.1, ?_⟩, by rw [up1_ne (by omega)]; exact b3, fun q hq => ?_, fun w hw => ?_⟩
  · by_cases q : i = 5
    · subst q; rw [up1_eq]; exact hv
    · rw [up1_ne (by omega)]; exact b2.2
  · rw [up1_ne (by omega), up1_ne (by omega), up1_ne (by omega), up1_ne (by omega), up1_ne (by omega)]
    exact b4 q hq
  · rw [nK_up (by omega)] at hw
    rw [up1_ne (j := 51 + w) (by omega), up1_ne (j := 47 + w) (by omega), up1_ne (j := 0) (by omega)]
    obtain ⟨c1, c2⟩ := b5 w hw
    refine ⟨c1, ?_⟩
    rcases c2 with c2 | ⟨c2, c3, c4⟩
    · exact .inl c2
    · refine .inr ⟨c2, c3, ?_⟩
      rw [stn_up (by omega)]
      exact c4
theorem BV_yr {v : Int} (hB : BV B) (hv : 0 ≤ v) : BV (up1 B 3 v) := by
  have hk := hB.nK_le
  obtain ⟨b0, b1, b2, b3, b4, b5⟩ := hB
  refine ⟨by rw [up1_ne (by omega)]; exact b0, by rw [up1_ne (by omega)]; exact b1, by rw [up1_ne (by omega), up1_ne (by omega)]; exact b2, by rw [up1_eq]; exact hv, fun q hq => ?_, fun w hw => ?_⟩
  · rw [up1_ne (by omega), up1_ne (by omega), up1_ne (by omega), up1_ne (by omega), up1_ne (by omega)]
    exact b4 q hq
  · rw [nK_up (by omega)] at hw
    rw [up1_ne (j := 51 + w) (by omega), up1_ne (j := 47 + w) (by omega), up1_ne (j := 0) (by omega)]
    obtain ⟨c1, c2⟩ := b5 w hw
    refine ⟨c1, ?_⟩
    rcases c2 with c2 | ⟨c2, c3, c4⟩
    · exact .inl c2
    · refine .inr ⟨c2, c3, ?_⟩
      rw [stn_up (by omega)]
      exact c4
theorem BV_od {v : Int} (hB : BV B) (hv : 0 ≤ v ∧ v ≤ 16) : BV (up1 B 2 v) := by
  have hk := hB.nK_le
  obtain ⟨b0, b1, b2, b3, b4, b5⟩ := hB
  refine ⟨by rw [up1_ne (by omega)]; exact b0, by rw [up1_ne (by omega)]; exact b1, by rw [up1_eq, up1_ne (by omega)]; exact ⟨hv, b2.2⟩, by rw [up1_ne (by omega)]; exact b3, fun q hq => ?_, fun w hw => ?_⟩
  · rw [up1_ne (by omega), up1_ne (by omega), up1_ne (by omega), up1_ne (by omega), up1_ne (by omega)]
    exact b4 q hq
  · rw [nK_up (by omega)] at hw
    rw [up1_ne (j := 51 + w) (by omega), up1_ne (j := 47 + w) (by omega), up1_ne (j := 0) (by omega)]
    obtain ⟨c1, c2⟩ := b5 w hw
    refine ⟨c1, ?_⟩
    rcases c2 with c2 | ⟨c2, c3, c4⟩
    · exact .inl c2
    · refine .inr ⟨c2, c3, ?_⟩
      rw [stn_up (by omega)]
      exact c4
/-- lenient, moss, strength of a place -/
theorem BV_ar {k q : Nat} {v : Int} (hB : BV B) (hk : 1 ≤ k ∧ k ≤ 3) (hq : q < 10) (hv : 0 ≤ v ∧ v ≤ 30) (h9 : 2 ≤ k → v ≤ 9) (h1 : k = 3 → stn B q = true → 1 ≤ v) : BV (up1 B (7 + 10 * k + q) v) := by
  have hx := hB.nK_le
  obtain ⟨b0, b1, b2, b3, b4, b5⟩ := hB
  refine ⟨by rw [up1_ne (by omega)]; exact b0, by rw [up1_ne (by omega)]; exact b1, by rw [up1_ne (by omega), up1_ne (by omega)]; exact b2, by rw [up1_ne (by omega)]; exact b3, fun p hp => ?_, fun w hw => ?_⟩
  · obtain ⟨c1, c2, c3, c4, c5, c6⟩ := b4 p hp
    rw [up1_ne (j := 7 + p) (by omega), up1_ne (j := 0) (by omega)]
    unfold stn at h1
    have h1' : k = 3 → B (7 + q) = 1 → 1 ≤ v := fun h r => h1 h (by simpa using r)
    unfold up1
    refine ⟨c1, ?_, ?_, ?_, ?_, c6⟩
    · split
      · exact hv
      · exact c2
    · split
      · exact ⟨hv.1, h9 (by omega)⟩
      · exact c3
    · split
      · exact ⟨hv.1, h9 (by omega)⟩
      · exact c4
    · intro r
      split
      · next e => exact h1' (by omega) (by rw [← r]; congr 1; omega)
      · exact c5 r
  · rw [nK_up (by omega)] at hw
    rw [up1_ne (j := 51 + w) (by omega), up1_ne (j := 47 + w) (by omega), up1_ne (j := 0) (by omega)]
    obtain ⟨c1, c2⟩ := b5 w hw
    refine ⟨c1, ?_⟩
    rcases c2 with c2 | ⟨c2, c3, c4⟩
    · exact .inl c2
    · refine .inr ⟨c2, c3, ?_⟩
      rw [stn_up (by omega)]
      exact c4
/-! years -/
def agP (B : Nat → Int) (y : Int) (i : Nat) : Nat → Int := fun j => if 27 ≤ j ∧ j < 27 + i ∧ stn B (j - 27) = true then mi 9 (B j + y) else B j
theorem agP_0 {y : Int} : agP B y 0 = B := by funext j; unfold agP; rw [if_neg (by omega)]
theorem agP_n {y : Int} {i : Nat} (h : stn B i = false) : agP B y (i + 1) = agP B y i := by
  funext j
  unfold agP
  by_cases q : 27 ≤ j ∧ j < 27 + i ∧ stn B (j - 27) = true
  · rw [if_pos q, if_pos ⟨q.1, by omega, q.2.2⟩]
  · rw [if_neg q, if_neg]
    rintro ⟨h1, h2, h3⟩
    by_cases r : j = 27 + i
    · subst r
      rw [show 27 + i - 27 = i by omega, h] at h3
      cases h3
    · exact q ⟨h1, by omega, h3⟩
theorem agP_s {y : Int} {i : Nat} (h : stn B i = true) : agP B y (i + 1) = up1 (agP B y i) (27 + i) (mi 9 (B (27 + i) + y)) := by
  funext j
  unfold agP up1
  by_cases r : j = 27 + i
  · subst r
    rw [if_pos rfl, if_pos ⟨by omega, by omega, by rw [show 27 + i - 27 = i by omega]; exact h⟩]
  · rw [if_neg r]
    dsimp only
    by_cases q : 27 ≤ j ∧ j < 27 + i ∧ stn B (j - 27) = true
    · rw [if_pos q, if_pos ⟨q.1, by omega, q.2.2⟩]
    · rw [if_neg q, if_neg]
      rintro ⟨h1, h2, h3⟩
      exact q ⟨h1, by omega, h3⟩
theorem agP_o {y : Int} {i j : Nat} (h : j < 27 ∨ 27 + i ≤ j) : agP B y i j = B j := by unfold agP; rw [if_neg (by omega)]
theorem stn_agP {y : Int} {i p : Nat} (hp : p < 10) : stn (agP B y i) p = stn B p := by unfold stn; rw [agP_o (by omega)]
theorem BV_agP {y : Int} {i : Nat} (hB : BV B) (hy : 0 ≤ y) (hi : i ≤ 10) : BV (agP B y i) := by
  induction i with
  | zero => rw [agP_0]; exact hB
  | succ i ih =>
    by_cases q : stn B i = true
    · rw [agP_s q]
      have c := (hB.2.2.2.2.1 i (by omega)).2.2.1
      have m : 0 ≤ mi 9 (B (27 + i) + y) ∧ mi 9 (B (27 + i) + y) ≤ 9 := by unfold mi; split <;> omega
      exact BV_ar (k := 2) (ih (by omega)) (by omega) (by omega) ⟨m.1, by omega⟩ (fun _ => m.2) (by omega)
    · rw [agP_n (by simpa using q)]
      exact ih (by omega)
theorem agP_N {n : Nat} (hB : BV B) : agP (up1 B 3 (B 3 + n)) n (nP B) = ageN B n := by
  funext j
  have hn := hB.nP_le
  unfold agP ageN
  by_cases r : 27 ≤ j ∧ j < 27 + nP B
  · obtain ⟨c1, c2, c3, c4⟩ := hB.2.2.2.2.1 (j - 27) (by omega)
    rw [show 27 + (j - 27) = j by omega] at c3
    rw [if_pos r, stn_up (by omega), up1_ne (by omega)]
    unfold stn
    rw [show j - 20 = 7 + (j - 27) by omega]
    rcases c1 with q | q
    · rw [q]
      simp
      unfold mi
      split <;> omega
    · rw [q]
      simp [r]
  · rw [if_neg (by omega), if_neg r]
    rfl
theorem x_passYears_h {y : Int} (hW : wl a) (hB : BV B) (hR : Ref σ) (hy : 0 ≤ y ∧ y ≤ 99) (h : WR σ a B D) : ∃ σ', f_X9_passYears_h26 FU a y 0 σ = some (1, σ') ∧ WR σ' a (agP B y (nP B)) D ∧ Fp (wS a) σ σ' := by
  have hn := hB.nP_le
  have := up_all (Q := fun n i => ∀ τ, WR τ a (agP B y i) D → Fp (wS a) σ τ → ∃ σ', f_X9_passYears_h26 n a y (i : Int) τ = some (1, σ') ∧ WR σ' a (agP B y (nP B)) D ∧ Fp (wS a) σ σ') (nP B) (fun n => ?_) (fun n i hi ih => ?_) (by unfold FU; omega)
  · exact this σ (by rw [agP_0]; exact h) Fp.refl
  · intro τ h1 h2
    rw [hs_X9_passYears_h26]
    unfold f_X9_passYears_b26
    simp only [gW hW, obs, h1.1.1, agP_o (B := B) (y := y) (i := nP B) (j := 0) (by omega)]
    rw [if_pos (by omega)]
    exact ⟨τ, rfl, h1, h2⟩
  · intro τ h1 h2
    have hR' := h2.refW hR
    have hB' := @BV_agP B y i hB hy.1 (by omega)
    have hn' : nP (agP B y i) = nP B := by unfold nP; rw [agP_o (by omega)]
    rw [hs_X9_passYears_h26]
    unfold f_X9_passYears_b26 f_X9_passYears_b62
    simp only [gW hW, obs, h1.1.1, agP_o (B := B) (y := y) (i := i) (j := 0) (by omega), x_isStone' hW h1 hB' (show i < nP (agP B y i) by omega), stn_agP (show i < 10 by omega), (rW hR' hW).2.1]
    rw [if_neg (by omega), w32_in (z := (i : Int) + 1) (by omega) (by omega), alW2 hW (by omega) (by omega)]
    simp only [obs, Int.toNat_natCast, stW2 (σ := τ) hW (show (0 : Int) ≤ (i : Int) by omega) (show (i : Int) < 10 by omega)]
    by_cases q : stn B i = true
    · simp only [q, if_true, Int.one_ne_zero, if_false]
      have c := (hB.2.2.2.2.1 i (by omega)).2.2.1
      have e : τ (a + 2) i = B (27 + i) := by
        rw [((h1.2.1 i (by omega)).1 (by rw [stn_agP (by omega)]; exact q)).2.1, agP_o (by omega)]
      rw [e, w32_in (by omega) (by omega), show imin 9 (B (27 + i) + y) = mi 9 (B (27 + i) + y) from rfl]
      refine ih _ ?_ (h2.then (wS_k hW (by omega) (by omega)))
      rw [agP_s q]
      exact WR.arr (k := 2) h1 hB' (by omega) (by omega) (by rw [stn_agP (by omega)]; exact q)
    · simp only [q, if_true, if_false, Bool.false_eq_true]
      refine ih τ ?_ h2
      rw [agP_n (by simpa using q)]
      exact h1
theorem x_passYears {n : Nat} (hW : wl a) (hR : Ref σ) (h : WR σ a B D) (hB : BV B) (hn : n ≤ 99) (h3 : B 3 ≤ 9999) : ∃ σ', f_X9_passYears a n σ = some (if B 3 + n ≤ 9999 then 1 else 0, σ') ∧ WR σ' a (if B 3 + n ≤ 9999 then ageN B n else B) D ∧ Fp (wS a) σ σ' := by
  have b3 := hB.2.2.2.1
  unfold f_X9_passYears f_X9_passYears_b0
  simp only [oW hW, if_true, gW hW, pW hW, obs, h.1.2.2.2.2.1]
  rw [w32_in (by omega) (by omega)]
  by_cases q : B 3 + n ≤ 9999
  · simp only [q, if_true]
    have f1 : Fp (wS a) σ (upm σ a 12 (B 3 + n)) := Fp.up (wS_a hW (nrW hW).2.2.2.2.1)
    have h1 : WR (upm σ a 12 (B 3 + n)) a (up1 B 3 (B 3 + n)) D := h.scal (k := 3) hB (by omega)
    obtain ⟨σ', e1, e2, e3⟩ := x_passYears_h (y := n) hW (BV_yr hB (by omega)) (f1.refW hR) (by omega) h1
    refine ⟨σ', e1, ?_, f1.trans e3⟩
    rw [nP_up (by omega), agP_N hB] at e2
    exact e2
  · simp only [q, if_false]
    exact ⟨σ, rfl, h, Fp.refl⟩
/-! trials -/
def wk1 (B : Nat → Int) (p : Nat) : Nat → Int := if B (37 + p) - 1 ≤ 0 then fallB (up1 B (37 + p) (B (37 + p) - 1)) p else up1 B (37 + p) (B (37 + p) - 1)
def wkB (B : Nat → Int) (s : Nat) : Nat → Nat → Int
  | 0 => B
  | i + 1 => if s.testBit i = true then wk1 (wkB B s i) i else wkB B s i
theorem wkB_s {s i : Nat} : wkB B s (i + 1) = if s.testBit i = true then wk1 (wkB B s i) i else wkB B s i := rfl
theorem wk1_o {p j : Nat} (hp : p < 10) (hB : BL B) (h : ¬ j = 7 + p) (h2 : ¬ j = 37 + p) (h3 : j < 47 ∨ 51 ≤ j) : wk1 B p j = B j := by
  have hk := hB.nK_le
  unfold wk1
  split
  · unfold fallB
    rw [if_neg h, nK_up (by omega), if_neg (by omega), up1_ne h2]
  · rw [up1_ne h2]
theorem fall_up {p : Nat} {v : Int} (hp : p < 10) : fallB (up1 B (37 + p) v) p = up1 (fallB B p) (37 + p) v := by
  funext j
  unfold fallB
  rw [nK_up (by omega)]
  by_cases q : j = 37 + p
  · subst q
    rw [if_neg (by omega), if_neg (by omega), up1_eq, up1_eq]
  · rw [up1_ne q, up1_ne q]
theorem BV_wk1 {p : Nat} (hp : p < 10) (hB : BV B) (hs : stn B p = true) : BV (wk1 B p) := by
  obtain ⟨c1, c2, c3, c4, c5, c6⟩ := hB.2.2.2.2.1 p hp
  have hs' : B (7 + p) = 1 := by unfold stn at hs; simpa using hs
  have := c5 hs'
  unfold wk1
  split
  · rw [fall_up hp]
    refine BV_ar (k := 3) (BV_fall hB hp) (by omega) hp (by omega) (by omega) (fun _ r => ?_)
    rw [stn_fall hp] at r
    simp at r
  · exact BV_ar (k := 3) hB (by omega) hp (by omega) (by omega) (by omega)
theorem stn_wk1 {p k : Nat} (hp : p < 10) (hk : k < 10) (hB : BL B) (h : ¬ k = p) : stn (wk1 B p) k = stn B k := by
  unfold stn
  rw [wk1_o hp hB (by omega) (by omega) (by omega)]
theorem wkB_all {s i : Nat} (hB : BV B) (hi : i ≤ 10) (hs : ∀ k, k < i → s.testBit k = true → stn B k = true) : BV (wkB B s i) ∧ (∀ j, j < 7 ∨ 51 ≤ j → wkB B s i j = B j) ∧ (∀ k, i ≤ k → k < 10 → stn (wkB B s i) k = stn B k) := by
  induction i with
  | zero => exact ⟨hB, fun _ _ => rfl, fun _ _ _ => rfl⟩
  | succ i ih =>
    obtain ⟨h1, h2, h3⟩ := ih (by omega) (fun k hk => hs k (by omega))
    rw [wkB_s]
    by_cases q : s.testBit i = true
    · rw [if_pos q]
      refine ⟨BV_wk1 (by omega) h1 ?_, fun j hj => ?_, fun k h4 h5 => ?_⟩
      · rw [h3 i (by omega) (by omega)]
        exact hs i (by omega) q
      · rw [wk1_o (by omega) h1.bl (by omega) (by omega) (by omega), h2 j hj]
      · rw [stn_wk1 (by omega) h5 h1.bl (by omega), h3 k (by omega) h5]
    · rw [if_neg q]
      exact ⟨h1, h2, fun k h4 h5 => h3 k (by omega) h5⟩
theorem x_weaken {s : Nat} (hW : wl a) (hR : Ref σ) (h : WR σ a B D) (hB : BV B) (hl : s < 1024) (hs : ∀ k, s.testBit k = true → stn B k = true) : ∃ σ', f_X9_weaken a s σ = some σ' ∧ WR σ' a (wkB B s (nP B)) D ∧ Fp (wS a) σ σ' := by
  have hn := hB.nP_le
  unfold f_X9_weaken f_X9_weaken_b0
  rw [if_pos (oW hW)]
  have := up_all (Q := fun n i => ∀ τ, WR τ a (wkB B s i) D → Fp (wS a) σ τ → ∃ σ', f_X9_weaken_h2 n a s (i : Int) τ = some σ' ∧ WR σ' a (wkB B s (nP B)) D ∧ Fp (wS a) σ σ') (nP B) (fun n => ?_) (fun n i hi ih => ?_) (by unfold FU; omega)
  · exact this σ h Fp.refl
  · intro τ h1 h2
    have w := wkB_all (s := s) hB hn.1 (fun k _ => hs k)
    rw [hs_X9_weaken_h2]
    unfold f_X9_weaken_b2
    simp only [gW hW, obs, h1.1.1, w.2.1 0 (by omega)]
    rw [if_pos (by omega)]
    exact ⟨τ, rfl, h1, h2⟩
  · intro τ h1 h2
    obtain ⟨w1, w2, w3⟩ := wkB_all (s := s) (i := i) hB (by omega) (fun k _ => hs k)
    have hR' := h2.refW hR
    have hn' : nP (wkB B s i) = nP B := by unfold nP; rw [w2 0 (by omega)]
    rw [hs_X9_weaken_h2]
    unfold f_X9_weaken_b2 f_X9_weaken_b43
    simp only [gW hW, obs, h1.1.1, w2 0 (by omega), bit_at (show i < 32 by omega) (show s < 2147483648 by omega), (rW hR' hW).2.2.1]
    rw [if_neg (by omega), w32_in (z := (i : Int) + 1) (by omega) (by omega)]
    rw [wkB_s] at ih
    by_cases q : s.testBit i = true
    · simp only [q, if_true] at ih ⊢
      have st : stn (wkB B s i) i = true := by rw [w3 i (by omega) (by omega)]; exact hs i q
      have e := ((h1.2.1 i (by omega)).1 st).2.2
      have c := w1.2.2.2.2.1 i (by omega)
      rw [alW3 hW (by omega) (by omega)]
      simp only [obs, Int.toNat_natCast, e]
      rw [w32_in (z := wkB B s i (37 + i) - 1) (by omega) (by omega), stW3 hW (by omega) (by omega)]
      simp only [obs, Int.toNat_natCast]
      have f1 := h2.then (i := i) (v := wkB B s i (37 + i) - 1) (wS_k hW (k := 3) (by omega) (by omega))
      have g1 := WR.arr (k := 3) (v := wkB B s i (37 + i) - 1) h1 w1 (by omega) (show i < nP (wkB B s i) by omega) st
      rw [(rW (f1.refW hR) hW).2.2.1, alW3 hW (by omega) (by omega)]
      simp only [obs, Int.toNat_natCast, upm_same]
      by_cases r : wkB B s i (37 + i) - 1 ≤ 0
      · rw [if_neg (by omega)]
        have hbl : BL (up1 (wkB B s i) (7 + 10 * 3 + i) (wkB B s i (37 + i) - 1)) := by
          have := w1.bl
          unfold BL at this ⊢
          rw [up1_ne (by omega), up1_ne (by omega)]
          exact this
        obtain ⟨ρ, g2, g3, g4⟩ := x_makeGap hW (f1.refW hR) g1 hbl (show i < 10 by omega)
        rw [g2]
        simp only [obs]
        refine ih ρ ?_ (f1.trans g4)
        unfold wk1
        rw [if_pos r]
        exact g3
      · rw [if_pos (by omega)]
        refine ih _ ?_ f1
        unfold wk1
        rw [if_neg r]
        exact g1
    · simp only [q, if_false, Int.zero_ne_one, Bool.false_eq_true] at ih ⊢
      exact ih τ h1 h2
def trS (B : Nat → Int) (g : Int) (p : Nat) : Nat := if cdm B g p = true then tS B g p else sub (aS B) (tS B g p)
def trC (B : Nat → Int) (g : Int) (p : Nat) : Int := if cdm B g p = true then 1 else 0
def tr1 (B : Nat → Int) (g : Int) (p : Nat) : Nat → Int := up1 (up1 B 4 (w32 (B 4 + 1))) 5 (w32 (B 5 + trC B g p))
def trB (B : Nat → Int) (g : Int) (p : Nat) (d : Int) : Nat → Int := if trC B g p = d then tr1 B g p else wkB (up1 (tr1 B g p) 6 (w32 (B 6 + 1))) (trS B g p) (nP B)
theorem trS_lt {g : Int} {p : Nat} (hB : BV B) : trS B g p < 1024 := by
  unfold trS
  split
  · exact tS_lt hB
  · exact sub_lt (n := 10) (aS_lt hB)
theorem trS_st {g : Int} {p k : Nat} (h : (trS B g p).testBit k = true) : stn B k = true := by
  unfold trS at h
  split at h
  · unfold tS at h
    rw [setOf_bit] at h
    simp [tB] at h
    exact h.2.1
  · unfold aS at h
    rw [sub_bit, setOf_bit] at h
    simp at h
    exact h.1.2
theorem up1_id {i : Nat} : up1 B i (B i) = B := by
  funext j
  unfold up1
  split
  · next e => rw [e]
  · rfl
theorem tr1_o {g : Int} {p j : Nat} (h : ¬ j = 4) (h2 : ¬ j = 5) : tr1 B g p j = B j := by unfold tr1; rw [up1_ne h2, up1_ne h]
theorem BV_tr1 {g : Int} {p : Nat} (hB : BV B) : BV (tr1 B g p) := BV_sc (BV_sc hB (.inl rfl) (w32_R _)) (.inr (.inl rfl)) (w32_R _)
theorem trB_all {g d : Int} {p : Nat} (hB : BV B) : BV (trB B g p d) ∧ (∀ j, j < 4 ∨ 55 ≤ j → trB B g p d j = B j) ∧ trB B g p d 5 = w32 (B 5 + trC B g p) := by
  have hn := hB.nP_le
  unfold trB
  split
  · exact ⟨BV_tr1 hB, fun j hj => tr1_o (by omega) (by omega), by unfold tr1; rw [up1_eq]⟩
  · have := wkB_all (s := trS B g p) (i := nP B) (BV_sc (i := 6) (v := w32 (B 6 + 1)) (BV_tr1 (g := g) (p := p) hB) (.inr (.inr rfl)) (w32_R _)) hn.1 (fun k hk h => by
      rw [stn_up (by omega)]
      unfold stn
      rw [tr1_o (by omega) (by omega)]
      exact trS_st h)
    refine ⟨this.1, fun j hj => ?_, ?_⟩
    · rw [this.2.1 j (by omega), up1_ne (by omega), tr1_o (by omega) (by omega)]
    · rw [this.2.1 5 (by omega), up1_ne (by omega)]
      unfold tr1
      rw [up1_eq]
theorem x_holdTrial {g d : Int} {p : Nat} (hW : wl a) (hR : Ref σ) (h : WR σ a B D) (hB : BV B) (hp : p < nP B) : ∃ σ', f_X9_holdTrial a g p d σ = some (trC B g p, σ') ∧ WR σ' a (trB B g p d) D ∧ Fp (wS a) σ σ' := by
  have hn := hB.nP_le
  have hx := nrW hW
  have e0 : f_X9_holdTrial a g p d σ = f_X9_holdTrial_b32 a d (tS B g p : Nat) (trC B g p) σ := by
    unfold f_X9_holdTrial f_X9_holdTrial_b0 f_X9_holdTrial_b31
    simp only [oW hW, if_true, obs, x_turningFrom hW hR h hB (g := g) (q := (p : Int)) (y := 0) (by omega) (by omega), agd0 hB, x_isStone' hW h hB hp, x_isMost hW h hB (tS_lt hB)]
    unfold trC cdm
    cases stn B p <;> cases more (tS B g p) (aS B) <;> rfl
  have e1 : ∃ τ, f_X9_holdTrial_b32 a d (tS B g p : Nat) (trC B g p) σ = f_X9_holdTrial_b59 a d (tS B g p : Nat) (trC B g p) τ ∧ WR τ a (tr1 B g p) D ∧ Fp (wS a) σ τ := by
    have f1 : Fp (wS a) σ (upm σ a 13 (w32 (B 4 + 1))) := Fp.up (wS_a hW hx.2.2.2.2.2.1)
    have g1 : WR (upm σ a 13 (w32 (B 4 + 1))) a (up1 B 4 (w32 (B 4 + 1))) D := h.scal (k := 4) hB (by omega)
    unfold f_X9_holdTrial_b32
    simp only [gW hW, pW hW, obs, h.1.2.2.2.2.2.1, g1.1.2.2.2.2.2.2.1]
    unfold tr1 trC
    by_cases q : cdm B g p = true
    · simp only [q, if_true, Int.one_ne_zero, if_false]
      refine ⟨_, rfl, ?_, f1.then (wS_a hW hx.2.2.2.2.2.2.1)⟩
      exact g1.scal (k := 5) (BV_sc hB (.inl rfl) (w32_R _)) (by omega)
    · simp only [q, if_true, if_false, Bool.false_eq_true]
      refine ⟨_, rfl, ?_, f1⟩
      rw [Int.add_zero, w32_id hB.2.2.1.2]
      have : up1 (up1 B 4 (w32 (B 4 + 1))) 5 (B 5) = up1 B 4 (w32 (B 4 + 1)) := by
        have := @up1_id (up1 B 4 (w32 (B 4 + 1))) 5
        rw [up1_ne (by omega)] at this
        exact this
      rw [this]
      exact g1
  obtain ⟨τ, e1, h1, f1⟩ := e1
  have hz : bz (trC B g p) = some (trC B g p) := by unfold trC; exact bz01
  rw [e0, e1]
  unfold f_X9_holdTrial_b59 trB
  by_cases q : trC B g p = d
  · rw [if_pos q, if_pos q, hz]
    exact ⟨τ, rfl, h1, f1⟩
  · rw [if_neg q, if_neg q]
    have hB1 := @BV_tr1 B g p hB
    have f2 : Fp (wS a) σ (upm τ a 15 (w32 (B 6 + 1))) := f1.then (wS_a hW hx.2.2.2.2.2.2.2)
    have g2 : WR (upm τ a 15 (w32 (B 6 + 1))) a (up1 (tr1 B g p) 6 (w32 (B 6 + 1))) D := h1.scal (k := 6) hB1 (by omega)
    have hB2 : BV (up1 (tr1 B g p) 6 (w32 (B 6 + 1))) := BV_sc hB1 (.inr (.inr rfl)) (w32_R _)
    obtain ⟨ρ, g3, g4, g5⟩ := x_weaken (s := trS B g p) hW (f2.refW hR) g2 hB2 (trS_lt hB) (fun k hk => by
      have hs := trS_st hk
      have : k < 10 := by
        by_cases hk10 : k < 10
        · exact hk10
        · rw [Nat.testBit_lt_two_pow] at hk
          · cases hk
          · exact Nat.lt_of_lt_of_le (trS_lt hB) (Nat.pow_le_pow_right (n := 2) (i := 10) (j := k) (by omega) (by omega))
      rw [stn_up (by omega)]
      unfold stn
      rw [tr1_o (by omega) (by omega)]
      exact hs)
    have en : nP (up1 (tr1 B g p) 6 (w32 (B 6 + 1))) = nP B := by rw [nP_up (by omega)]; unfold nP; rw [tr1_o (by omega) (by omega)]
    rw [en] at g4
    have e6 : τ a 15 = B 6 := by rw [h1.1.2.2.2.2.2.2.2, tr1_o (by omega) (by omega)]
    have ea : upm τ a 15 (w32 (B 6 + 1)) a 1 = ((aS B : Nat) : Int) := by
      rw [g2.1.2.1, aS_up hB1 (by omega) (by omega)]
      unfold tr1
      rw [aS_up (BV_sc hB (.inl rfl) (w32_R _)) (by omega) (by omega), aS_up hB (by omega) (by omega)]
    simp only [gW hW, pW hW, obs, e6, ea]
    refine ⟨ρ, ?_, g4, f2.trans g5⟩
    unfold f_X9_holdTrial_b95
    unfold trC at q hz ⊢
    unfold trS at g3
    by_cases r : cdm B g p = true
    · simp only [r, if_true, Int.one_ne_zero, if_false] at hz g3 ⊢
      simp only [g3, obs, hz]
    · simp only [r, if_true, if_false, Bool.false_eq_true] at hz g3 ⊢
      rw [iandn (by have := aS_lt hB; omega) (by have := @tS_lt B g p hB; omega)]
      rw [show ((aS B ^^^ (aS B &&& tS B g p) : Nat) : Int) = (sub (aS B) (tS B g p) : Nat) from rfl]
      simp only [g3, obs, hz]
/-! a crow comes -/
def hatB (B : Nat → Int) (k : Nat) (p f : Int) : Nat → Int := fun j => if j = 47 + k then p else if j = 51 + k then f else if j = 1 then (k : Int) + 1 else B j
theorem hatB_o {k j : Nat} {p f : Int} (h1 : ¬ j = 47 + k) (h2 : ¬ j = 51 + k) (h3 : ¬ j = 1) : hatB B k p f j = B j := by unfold hatB; rw [if_neg h1, if_neg h2, if_neg h3]
theorem nK_hat {k : Nat} {p f : Int} : nK (hatB B k p f) = k + 1 := by unfold nK hatB; rw [if_neg (by omega), if_neg (by omega), if_pos rfl]; omega
theorem nP_hat {k : Nat} {p f : Int} : nP (hatB B k p f) = nP B := by unfold nP; rw [hatB_o (by omega) (by omega) (by omega)]
theorem stn_hat {k q : Nat} {p f : Int} (hq : q < 10) : stn (hatB B k p f) q = stn B q := by unfold stn; rw [hatB_o (by omega) (by omega) (by omega)]
theorem aS_hat {k : Nat} {p f : Int} (hB : BV B) : aS (hatB B k p f) = aS B := by
  have hn := hB.nP_le
  unfold aS
  rw [nP_hat]
  exact setOf_cg fun q hq => stn_hat (by omega)
theorem cs_hat {k m : Nat} {p f q : Int} (hk : k < 4) (hm : m ≤ k) : cs (hatB B k p f) q m = cs B q m := by
  induction m with
  | zero => rfl
  | succ m ih => rw [cs_s, cs_s, ih (by omega), hatB_o (by omega) (by omega) (by omega), hatB_o (by omega) (by omega) (by omega)]
theorem BV_hat {p f : Int} (hB : BV B) (hk : nK B < 4) (hf : f = 0 ∨ f = 1) (hp : p = -1 ∨ (0 ≤ p ∧ p < B 0 ∧ stn B p.toNat = true)) : BV (hatB B (nK B) p f) := by
  have hx := hB.nK_le
  have hn := hB.nP_le
  obtain ⟨b0, b1, b2, b3, b4, b5⟩ := hB
  refine ⟨by rw [hatB_o (by omega) (by omega) (by omega)]; exact b0, ?_, by rw [hatB_o (by omega) (by omega) (by omega), hatB_o (by omega) (by omega) (by omega)]; exact b2, by rw [hatB_o (by omega) (by omega) (by omega)]; exact b3, fun q hq => ?_, fun w hw => ?_⟩
  · unfold hatB
    rw [if_neg (by omega), if_neg (by omega), if_pos rfl]
    omega
  · simp (disch := omega) only [hatB_o]
    exact b4 q hq
  · rw [nK_hat] at hw
    rw [hatB_o (j := 0) (by omega) (by omega) (by omega)]
    by_cases r : w = nK B
    · have e1 : hatB B (nK B) p f (51 + w) = f := by unfold hatB; rw [if_neg (by omega), if_pos (by omega)]
      have e2 : hatB B (nK B) p f (47 + w) = p := by unfold hatB; rw [if_pos (by omega)]
      rw [e1, e2]
      refine ⟨hf, ?_⟩
      rcases hp with hp | ⟨h1, h2, h3⟩
      · exact .inl hp
      · exact .inr ⟨h1, h2, by rw [stn_hat (by omega)]; exact h3⟩
    · rw [hatB_o (j := 51 + w) (by omega) (by omega) (by omega), hatB_o (j := 47 + w) (by omega) (by omega) (by omega)]
      obtain ⟨c1, c2⟩ := b5 w (by omega)
      refine ⟨c1, ?_⟩
      rcases c2 with c2 | ⟨c2, c3, c4⟩
      · exact .inl c2
      · exact .inr ⟨c2, c3, by rw [stn_hat (by omega)]; exact c4⟩
theorem b1_bit {f : Int} (h : f = 0 ∨ f = 1) : b1 f = f := by
  rcases h with rfl | rfl <;> decide +kernel
theorem x_addCrow {p : Nat} {v d f : Int} (hW : wl a) (hR : Ref σ) (h : WR σ a B D) (hB : BV B) (hk : nK B < 4) (hp : p < nP B) (hf : f = 0 ∨ f = 1) (hv : Nm v d) : ∃ σ', f_X9_addCrow a v p f σ = some σ' ∧ WR σ' a (hatB B (nK B) p f) (up1 D (10 + nK B) d) ∧ Fp (wS a) σ σ' := by
  have hx := hB.nK_le
  have hn := hB.nP_le
  have hr := nrW hW
  have f1 : Fp (wS a) σ (upm σ (a + 8) (nK B) v) := Fp.up (wS_k hW (by omega) (by omega))
  have f2 : Fp (wS a) σ (upm (upm σ (a + 8) (nK B) v) (a + 7) (nK B) f) := f1.then (wS_k hW (by omega) (by omega))
  have f3 : Fp (wS a) σ (upm (upm (upm σ (a + 8) (nK B) v) (a + 7) (nK B) f) (a + 6) (nK B) (-1)) := f2.then (wS_k hW (by omega) (by omega))
  have f4 : Fp (wS a) σ (upm (upm (upm (upm σ (a + 8) (nK B) v) (a + 7) (nK B) f) (a + 6) (nK B) (-1)) a 7 ((nK B : Int) + 1)) := f3.then (wS_a hW hr.2.2.1)
  have hB1 := BV_hat (p := -1) (f := f) hB hk hf (.inl rfl)
  have g1 : WR (upm (upm (upm (upm σ (a + 8) (nK B) v) (a + 7) (nK B) f) (a + 6) (nK B) (-1)) a 7 ((nK B : Int) + 1)) a (hatB B (nK B) (-1) f) (up1 D (10 + nK B) d) := by
    obtain ⟨⟨g1, g2, g3, g4, g5, g6, g7, g8⟩, k1, k2, k3, k4⟩ := h
    refine ⟨⟨?_, ?_, ?_, ?_, ?_, ?_, ?_, ?_⟩, fun q hq => ?_, fun w hw => ?_, fun q hq => ?_, fun w hw => ?_⟩
    · rw [hatB_o (by omega) (by omega) (by omega)]; simp (disch := omega) [upm_app, g1]
    · rw [aS_hat hB]; simp (disch := omega) [upm_app, g2]
    · unfold hatB; rw [if_neg (by omega), if_neg (by omega), if_pos rfl, upm_same]
    · rw [hatB_o (by omega) (by omega) (by omega)]; simp (disch := omega) [upm_app, g4]
    · rw [hatB_o (by omega) (by omega) (by omega)]; simp (disch := omega) [upm_app, g5]
    · rw [hatB_o (by omega) (by omega) (by omega)]; simp (disch := omega) [upm_app, g6]
    · rw [hatB_o (by omega) (by omega) (by omega)]; simp (disch := omega) [upm_app, g7]
    · rw [hatB_o (by omega) (by omega) (by omega)]; simp (disch := omega) [upm_app, g8]
    · rw [nP_hat] at hq
      rw [nK_hat, stn_hat (by omega), cs_s, cs_hat hk (Nat.le_refl _), show hatB B (nK B) (-1) f (47 + nK B) = -1 by unfold hatB; rw [if_pos rfl], if_neg (by omega), Int.add_zero]
      rw [hatB_o (j := 17 + q) (by omega) (by omega) (by omega), hatB_o (j := 27 + q) (by omega) (by omega) (by omega), hatB_o (j := 37 + q) (by omega) (by omega) (by omega)]
      simp (disch := omega) only [upm_app, if_neg]
      exact k1 q hq
    · rw [nK_hat] at hw
      by_cases r : w = nK B
      · subst r
        constructor
        · simp (disch := omega) [upm_app, hatB]
        · simp (disch := omega) [upm_app, hatB]
      · rw [hatB_o (j := 51 + w) (by omega) (by omega) (by omega), hatB_o (j := 47 + w) (by omega) (by omega) (by omega)]
        simp (disch := omega) only [upm_app, if_neg]
        exact k2 w (by omega)
    · rw [nP_hat] at hq
      rw [up1_ne (by omega)]
      simp (disch := omega) only [upm_app, if_neg]
      exact k3 q hq
    · rw [nK_hat] at hw
      by_cases r : w = nK B
      · subst r
        rw [up1_eq]
        simp (disch := omega) only [upm_app, if_neg]
        simpa using hv
      · rw [up1_ne (by omega)]
        simp (disch := omega) only [upm_app, if_neg]
        exact k4 w (by omega)
  obtain ⟨ρ, e1, e2, e3⟩ := x_moveCrow (w := nK B) (p := p) hW (f4.refW hR) g1 hB1 (by rw [nK_hat]; omega) (by rw [nP_hat]; exact hp)
  refine ⟨ρ, ?_, ?_, f4.trans e3⟩
  · unfold f_X9_addCrow f_X9_addCrow_b0
    have i1 : ∀ τ : Mem, τ a 7 = σ a 7 → τ a 7 = (nK B : Int) := fun τ e => by rw [e, h.1.2.2.1, hx.2]
    simp only [oW hW, if_true, gW hW, pW hW, obs, i1 σ rfl, (rW hR hW).2.2.2.2.2.2.2]
    rw [if_pos (by omega), stW8 hW (by omega) (by omega)]
    simp only [obs, Int.toNat_natCast, i1 (upm σ (a + 8) (nK B) v) (by rw [upm_app, if_neg (by omega)]), (rW (f1.refW hR) hW).2.2.2.2.2.2.1, b1_bit hf]
    rw [stW7 hW (by omega) (by omega)]
    simp only [obs, Int.toNat_natCast, i1 (upm (upm σ (a + 8) (nK B) v) (a + 7) (nK B) f) (by rw [upm_app, if_neg (by omega), upm_app, if_neg (by omega)]), (rW (f2.refW hR) hW).2.2.2.2.2.1]
    rw [stW6 hW (by omega) (by omega)]
    simp only [obs, Int.toNat_natCast, i1 (upm (upm (upm σ (a + 8) (nK B) v) (a + 7) (nK B) f) (a + 6) (nK B) (-1)) (by rw [upm_app, if_neg (by omega), upm_app, if_neg (by omega), upm_app, if_neg (by omega)])]
    rw [w32_in (z := (nK B : Int) + 1) (by omega) (by omega), upm_same, w32_in (by omega) (by omega), show (nK B : Int) + 1 - 1 = (nK B : Int) by omega, e1]
    rfl
  · have : up1 (hatB B (nK B) (-1) f) (47 + nK B) p = hatB B (nK B) p f := by
      funext j
      unfold up1 hatB
      by_cases r : j = 47 + nK B
      · rw [if_pos r, if_pos r]
      · rw [if_neg r, if_neg r, if_neg r]
    rw [this] at e2
    exact e2
end
