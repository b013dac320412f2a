/-! ===== the calls that only answer, and set the status ===== -/
def Ok (fx fm : Mem → Option (Int × Mem)) (σ : Mem) : Prop := ∃ r σ1 σ2, fx σ = some (r, σ1) ∧ fm σ1 = some (r, σ2) ∧ Rel σ2
def XO (fx : Mem → Option (Int × Mem)) (σ : Mem) (r y : Int) : Prop := ∃ σ1, fx σ = some (r, σ1) ∧ Fr [0, 1] σ σ1 ∧ σ1 0 19 = y
def MO (fm : Mem → Option (Int × Mem)) (σ : Mem) (r y : Int) : Prop := ∃ σ1, fm σ = some (r, σ1) ∧ Fr [11, 20] σ σ1 ∧ σ1 113 0 = y
def XH (σ : Mem) (B D : Nat → Int) : Prop := Ref σ ∧ WR σ 5 B D ∧ BV B
def MH (σ : Mem) (B : Nat → Int) : Prop := Ref σ ∧ σ 118 = B ∧ BV B
theorem gid_hi {b j : Nat} (h : 113 ≤ b) : 10 ≤ gid b j := by
  unfold gid
  by_cases q : isRf b j = true ∨ b = 4
  · rw [if_pos q]; omega
  · rw [if_neg q, if_neg (by omega), if_neg (by omega), if_neg (by omega), if_neg (by omega), if_neg (by omega), if_neg (by omega), if_neg (by omega), if_neg (by omega), if_neg (by omega), if_neg (by omega)]
    grind
theorem gid_lo {b j : Nat} (h : b < 113) : gid b j ≤ 10 := by
  unfold gid
  grind (splits := 30)
theorem Fr.hi {G : List Nat} {σ τ : Mem} (f : Fr G σ τ) (hG : ∀ g ∈ G, g < 10) : ∀ b, 113 ≤ b → τ b = σ b := by
  intro b hb
  funext j
  refine f b j fun q => ?_
  have := hG _ q
  have := @gid_hi b j hb
  omega
theorem Fr.lo {G : List Nat} {σ τ : Mem} (f : Fr G σ τ) (hG : ∀ g ∈ G, 10 < g) : ∀ b, b < 113 → τ b = σ b := by
  intro b hb
  funext j
  refine f b j fun q => ?_
  have := hG _ q
  have := @gid_lo b j hb
  omega
theorem Rel.xh {σ : Mem} (h : Rel σ) : XH σ (σ 118) (σ 120) := ⟨h.1, h.2.2.2.2.2.2.1.1, h.2.2.2.2.2.2.1.2.1⟩
theorem XH.st {σ : Mem} {B D : Nat → Int} {v : Int} (h : XH σ B D) : XH (upm σ 0 19 v) B D :=
  ⟨h.1.up rfl, h.2.1.cg (fun b j h1 h2 => by rw [upm_app, if_neg (by omega)]) (fun _ _ => rfl) (fun _ _ => rfl) h.2.2, h.2.2⟩
theorem Ok.mk {fx fm : Mem → Option (Int × Mem)} {σ : Mem} {r y : Int} (h : Rel σ) (hx : XO fx σ r y) (hm : ∀ τ, MH τ (σ 118) → (∀ b, 113 ≤ b → τ b = σ b) → MO fm τ r y) : Ok fx fm σ := by
  obtain ⟨σ1, e1, f1, s1⟩ := hx
  have hi := f1.hi (by decide)
  obtain ⟨σ2, e2, f2, s2⟩ := hm σ1 ⟨f1.ref (by decide) h.1, hi 118 (by omega), h.xh.2.2⟩ hi
  refine ⟨r, σ1, σ2, e1, e2, h.stat ((f1.mono (by decide)).trans (f2.mono (by decide))) ?_⟩
  rw [s2, f2.lo (by decide) 0 (by omega), s1]
/-- the reference begins with these -/
def rf2 (σ : Mem) : Mem := upm (upm σ 113 1 0) 113 0 0
theorem rf2_e {σ : Mem} : upm (upm σ 113 1 0) 113 0 0 = rf2 σ := rfl
theorem MH.r1 {σ : Mem} {B : Nat → Int} (h : MH σ B) : MH (upm σ 113 1 0) B := ⟨h.1.up rfl, by rw [upm_ne (by decide)]; exact h.2.1, h.2.2⟩
theorem MH.r0 {σ : Mem} {B : Nat → Int} {v : Int} (h : MH σ B) : MH (upm σ 113 0 v) B := ⟨h.1.up rfl, by rw [upm_ne (by decide)]; exact h.2.1, h.2.2⟩
theorem MH.rf {σ : Mem} {B : Nat → Int} (h : MH σ B) : MH (rf2 σ) B := h.r1.r0
theorem fr_rf {σ : Mem} {v : Int} : Fr [11, 20] σ (upm (upm σ 113 1 0) 113 0 v) := (Fr.up (by decide)).then (by decide)
theorem fr_rf3 {σ : Mem} {v : Int} : Fr [11, 20] σ (upm (rf2 σ) 113 0 v) := Fr.then fr_rf (by decide)
theorem s_ref0 {σ : Mem} : f_X11_refused 0 0 σ = some (0, upm σ 0 19 0) := by rw [s_refused]; rfl
theorem s_refn {σ : Mem} {v : Int} (h : ¬ v = 0) : f_X11_refused 0 v σ = some (1, upm σ 0 19 v) := by rw [s_refused, if_neg h]
section
variable {σ : Mem} {B D : Nat → Int}
theorem XO.mk {fx : Mem → Option (Int × Mem)} {r y : Int} (h : fx σ = some (r, upm σ 0 19 y)) : XO fx σ r y := ⟨_, h, Fr.up (show gid 0 19 ∈ _ by decide), upm_same⟩
theorem MO.mk {fm : Mem → Option (Int × Mem)} {r y : Int} (h : fm σ = some (r, upm (upm σ 113 1 0) 113 0 y)) : MO fm σ r y := ⟨_, h, fr_rf, upm_same⟩
theorem MO.mk3 {fm : Mem → Option (Int × Mem)} {r y : Int} (h : fm σ = some (r, upm (rf2 σ) 113 0 y)) : MO fm σ r y := ⟨_, h, fr_rf3, upm_same⟩
theorem upm_upm {a j : Nat} {v w : Int} : upm (upm σ a j v) a j w = upm σ a j w := by
  funext b i
  simp only [upm_app]
  split <;> rfl
theorem MO.mkr {fm : Mem → Option (Int × Mem)} {r y : Int} (h : fm σ = some (r, if y = 0 then rf2 σ else upm (rf2 σ) 113 0 y)) : MO fm σ r y := by
  apply MO.mk
  rw [h]
  unfold rf2
  split
  · next q => rw [q]
  · rw [upm_upm]
/-! the court's own wall -/
theorem w_g {j : Nat} : gf Sh σ 9 5 j = some (σ 5 j) := gW (a := 5) (.inl rfl)
theorem w_p {j : Nat} {v : Int} : pf Sh σ 9 5 j v = some (upm σ 5 j v) := pW (a := 5) (.inl rfl)
theorem w_a6 {i : Int} (h0 : 0 ≤ i) (h1 : i < 10) : al Sh σ 20 6 i = some (σ 6 i.toNat) := alW1 (a := 5) (.inl rfl) h0 h1
theorem w_a7 {i : Int} (h0 : 0 ≤ i) (h1 : i < 10) : al Sh σ 20 7 i = some (σ 7 i.toNat) := alW2 (a := 5) (.inl rfl) h0 h1
theorem w_a8 {i : Int} (h0 : 0 ≤ i) (h1 : i < 10) : al Sh σ 20 8 i = some (σ 8 i.toNat) := alW3 (a := 5) (.inl rfl) h0 h1
theorem w_a11 {i : Int} (h0 : 0 ≤ i) (h1 : i < 4) : al Sh σ 20 11 i = some (σ 11 i.toNat) := alW6 (a := 5) (.inl rfl) h0 h1
theorem w_a12 {i : Int} (h0 : 0 ≤ i) (h1 : i < 4) : al Sh σ 23 12 i = some (σ 12 i.toNat) := alW7 (a := 5) (.inl rfl) h0 h1
theorem w_s6 {i v : Int} (h0 : 0 ≤ i) (h1 : i < 10) : st_ Sh σ 20 6 i v = some (upm σ 6 i.toNat v) := stW1 (a := 5) (.inl rfl) h0 h1
theorem w_s7 {i v : Int} (h0 : 0 ≤ i) (h1 : i < 10) : st_ Sh σ 20 7 i v = some (upm σ 7 i.toNat v) := stW2 (a := 5) (.inl rfl) h0 h1
theorem w_isPlace {v : Int} (h : XH σ B D) : f_X9_isPlace 5 v σ = some (if 0 ≤ v ∧ v < B 0 then 1 else 0) := x_isPlace (a := 5) (.inl rfl) h.2.1
theorem w_isStone {v : Int} (h : XH σ B D) : f_X9_isStone 5 v σ = some (if 0 ≤ v ∧ v < B 0 ∧ stn B v.toNat = true then 1 else 0) := x_isStone (a := 5) (.inl rfl) h.2.1 h.2.2
theorem w_isCrow {v : Int} (h : XH σ B D) : f_X9_isCrow 5 v σ = some (if 0 ≤ v ∧ v < B 1 then 1 else 0) := x_isCrow (a := 5) (.inl rfl) h.2.1
theorem w_stoneCount (h : XH σ B D) : f_X9_stoneCount 5 σ = some ((sz (aS B) : Nat) : Int) := x_stoneCount (a := 5) (.inl rfl) h.2.1 h.2.2
theorem w_mossOfAll (h : XH σ B D) : f_X9_mossOfAll 5 σ = some (ms B (nP B)) := x_mossOfAll (a := 5) (.inl rfl) h.1 h.2.1 h.2.2
theorem w_crowsOn {p : Int} (h : XH σ B D) : f_X9_crowsOn 5 p σ = some ((setOf (cw B p) (nK B) : Nat) : Int) := x_crowsOn (a := 5) (.inl rfl) h.1 h.2.1 h.2.2
theorem w_mercyFor {p : Nat} {q : Int} (h : XH σ B D) (hp : p < nP B) (hs : stn B p = true) (hq : 0 ≤ q ∧ q < 10) : f_X9_mercyFor 5 p q 0 σ = some (mc B p q) := by
  have := @x_mercyFor σ 5 B D p q 0 (.inl rfl) h.1 h.2.1 h.2.2 hp hs hq (by omega)
  rw [agd0 h.2.2] at this
  exact this
theorem w_turningFrom {g q : Int} (h : XH σ B D) (hq : 0 ≤ q ∧ q < 10) : f_X9_turningFrom 5 g q 0 σ = some ((tS B g q : Nat) : Int) := by
  have := @x_turningFrom σ 5 B D g q 0 (.inl rfl) h.1 h.2.1 h.2.2 hq (by omega)
  rw [agd0 h.2.2] at this
  exact this
theorem w_turnCount {g : Int} {p : Nat} (h : XH σ B D) (hp : p < 10) : f_X9_turnCount 5 g p σ = some ((tc B g p : Nat) : Int) := x_turnCount (a := 5) (.inl rfl) h.1 h.2.1 h.2.2 hp
theorem w_condemns {g : Int} {p : Nat} (h : XH σ B D) (hp : p < nP B) : f_X9_condemns 5 g p 0 σ = some (if cdm B g p = true then 1 else 0) := by
  have := @x_condemns σ 5 B D g 0 p (.inl rfl) h.1 h.2.1 h.2.2 hp (by omega)
  rw [agd0 h.2.2] at this
  exact this
theorem w_bestPlace {g sg : Int} (h : XH σ B D) (hs : sg = 1 ∨ sg = -1) : f_X9_bestPlace 5 g sg σ = some (bst B g sg (nP B)).1 := x_bestPlace (a := 5) (.inl rfl) h.1 h.2.1 h.2.2 hs
theorem w_leastGuilt {p : Nat} (h : XH σ B D) (hp : p < nP B) : f_X9_leastGuilt 5 p σ = some (ff (fun g => cdm B g p) 100 0) := x_leastGuilt (a := 5) (.inl rfl) h.1 h.2.1 h.2.2 hp
theorem w_yearsToFree {g : Int} {p : Nat} (h : XH σ B D) (hp : p < nP B) : f_X9_yearsToFree 5 g p σ = some (ff (fun y => !cdm (agd B y) g p) 10 0) := x_yearsToFree (a := 5) (.inl rfl) h.1 h.2.1 h.2.2 hp
/-! the court's reasons -/
abbrev isP (B : Nat → Int) (p : Int) : Prop := 0 ≤ p ∧ p < B 0
theorem isP_nat {p : Int} (h : isP B p) (hB : BV B) : ∃ k : Nat, p = k ∧ k < nP B ∧ k < 10 := by
  obtain ⟨h0, h1⟩ := h
  have := hB.nP_le
  exact ⟨p.toNat, by omega, by omega, by omega⟩
def yTwo (B : Nat → Int) (p q : Int) : Int := if isP B p ∧ isP B q then 0 else 2
def yGu (B : Nat → Int) (g p : Int) : Int := if ¬ isP B p then 2 else if 0 ≤ g ∧ g ≤ 99 then 0 else 5
def yStn (B : Nat → Int) (p : Int) (c : Prop) [Decidable c] : Int := if ¬ isP B p then 2 else if ¬ c then 5 else if stn B p.toNat = true then 0 else 8
theorem x_twoPlacesWhy {p q : Int} (h : XH σ B D) : f_X11_twoPlacesWhy 0 p q σ = some (yTwo B p q) := by
  unfold f_X11_twoPlacesWhy f_X11_twoPlacesWhy_b0 yTwo isP
  simp only [oX, if_true, gX, obs, h.1.at 0 3 5 rfl, w_isPlace h]
  grind
theorem s_isGuilt {g : Int} : f_X11_isGuilt g σ = some (if 0 ≤ g ∧ g ≤ 99 then 1 else 0) := by
  unfold f_X11_isGuilt f_X11_isGuilt_b0
  simp only [lcmp_lt, lcmp_gt]
  grind
theorem s_isLenient {g : Int} : f_X11_isLenient g σ = some (if 0 ≤ g ∧ g ≤ 30 then 1 else 0) := by
  unfold f_X11_isLenient f_X11_isLenient_b0
  grind
theorem x_guiltWhy {g p : Int} (h : XH σ B D) : f_X11_guiltWhy 0 g p σ = some (yGu B g p) := by
  unfold f_X11_guiltWhy f_X11_guiltWhy_b0 yGu isP
  simp only [oX, if_true, gX, obs, h.1.at 0 3 5 rfl, s_isGuilt, w_isPlace h]
  grind
theorem x_stoneWhy {p c : Int} (h : XH σ B D) : f_X11_stoneWhy 0 p c σ = some (yStn B p (¬ c = 0)) := by
  unfold f_X11_stoneWhy f_X11_stoneWhy_b0 yStn isP
  simp only [oX, if_true, gX, obs, h.1.at 0 3 5 rfl, w_isPlace h, w_isStone h]
  grind
/-! the reference's -/
theorem m_whyNoTrial {g p : Int} (h : MH σ B) : f_X12_whyNoTrial 113 g p σ = some (yGu B g p) := by
  unfold f_X12_whyNoTrial f_X12_whyNoTrial_b0 yGu isP
  simp only [oM, if_true, obs, m_isPlaceAt h.1 h.2.1 h.2.2, s_isIn]
  grind
/-! far -/
theorem x_far {p q : Int} (h : XH σ B D) : XO (f_X11_far 0 p q) σ (if yTwo B p q = 0 then ds (B 0) p q else -1) (yTwo B p q) := by
  apply XO.mk
  have hn := h.2.2.nP_le
  unfold f_X11_far f_X11_far_b0
  simp only [oX, if_true, obs, x_twoPlacesWhy h]
  by_cases hy : yTwo B p q = 0
  · rw [hy]
    have hp : isP B p ∧ isP B q := by unfold yTwo at hy; grind
    unfold isP at hp
    simp only [s_ref0, obs, if_true, gX, h.st.1.at 0 3 5 rfl, w_g, h.st.2.1.1.1]
    rw [w32_in (z := p - q) (by omega) (by omega), iabs_in (by omega) (by omega)]
    have h1 : 0 ≤ ab (p - q) ∧ ab (p - q) < 10 := by unfold ab; split <;> omega
    rw [w32_in (by omega) (by omega)]
    rfl
  · simp only [s_refn hy, obs, hy, if_false, Int.one_ne_zero]
theorem m_far {p q : Int} (h : MH σ B) : MO (f_X12_far 113 p q) σ (if yTwo B p q = 0 then ds (B 0) p q else -1) (yTwo B p q) := by
  apply MO.mkr
  have hn := h.2.2.nP_le
  unfold f_X12_far f_X12_far_b0 f_X12_far_b37
  simp only [oM, if_true, pM, obs, rf2_e, m_isPlaceAt h.rf.1 h.rf.2.1 h.rf.2.2, s_refuse]
  have := @m_farOf (rf2 σ) B p q h.rf.1 h.rf.2.1 h.rf.2.2
  unfold yTwo isP
  grind
theorem ok_far {p q : Int} (h : Rel σ) : Ok (f_X11_far 0 p q) (f_X12_far 113 p q) σ := Ok.mk h (x_far h.xh) fun _ h1 _ => m_far h1
/-! mercy -/
def yMer (B : Nat → Int) (p q : Int) : Int := if ¬ (isP B p ∧ isP B q) then 2 else if stn B p.toNat = true then 0 else 8
theorem x_mercy_b {p q v : Int} (h : XH σ B D) (hv : v = 0 → isP B p ∧ isP B q ∧ stn B p.toNat = true) : f_X11_mercy_b26 0 p q v σ = some (if v = 0 then mc B p.toNat q else -1, upm σ 0 19 v) := by
  unfold f_X11_mercy_b26
  by_cases hy : v = 0
  · obtain ⟨h1, h2, h3⟩ := hv hy
    subst hy
    obtain ⟨k, rfl, hk, h10⟩ := isP_nat h1 h.2.2
    obtain ⟨j, rfl, hj, hj10⟩ := isP_nat h2 h.2.2
    rw [Int.toNat_natCast] at h3
    simp only [s_ref0, obs, if_true, gX, h.st.1.at 0 3 5 rfl, w_mercyFor h.st hk h3 (q := (j : Int)) (by omega), Int.toNat_natCast]
  · simp only [s_refn hy, obs, hy, if_false, Int.one_ne_zero]
theorem x_mercy {p q : Int} (h : XH σ B D) : XO (f_X11_mercy 0 p q) σ (if yMer B p q = 0 then mc B p.toNat q else -1) (yMer B p q) := by
  apply XO.mk
  unfold f_X11_mercy f_X11_mercy_b0
  simp only [oX, if_true, obs, x_twoPlacesWhy h, gX, h.1.at 0 3 5 rfl, w_isStone h]
  have a8 := @x_mercy_b σ B D p q 8 h (by omega)
  have a2 := @x_mercy_b σ B D p q 2 h (by omega)
  have a0 := @x_mercy_b σ B D p q 0 h
  unfold yTwo yMer isP at *
  grind
theorem m_mercy {p q : Int} (h : MH σ B) : MO (f_X12_mercy 113 p q) σ (if yMer B p q = 0 then mc B p.toNat q else -1) (yMer B p q) := by
  apply MO.mkr
  unfold f_X12_mercy f_X12_mercy_b0 f_X12_mercy_b28
  simp only [oM, if_true, pM, obs, rf2_e, m_isPlaceAt h.rf.1 h.rf.2.1 h.rf.2.2, s_refuse]
  by_cases hp : isP B p
  · by_cases hq : isP B q
    · obtain ⟨k, rfl, hk, h10⟩ := isP_nat hp h.2.2
      obtain ⟨j, rfl, hj, hj10⟩ := isP_nat hq h.2.2
      have e1 := @m_isStoneAt (rf2 σ) B k h.rf.1 h.rf.2.1 (by omega)
      have e2 := @m_mercyOf (rf2 σ) B k j h.rf.1 h.rf.2.1 h.rf.2.2 h10 (by omega)
      unfold yMer isP at *
      simp only [e1, e2, obs, Int.toNat_natCast]
      grind
    · unfold yMer isP at *
      grind
  · unfold yMer isP at *
    grind
theorem ok_mercy {p q : Int} (h : Rel σ) : Ok (f_X11_mercy 0 p q) (f_X12_mercy 113 p q) σ := Ok.mk h (x_mercy h.xh) fun _ h1 _ => m_mercy h1
/-! turned, verdict -/
theorem yGu0 {g p : Int} (h : yGu B g p = 0) : isP B p ∧ 0 ≤ g ∧ g ≤ 99 := by unfold yGu at h; grind
theorem yGu_ge {g p : Int} : 0 ≤ yGu B g p := by unfold yGu; grind
theorem x_turned {g p : Int} (h : XH σ B D) : XO (f_X11_turned 0 g p) σ (if yGu B g p = 0 then ((tS B g p : Nat) : Int) else -1) (yGu B g p) := by
  apply XO.mk
  unfold f_X11_turned f_X11_turned_b0
  simp only [oX, if_true, obs, x_guiltWhy h]
  by_cases hy : yGu B g p = 0
  · obtain ⟨h1, h2⟩ := yGu0 hy
    obtain ⟨k, rfl, hk, h10⟩ := isP_nat h1 h.2.2
    simp only [hy, s_ref0, obs, if_true, gX, h.st.1.at 0 3 5 rfl, w_turningFrom h.st (q := (k : Int)) (by omega)]
  · simp only [s_refn hy, obs, hy, if_false, Int.one_ne_zero]
theorem m_turned {g p : Int} (h : MH σ B) : MO (f_X12_turned 113 g p) σ (if yGu B g p = 0 then ((tS B g p : Nat) : Int) else -1) (yGu B g p) := by
  apply MO.mk
  unfold f_X12_turned f_X12_turned_b0
  simp only [oM, if_true, pM, gM, obs, m_whyNoTrial h.r1, upm_same]
  have := @yGu_ge B g p
  by_cases hy : yGu B g p = 0
  · obtain ⟨h1, h2⟩ := yGu0 hy
    obtain ⟨k, rfl, hk, h10⟩ := isP_nat h1 h.2.2
    have h3 := (h.r1.r0 (v := 0))
    simp only [hy, obs, if_true, m_turnedFrom h3.1 h3.2.1 h3.2.2 (q := (k : Int)) (g := g) (by omega), Int.le_refl]
  · rw [if_neg (by omega), if_neg hy]
theorem ok_turned {g p : Int} (h : Rel σ) : Ok (f_X11_turned 0 g p) (f_X12_turned 113 g p) σ := Ok.mk h (x_turned h.xh) fun _ h1 _ => m_turned h1
theorem x_verdict {g p : Int} (h : XH σ B D) : XO (f_X11_verdict 0 g p) σ (if yGu B g p = 0 then (if cdm B g p.toNat = true then 1 else 0) else -1) (yGu B g p) := by
  apply XO.mk
  unfold f_X11_verdict f_X11_verdict_b0
  simp only [oX, if_true, obs, x_guiltWhy h]
  by_cases hy : yGu B g p = 0
  · obtain ⟨h1, h2⟩ := yGu0 hy
    obtain ⟨k, rfl, hk, h10⟩ := isP_nat h1 h.2.2
    simp only [hy, s_ref0, obs, if_true, gX, h.st.1.at 0 3 5 rfl, w_condemns h.st hk, Int.toNat_natCast]
    grind
  · simp only [s_refn hy, obs, hy, if_false, Int.one_ne_zero]
theorem m_verdict {g p : Int} (h : MH σ B) : MO (f_X12_verdict 113 g p) σ (if yGu B g p = 0 then (if cdm B g p.toNat = true then 1 else 0) else -1) (yGu B g p) := by
  apply MO.mk
  unfold f_X12_verdict f_X12_verdict_b0
  simp only [oM, if_true, pM, gM, obs, m_whyNoTrial h.r1, upm_same]
  have := @yGu_ge B g p
  by_cases hy : yGu B g p = 0
  · obtain ⟨h1, h2⟩ := yGu0 hy
    obtain ⟨k, rfl, hk, h10⟩ := isP_nat h1 h.2.2
    have h3 := (h.r1.r0 (v := 0))
    simp only [hy, obs, if_true, m_isCondemned h3.1 h3.2.1 h3.2.2 h10, Int.le_refl, Int.toNat_natCast]
    grind
  · rw [if_neg (by omega), if_neg hy]
theorem ok_verdict {g p : Int} (h : Rel σ) : Ok (f_X11_verdict 0 g p) (f_X12_verdict 113 g p) σ := Ok.mk h (x_verdict h.xh) fun _ h1 _ => m_verdict h1
end
