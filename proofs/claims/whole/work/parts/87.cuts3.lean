/-! ===== the calls cuts, cutOf ===== -/
section
variable {σ τ : Mem} {B D N : Nat → Int}
def okC (B N : Nat → Int) (i : Nat) : Bool := decide ((0 ≤ N (3 * i) ∧ N (3 * i) ≤ 99) ∧ (0 ≤ N (3 * i + 1) ∧ N (3 * i + 1) < B 0) ∧ 0 ≤ N (3 * i + 2) ∧ N (3 * i + 2) ≤ 1)
def eT (B N : Nat → Int) (i : Nat) : Nat × Bool := (tS B (N (3 * i)) (N (3 * i + 1)), decide (N (3 * i + 2) = 1))
def eS (B N : Nat → Int) (i : Nat) : Bool := stn B (N (3 * i + 1)).toNat
def tqM (B N : Nat → Int) : Nat → Nat
  | 0 => 0
  | i + 1 => tqM B N i + if eS B N i = true then 1 else 0
def tqE (B N : Nat → Int) : Nat → Nat → Nat × Bool
  | 0 => fun _ => (0, false)
  | i + 1 => if eS B N i = true then (fun j => if j = tqM B N i then eT B N i else tqE B N i j) else tqE B N i
def hop (B N : Nat → Int) : Nat → Bool
  | 0 => false
  | i + 1 => hop B N i || (!eS B N i && (eT B N i).2)
theorem tqM_s {i : Nat} : tqM B N (i + 1) = tqM B N i + if eS B N i = true then 1 else 0 := rfl
theorem tqE_s {i : Nat} : tqE B N (i + 1) = if eS B N i = true then (fun j => if j = tqM B N i then eT B N i else tqE B N i j) else tqE B N i := rfl
theorem hop_s {i : Nat} : hop B N (i + 1) = (hop B N i || (!eS B N i && (eT B N i).2)) := rfl
theorem tqM_le {i : Nat} : tqM B N i ≤ i := by
  induction i with
  | zero => exact Nat.le_refl _
  | succ i ih => rw [tqM_s]; split <;> omega
def lfm (B N : Nat → Int) (n K H : Nat) : Bool := alb (fun i => (eS B N i && more (sub (eT B N i).1 K ||| H) (aS B)) == (eT B N i).2) n
theorem lfm_eq {n K H : Nat} : lfm B N n K H = (!hop B N n && lfb (aS B) (tqM B N n) (tqE B N n) K H) := by
  induction n with
  | zero => rfl
  | succ n ih =>
    have e1 : lfm B N (n + 1) K H = (lfm B N n K H && ((eS B N n && more (sub (eT B N n).1 K ||| H) (aS B)) == (eT B N n).2)) := rfl
    rw [e1, ih, hop_s, tqM_s, tqE_s]
    cases hs : eS B N n
    · simp only [Bool.false_eq_true, if_false, Bool.false_and, Bool.not_false, Bool.true_and, Nat.add_zero]
      cases hop B N n <;> cases (eT B N n).2 <;> cases lfb (aS B) (tqM B N n) (tqE B N n) K H <;> rfl
    · simp only [if_true, Bool.true_and, Bool.not_true, Bool.false_and, Bool.or_false]
      have e2 : lfb (aS B) (tqM B N n + 1) (fun j => if j = tqM B N n then eT B N n else tqE B N n j) K H = (lfb (aS B) (tqM B N n) (tqE B N n) K H && hlb (aS B) K H (eT B N n)) := by
        unfold lfb
        rw [alb_s]
        congr 1
        · exact alb_cg fun k hk => by dsimp only; rw [if_neg (by omega)]
        · dsimp only; rw [if_pos rfl]
      rw [e2]
      unfold hlb
      cases hop B N n <;> simp
theorem okC_d {i : Nat} (h : okC B N i = true) (hB : BV B) : ∃ g q : Nat, N (3 * i) = g ∧ N (3 * i + 1) = q ∧ g ≤ 99 ∧ q < nP B ∧ (N (3 * i + 2) = 0 ∨ N (3 * i + 2) = 1) ∧ eT B N i = (tS B g q, decide (N (3 * i + 2) = 1)) ∧ eS B N i = stn B q := by
  unfold okC at h
  simp only [decide_eq_true_eq] at h
  obtain ⟨h1, h2, h3⟩ := h
  obtain ⟨g, e1⟩ := nat_of h1.1
  obtain ⟨q, e2⟩ := nat_of h2.1
  have hn := hB.nP_le
  refine ⟨g, q, e1, e2, by omega, by omega, by omega, ?_, ?_⟩
  · unfold eT; rw [e1, e2]
  · unfold eS; rw [e2, Int.toNat_natCast]
def yCx (B N : Nat → Int) (n : Nat) : Int := if ff (fun i => !okC B N i) n 0 = -1 then (if hop B N n = true ∨ few (aS B) (tqM B N n) (tqE B N n) = -1 then 8 else 0) else 5
/-- what the cutter holds when so many threes were told -/
def dX (σ σ1 : Mem) (B N : Nat → Int) (i : Nat) : Prop := Fr [0] σ σ1 ∧ dC σ1 (aS B) (tqM B N i) (tqE B N i) ∧ σ1 54 4 = bI (hop B N i)
theorem gid5 {b j : Nat} (h : b = 55 ∨ b = 56) : gid b j = 0 := by
  have h1 : isRf b j = false := by rcases h with rfl | rfl <;> exact isRf_cell rfl
  unfold gid
  rcases h with rfl | rfl <;> simp [h1]
theorem x_tell1 {i g q : Nat} {σ1 : Mem} {v : Int} (hi : i < 6) (d : dX σ σ1 B N i) (hv : v = bI (eT B N i).2) (hT : (eT B N i).1 < 1024) : ∃ σ', f_X0_tell 54 (if eS B N i = true then 1 else 0) ((eT B N i).1 : Nat) v σ1 = some σ' ∧ dX σ σ' B N (i + 1) := by
  obtain ⟨f1, ⟨hR, c3, c5, c6, cM, ca, ce⟩, c4⟩ := d
  have lM := @tqM_le B N i
  have vb : v = 0 ∨ v = 1 := by rw [hv]; unfold bI; split; exact .inr rfl; exact .inl rfl
  unfold f_X0_tell f_X0_tell_b0
  rw [if_pos oCt]
  cases hs : eS B N i
  · have eM : tqM B N (i + 1) = tqM B N i := by rw [tqM_s, hs]; rfl
    have eE : tqE B N (i + 1) = tqE B N i := by rw [tqE_s, hs]; rfl
    have eh : hop B N (i + 1) = (hop B N i || (eT B N i).2) := by rw [hop_s, hs]; rfl
    rw [if_neg (show ¬ (false = true) by decide), if_pos rfl, gCt, obs, c4]
    unfold f_X0_tell_b16 f_X0_tell_b21
    simp only [bz0, bz1, obs, pCt]
    have fin : ∀ w : Int, w = bI (hop B N (i + 1)) → ∃ σ', (some (upm σ1 54 4 w) : Option Mem) = some σ' ∧ dX σ σ' B N (i + 1) := fun w hw => by
      refine ⟨_, rfl, f1.then (by decide), ⟨hR.up rfl, ?_, ?_, ?_, ?_, ca, fun j hj => ?_⟩, ?_⟩
      · rw [upm_app, if_neg (by omega), eM]; exact c3
      · rw [upm_app, if_neg (by omega)]; exact c5
      · rw [upm_app, if_neg (by omega)]; exact c6
      · rw [eM]; exact cM
      · rw [eM] at hj
        rw [upm_o (by omega), upm_o (by omega), eE]
        exact ce j hj
      · rw [upm_same, hw]
    rw [hv]
    cases h1 : hop B N i <;> cases h2 : (eT B N i).2
    · rw [if_pos (show bI false = 0 from rfl), if_pos (show bI false = 0 from rfl)]; exact fin 0 (by rw [eh, h1, h2]; rfl)
    · rw [if_pos (show bI false = 0 from rfl), if_neg (by decide)]; exact fin 1 (by rw [eh, h1, h2]; rfl)
    · rw [if_neg (by decide)]; exact fin 1 (by rw [eh, h1, h2]; rfl)
    · rw [if_neg (by decide)]; exact fin 1 (by rw [eh, h1, h2]; rfl)
  · have eM : tqM B N (i + 1) = tqM B N i + 1 := by rw [tqM_s, hs]; rfl
    have eE : tqE B N (i + 1) = fun j => if j = tqM B N i then eT B N i else tqE B N i j := by rw [tqE_s, hs]; rfl
    have eh : hop B N (i + 1) = hop B N i := by rw [hop_s, hs]; simp
    rw [if_pos rfl, if_neg (by decide), gCt, obs, c3, if_neg (by omega), gCt, obs, obs, hR.at 54 0 55 rfl, st55 (by omega), obs]
    have r2 : Ref (upm σ1 55 (tqM B N i) ((eT B N i).1 : Nat)) := hR.up (isRf_cell rfl)
    rw [gCt, obs, gCt, obs, r2.at 54 1 56 rfl, upm_o (by omega), c3, st56 (by omega), obs, gCt, obs, upm_o (by omega), upm_o (by omega), c3, pCt, obs, w32_in (by omega) (by omega), b1_bit vb]
    refine ⟨_, rfl, ((f1.then (by rw [gid5 (.inl rfl)]; decide)).then (by rw [gid5 (.inr rfl)]; decide)).then (by decide), ⟨(r2.up (isRf_cell rfl)).up rfl, ?_, ?_, ?_, ?_, ca, fun j hj => ?_⟩, ?_⟩
    · rw [upm_same, eM]; rfl
    · rw [upm_app, if_neg (by omega), upm_o (by omega), upm_o (by omega)]; exact c5
    · rw [upm_app, if_neg (by omega), upm_o (by omega), upm_o (by omega)]; exact c6
    · rw [eM]; omega
    · rw [eM] at hj
      rw [eE]
      dsimp only
      by_cases z : j = tqM B N i
      · rw [if_pos z, z, upm_o (by omega), upm_o (by omega), upm_same, upm_o (by omega), upm_same, hv]
        exact ⟨rfl, rfl, hT⟩
      · rw [if_neg z, upm_o (by omega), upm_o (by omega), upm_app, if_neg (by omega), upm_o (by omega), upm_app, if_neg (by omega), upm_o (by omega)]
        exact ce j (by omega)
    · rw [upm_app, if_neg (by omega), upm_o (by omega), upm_o (by omega), c4, eh]
/-- what the way's look is told -/
def wayX (σ' : Mem) (B N : Nat → Int) (n : Nat) : Prop := ∃ c K' H' : Nat, few (aS B) (tqM B N n) (tqE B N n) = c ∧ Sc (lfb (aS B) (tqM B N n) (tqE B N n)) (fun k => (aS B).testBit k) 10 0 c 0 0 = some (K', H') ∧ σ' 54 7 = (K' : Nat) ∧ σ' 54 8 = (H' : Nat) ∧ σ' 54 9 = (c : Nat)
theorem few_c {a M : Nat} {e : Nat → Nat × Bool} : few a M e = -1 ∨ ∃ c K' H' : Nat, few a M e = c ∧ c ≤ sz a ∧ Sc (lfb a M e) (fun k => a.testBit k) 10 0 c 0 0 = some (K', H') := by
  unfold few
  rcases ff_spec (fun c => (Sc (lfb a M e) (fun k => a.testBit k) 10 0 c 0 0).isSome) (sz a + 1) 0 with ⟨f1, f2⟩ | ⟨k, f1, f2, f3, f4, f5⟩
  · exact .inl f1
  · rw [Option.isSome_iff_exists] at f4
    obtain ⟨⟨K', H'⟩, hw⟩ := f4
    exact .inr ⟨k, K', H', f1, by omega, hw⟩
theorem x_cuts_h {t n : Nat} (h : XH σ B D) (ht : t < 4) (hn : n ≤ 6) (hN : ∀ j, j < 3 * n → σ (61 + 2 * t) j = N j) (σ0 : Mem) (d0 : dX σ σ0 B N 0) : ∃ σ', f_X11_cutsWhy_h43 FU 0 n ((61 + 2 * t : Nat) : Int) 0 σ0 = some (yCx B N n, σ') ∧ Fr [0] σ σ' ∧ (yCx B N n = 0 → wayX σ' B N n) := by
  have hB := h.2.2.nP_le
  have := up_all (Q := fun k i => ∀ σ1, dX σ σ1 B N i → ∃ σ', f_X11_cutsWhy_h43 k 0 n ((61 + 2 * t : Nat) : Int) i σ1 = some (if ff (fun i => !okC B N i) n i = -1 then (if hop B N n = true ∨ few (aS B) (tqM B N n) (tqE B N n) = -1 then 8 else 0) else 5, σ') ∧ Fr [0] σ σ' ∧ ((if ff (fun i => !okC B N i) n i = -1 then (if hop B N n = true ∨ few (aS B) (tqM B N n) (tqE B N n) = -1 then (8 : Int) else 0) else 5) = 0 → wayX σ' B N n)) n (fun k σ1 d1 => ?_) (fun k i hi ih σ1 d1 => ?_) (by unfold FU; omega)
  · exact this σ0 d0
  · obtain ⟨f1, d2, d3⟩ := d1
    rw [hs_X11_cutsWhy_h43]
    unfold f_X11_cutsWhy_b43
    simp only [gX, obs, d2.1.at 0 13 54 rfl, ff_N, if_true]
    rw [if_pos (by omega)]
    cases hh : hop B N n
    · rw [hh] at d3
      obtain ⟨σ2, w1, w2, w3⟩ := x_findWay d2 d3
      have fr : Fr [0] σ σ2 := f1.trans (Fp.mono w1 fun b j q => by unfold gs; rw [gid_cS q]; decide)
      rw [w2, obs]
      rcases @few_c (aS B) (tqM B N n) (tqE B N n) with z | ⟨c, K', H', z1, z2, z3⟩
      · rw [z]
        simp only [if_true, or_true]
        exact ⟨σ2, rfl, fr, fun q => by omega⟩
      · have nz : ¬ few (aS B) (tqM B N n) (tqE B N n) = -1 := by omega
        simp only [nz, if_false, or_false, Bool.false_eq_true, Int.one_ne_zero]
        exact ⟨σ2, rfl, fr, fun _ => ⟨c, K', H', z1, z3, w3 c K' H' z1 z3⟩⟩
    · rw [hh] at d3
      have e4 : σ1 54 4 = 1 := d3
      unfold f_X0_findWay f_X0_findWay_b0 f_X0_findWay_b18
      simp only [oCt, if_true, gCt, obs, e4, Int.one_ne_zero, if_false, true_or]
      rw [show FU = 199999 + 1 from rfl, hs_X0_findWay_h21]
      unfold f_X0_findWay_b21
      rw [if_pos (by decide), obs]
      exact ⟨σ1, rfl, f1, fun q => by omega⟩
  · obtain ⟨f1, d2, d3⟩ := d1
    have hx := h.fr0 f1
    have hN1 : ∀ j, j < 3 * n → σ1 (61 + 2 * t) j = N j := fun j hj => by rw [f1.at (gidT ht) (by decide), hN j hj]
    rw [hs_X11_cutsWhy_h43]
    unfold f_X11_cutsWhy_b43
    rw [if_neg (by omega), w32_in (z := 3 * (i : Int)) (by omega) (by omega), w32_in (z := 3 * (i : Int) + 1) (by omega) (by omega), w32_in (z := 3 * (i : Int) + 2) (by omega) (by omega), show 3 * (i : Int) = ((3 * i : Nat) : Int) by omega, show ((3 * i : Nat) : Int) + 1 = ((3 * i + 1 : Nat) : Int) by omega, show ((3 * i : Nat) : Int) + 2 = ((3 * i + 2 : Nat) : Int) by omega, x_al ht (by omega), x_al ht (by omega), x_al ht (by omega), hN1 _ (by omega), hN1 _ (by omega), hN1 _ (by omega)]
    simp only [obs, gX, hx.1.at 0 3 5 rfl, hx.1.at 0 13 54 rfl, s_isGuilt, w_isPlace hx, lcmp_lt, lcmp_le, lcmp_eq]
    rw [ff_s hi]
    by_cases z : okC B N i = true
    · obtain ⟨g, q, q1, q2, hg, hq, hw, eT1, eS1⟩ := okC_d z hx.2.2
      simp only [z, Bool.not_true, Bool.false_eq_true, if_false]
      rw [q1, q2, if_pos (show 0 ≤ (g : Int) ∧ (g : Int) ≤ 99 by omega), if_pos (show 0 ≤ (q : Int) ∧ (q : Int) < B 0 by omega), if_neg (by decide), if_neg (by decide), if_neg (show ¬ N (3 * i + 2) < 0 by omega), if_pos (show N (3 * i + 2) ≤ 1 by omega), w32_in (z := (g : Int)) (by omega) (by omega), w32_in (z := (q : Int)) (by omega) (by omega), w_turningFrom hx (by omega), obs, w_isStone' hx hq, obs, ← eS1]
      unfold f_X11_cutsWhy_b159
      rw [w32_in (z := (i : Int) + 1) (by omega) (by omega)]
      have lT : (eT B N i).1 < 1024 := by rw [eT1]; exact tS_lt h.2.2
      have eTi : ((tS B (g : Int) (q : Int) : Nat) : Int) = ((eT B N i).1 : Nat) := by rw [eT1]
      rw [eTi]
      rcases hw with hw | hw
      · rw [hw, if_neg (by decide)]
        obtain ⟨σ2, t1, t2⟩ := x_tell1 (i := i) (g := g) (q := q) (v := 0) (by omega) ⟨f1, d2, d3⟩ (by rw [eT1, hw]; rfl) lT
        rw [t1, obs]
        exact ih σ2 t2
      · rw [hw, if_pos rfl]
        obtain ⟨σ2, t1, t2⟩ := x_tell1 (i := i) (g := g) (q := q) (v := 1) (by omega) ⟨f1, d2, d3⟩ (by rw [eT1, hw]; rfl) lT
        rw [t1, obs]
        exact ih σ2 t2
    · have z' : okC B N i = false := by simpa using z
      simp only [z', Bool.not_false, if_true]
      rw [if_neg (show ¬ (i : Int) = -1 by omega)]
      refine ⟨σ1, ?_, f1, fun q => by omega⟩
      unfold okC at z
      simp only [decide_eq_true_eq] at z
      grind
def yCut (σ : Mem) (t n : Int) : Int := if yTh (σ 115) t n 6 = 0 then yCx (σ 118) (rw3 σ t) n.toNat else yTh (σ 115) t n 6
theorem x_cutsWhy {t n : Int} (h : Rel σ) (hn : R32 n) : ∃ σ', f_X11_cutsWhy 0 t n σ = some (yCut σ t n, σ') ∧ Fr [0] σ σ' ∧ (yCut σ t n = 0 → wayX σ' (σ 118) (rw3 σ t) n.toNat) := by
  have hx := h.xh
  unfold f_X11_cutsWhy f_X11_cutsWhy_b0
  simp only [oX, if_true, x_threesWhy h hn, obs]
  by_cases hy : yTh (σ 115) t n 6 = 0
  · have ey : yCut σ t n = yCx (σ 118) (rw3 σ t) n.toNat := by unfold yCut; rw [if_pos hy]
    rw [ey, if_pos hy]
    obtain ⟨a, k, rfl, rfl, ha, hk, hl⟩ := yTh0 hy
    simp only [gX, obs, h.1.at 0 0 1 rfl, h.1.at 0 13 54 rfl, h.1.at 0 3 5 rfl, x_trays h.1 ha, x_g0 h.1 ha, Int.toNat_natCast, w_g, hx.2.1.1.2.1]
    have la := aS_lt hx.2.2
    have sl := sz_le (aS (σ 118))
    unfold f_X0_begin f_X0_begin_b0
    simp only [oCt, if_true, pCt, obs, s_bitCount la]
    have eh : w32 (Int.tdiv ((sz (aS (σ 118)) : Nat) : Int) 2) = ((sz (aS (σ 118)) / 2 : Nat) : Int) := by
      rw [Int.tdiv_eq_ediv_of_nonneg (by omega), w32_in (by omega) (by omega)]
      omega
    rw [eh]
    have z := (h.r3 a ha).resolve_left (fun q => by omega)
    refine x_cuts_h (t := a) (n := k) (N := rw3 σ a) hx ha (by omega) (fun j hj => ?_) _ ⟨(((Fr.up (show gid 54 5 ∈ _ by decide)).then (by decide)).then (by decide)).then (by decide), ⟨(((h.1.up rfl).up rfl).up rfl).up rfl, rfl, rfl, rfl, by unfold tqM; omega, la, fun j hj => by unfold tqM at hj; omega⟩, rfl⟩
    rw [z.2.2.2.2 j (by omega)]
    unfold rw3
    rw [Int.toNat_natCast]
  · have ey : yCut σ t n = yTh (σ 115) t n 6 := by unfold yCut; rw [if_neg hy]
    rw [ey, if_neg hy]
    exact ⟨σ, rfl, Fr.refl, fun z => absurd z hy⟩
/-! the reference's -/
theorem m_cuts_h {t n : Nat} (h : MH τ B) (ht : t < 4) (hn : n ≤ 6) : f_X12_whyNoCuts_h56 FU 113 t n 0 τ = some (if ff (fun i => !okC B (rw3 τ t) i) n 0 = -1 then 0 else 5) := by
  have hB := h.2.2.nP_le
  refine up_all (Q := fun k i => f_X12_whyNoCuts_h56 k 113 t n i τ = some (if ff (fun i => !okC B (rw3 τ t) i) n i = -1 then 0 else 5)) n (fun k => ?_) (fun k i hi ih => ?_) (by unfold FU; omega)
  · rw [hs_X12_whyNoCuts_h56]
    unfold f_X12_whyNoCuts_b56
    rw [if_pos (by omega), ff_N, if_pos rfl]
  · have eN : ∀ j, j < 60 → f_X12_numberOf 113 t (j : Nat) τ = some (rw3 τ t j) := fun j hj => by rw [m_numberOf h.1 ht hj]; unfold rw3; rw [Int.toNat_natCast]
    rw [hs_X12_whyNoCuts_h56]
    unfold f_X12_whyNoCuts_b56
    rw [if_neg (by omega), w32_in (z := 3 * (i : Int)) (by omega) (by omega), w32_in (z := 3 * (i : Int) + 1) (by omega) (by omega), w32_in (z := 3 * (i : Int) + 2) (by omega) (by omega), show 3 * (i : Int) = ((3 * i : Nat) : Int) by omega, show ((3 * i : Nat) : Int) + 1 = ((3 * i + 1 : Nat) : Int) by omega, show ((3 * i : Nat) : Int) + 2 = ((3 * i + 2 : Nat) : Int) by omega, eN _ (by omega), eN _ (by omega), eN _ (by omega)]
    simp only [obs, m_isPlaceAt h.1 h.2.1 h.2.2, s_isIn]
    rw [ff_s hi, w32_in (z := (i : Int) + 1) (by omega) (by omega)]
    by_cases z : okC B (rw3 τ t) i = true
    · obtain ⟨g, q, q1, q2, hg, hq, hw, eT1, eS1⟩ := okC_d z h.2.2
      simp only [z, Bool.not_true, Bool.false_eq_true, if_false]
      have q5 : 0 ≤ rw3 τ t (3 * i + 2) ∧ rw3 τ t (3 * i + 2) ≤ 1 := by omega
      rw [q1, q2, if_pos (show 0 ≤ (g : Int) ∧ (g : Int) ≤ 99 by omega), if_pos (show 0 ≤ (q : Int) ∧ (q : Int) < B 0 by omega), if_neg (by decide), if_neg (by decide), if_pos q5, if_neg (by decide)]
      exact ih
    · have z' : okC B (rw3 τ t) i = false := by simpa using z
      simp only [z', Bool.not_false, if_true]
      rw [if_neg (show ¬ (i : Int) = -1 by omega)]
      unfold okC at z
      simp only [decide_eq_true_eq] at z
      grind
def yCm0 (B N : Nat → Int) (n : Nat) : Int := if ff (fun i => !okC B N i) n 0 = -1 then 0 else 5
theorem m_whyNoCuts {t n : Int} (h : MH τ B) (hn : R32 n) : f_X12_whyNoCuts 113 t n τ = some (if yTh (τ 115) t n 6 = 0 then yCm0 B (rw3 τ t) n.toNat else yTh (τ 115) t n 6) := by
  obtain ⟨n1, n2⟩ := hn
  unfold f_X12_whyNoCuts f_X12_whyNoCuts_b0
  simp only [oM, if_true, gM, obs, m_isTray, h.1.at 113 5 115 rfl, lcmp_ge, s_isIn]
  rw [w64_in (by omega) (by omega)]
  by_cases hy : yTh (τ 115) t n 6 = 0
  · obtain ⟨a, k, rfl, rfl, ha, hk, hl⟩ := yTh0 hy
    simp only [m_mny ha, obs]
    rw [if_pos hy, if_pos (show 0 ≤ (a : Int) ∧ (a : Int) < 4 by omega), if_neg (by decide), if_pos (show 0 ≤ τ 115 a by omega), if_pos hl, if_pos (show 0 ≤ (k : Int) ∧ (k : Int) ≤ 6 by omega), if_neg (by decide), m_cuts_h h ha (by omega), Int.toNat_natCast]
    rfl
  · rw [if_neg hy]
    unfold yTh at hy ⊢
    by_cases q : 0 ≤ t ∧ t < 4
    · obtain ⟨a, rfl⟩ := nat_of q.1
      have ha : a < 4 := by omega
      simp only [m_mny ha, obs, Int.toNat_natCast] at hy ⊢
      grind
    · grind
theorem al123 {i : Nat} (h : i < 6) : al Sh σ 20 123 i = some (σ 123 i) := by
  have := al_at (σ := σ) (isA_at (k := 20) (a := 123) (n := 6) (i := (i : Int)) rfl (by omega) (by omega))
  rw [Int.toNat_natCast, Int.toNat_natCast] at this
  exact this
theorem al124 {i : Nat} (h : i < 6) : al Sh σ 20 124 i = some (σ 124 i) := by
  have := al_at (σ := σ) (isA_at (k := 20) (a := 124) (n := 6) (i := (i : Int)) rfl (by omega) (by omega))
  rw [Int.toNat_natCast, Int.toNat_natCast] at this
  exact this
theorem al125 {i : Nat} (h : i < 10) : al Sh σ 20 125 i = some (σ 125 i) := by
  have := al_at (σ := σ) (isA_at (k := 20) (a := 125) (n := 10) (i := (i : Int)) rfl (by omega) (by omega))
  rw [Int.toNat_natCast, Int.toNat_natCast] at this
  exact this
theorem st123 {i : Nat} {v : Int} (h : i < 6) : st_ Sh σ 20 123 i v = some (upm σ 123 i v) := by
  have := st_at (σ := σ) (v := v) (isA_at (k := 20) (a := 123) (n := 6) (i := (i : Int)) rfl (by omega) (by omega))
  rw [Int.toNat_natCast, Int.toNat_natCast] at this
  exact this
theorem st124 {i : Nat} {v : Int} (h : i < 6) : st_ Sh σ 20 124 i v = some (upm σ 124 i v) := by
  have := st_at (σ := σ) (v := v) (isA_at (k := 20) (a := 124) (n := 6) (i := (i : Int)) rfl (by omega) (by omega))
  rw [Int.toNat_natCast, Int.toNat_natCast] at this
  exact this
theorem st125 {i : Nat} {v : Int} (h : i < 10) : st_ Sh σ 20 125 i v = some (upm σ 125 i v) := by
  have := st_at (σ := σ) (v := v) (isA_at (k := 20) (a := 125) (n := 10) (i := (i : Int)) rfl (by omega) (by omega))
  rw [Int.toNat_natCast, Int.toNat_natCast] at this
  exact this
def wnt (B N : Nat → Int) (i : Nat) : Nat := (if (eT B N i).2 = true then 1 else 0) + (if eS B N i = true then 2 else 0)
def dM (τ : Mem) (B N : Nat → Int) (n : Nat) : Prop := MH τ B ∧ n ≤ 6 ∧ ∀ i, i < n → τ 123 i = ((eT B N i).1 : Nat) ∧ τ 124 i = (wnt B N i : Nat) ∧ (eT B N i).1 < 1024
theorem wnt_bit {i : Nat} : (wnt B N i).testBit 1 = eS B N i ∧ (wnt B N i).testBit 0 = (eT B N i).2 ∧ wnt B N i < 4 := by
  unfold wnt
  cases eS B N i <;> cases (eT B N i).2 <;> decide
theorem m_holds {n K H : Nat} (d : dM τ B N n) (hK : K < 1024) (hH : H < 1024) : f_X12_holds 113 n K H τ = some (if lfm B N n K H = true then 1 else 0) := by
  obtain ⟨h, hn, hd⟩ := d
  unfold f_X12_holds f_X12_holds_b0
  rw [if_pos oM]
  have := up_all (Q := fun m i => (∀ j, j < i → ((eS B N j && more (sub (eT B N j).1 K ||| H) (aS B)) == (eT B N j).2) = true) → f_X12_holds_h3 m 113 n K H i τ = some (if lfm B N n K H = true then 1 else 0)) n (fun m q => ?_) (fun m i hi ih q => ?_) (by unfold FU; omega)
  · exact this (fun j hj => by omega)
  · rw [hs_X12_holds_h3]
    unfold f_X12_holds_b3
    rw [if_pos (by omega), if_pos (show lfm B N n K H = true from alb_iff.mpr q)]
  · obtain ⟨d1, d2, d3⟩ := hd i hi
    obtain ⟨w1, w2, w3⟩ := @wnt_bit B N i
    have hsub : sub (eT B N i).1 K < 1024 := sub_lt (n := 10) d3
    have hor : sub (eT B N i).1 K ||| H < 1024 := Nat.or_lt_two_pow (n := 10) hsub hH
    rw [hs_X12_holds_h3]
    unfold f_X12_holds_b3 f_X12_holds_b51 f_X12_holds_b52
    simp only [gM, obs, h.1.at 113 29 123 rfl, h.1.at 113 30 124 rfl, al123 (σ := τ) (show i < 6 by omega), al124 (σ := τ) (show i < 6 by omega), d1, d2, m_stones h.1 h.2.1 h.2.2]
    rw [if_neg (by omega), show f_X12_has ((wnt B N i : Nat) : Int) 1 τ = _ from s_has (k := 1) (by omega) (by omega), show f_X12_has ((wnt B N i : Nat) : Int) 0 τ = _ from s_has (k := 0) (by omega) (by omega), obs, obs, w1, w2, iandn (by omega) (by omega), show (eT B N i).1 ^^^ ((eT B N i).1 &&& K) = sub (eT B N i).1 K from rfl, ior_nat (by omega) (by omega), m_isMore hor (aS_lt h.2.2), obs, w32_in (by omega) (by omega)]
    have good : ((eS B N i && more (sub (eT B N i).1 K ||| H) (aS B)) == (eT B N i).2) = true → f_X12_holds_h3 m 113 n K H ((i : Int) + 1) τ = some (if lfm B N n K H = true then 1 else 0) := fun g => ih fun j hj => by
      by_cases e0 : j = i
      · rw [e0]; exact g
      · exact q j (by omega)
    have bad : ¬ ((eS B N i && more (sub (eT B N i).1 K ||| H) (aS B)) == (eT B N i).2) = true → (some 0 : Option Int) = some (if lfm B N n K H = true then 1 else 0) := fun g => by
      rw [if_neg]
      intro z
      exact g (alb_iff.mp z i hi)
    cases hs : eS B N i <;> cases hm : more (sub (eT B N i).1 K ||| H) (aS B) <;> cases hc : (eT B N i).2 <;> rw [hs, hm, hc] at good bad <;> simp only [Bool.false_eq_true, if_false, if_true, Int.one_ne_zero, Bool.false_and, Bool.true_and, Bool.and_false] at good bad ⊢
    all_goals first | exact good rfl | exact bad (by decide)
def wy (K H k : Nat) : Int := if K.testBit k = true then 1 else if H.testBit k = true then 2 else 0
theorem dM.fp {τ1 : Mem} {n : Nat} (d : dM τ B N n) (f : ∀ b j, ¬ b = 125 → τ1 b j = τ b j) : dM τ1 B N n := by
  obtain ⟨⟨h1, h2, h3⟩, hn, hd⟩ := d
  refine ⟨⟨h1.cell fun x hx => f _ _ fun q => ?_, by funext j; rw [f _ _ (by decide), h2], h3⟩, hn, fun i hi => ?_⟩
  · have : isRf x.1 x.2.1 = true := List.any_eq_true.mpr ⟨x, hx, by simp⟩
    rw [q, isRf_cell rfl] at this
    cases this
  · rw [f _ _ (by decide), f _ _ (by decide)]
    exact hd i hi
theorem m_cutsFrom {n : Nat} : ∀ (r m p l K H : Nat) (τ : Mem), p + r = nP B → r < m → dM τ B N n → frs p K H → K < 1024 → H < 1024 → l ≤ 10 → ∃ τ', (∀ b j, ¬ (b = 125 ∧ p ≤ j) → τ' b j = τ b j) ∧ ((∃ K' H', Sc (lfm B N n) (fun k => (aS B).testBit k) r p l K H = some (K', H') ∧ f_X12_cutsFrom m 113 p l n K H τ = some (1, τ') ∧ ∀ k, p ≤ k → k < nP B → τ' 125 k = wy K' H' k) ∨ (Sc (lfm B N n) (fun k => (aS B).testBit k) r p l K H = none ∧ f_X12_cutsFrom m 113 p l n K H τ = some (0, τ'))) := by
  intro r
  induction r with
  | zero =>
    intro m p l K H τ hpr hm d f hK hH hl
    have hB := d.1.2.2.nP_le
    obtain ⟨m, rfl⟩ : ∃ k, m = k + 1 := ⟨m - 1, by omega⟩
    rw [hs_X12_cutsFrom]
    unfold f_X12_cutsFrom_body f_X12_cutsFrom_b0
    simp only [oM, if_true, gM, obs, d.1.1.at 113 20 118 rfl, m_c0 d.1, m_holds d hK hH]
    rw [if_pos (by omega), Sc_0]
    refine ⟨τ, fun _ _ _ => rfl, ?_⟩
    by_cases l0 : l = 0
    · subst l0
      rw [if_pos (show ((0 : Nat) : Int) = 0 from rfl)]
      by_cases z : lfm B N n K H = true
      · rw [if_pos ⟨rfl, z⟩, if_pos z, if_neg (by decide)]
        exact .inl ⟨K, H, rfl, rfl, fun k h1 h2 => by omega⟩
      · rw [if_neg (fun q => z q.2), if_neg z, if_pos rfl]
        exact .inr ⟨rfl, rfl⟩
    · rw [if_neg (show ¬ (l : Int) = 0 by omega), if_neg (show ¬ (l = 0 ∧ lfm B N n K H = true) from fun q => l0 q.1)]
      exact .inr ⟨rfl, rfl⟩
  | succ r ih =>
    intro m p l K H τ hpr hm d f hK hH hl
    have hB := d.1.2.2.nP_le
    obtain ⟨m, rfl⟩ : ∃ k, m = k + 1 := ⟨m - 1, by omega⟩
    have pw : 2 ^ p < 2 ^ 10 := Nat.pow_lt_pow_right (by omega) (by omega)
    have sA : (aS B).testBit p = stn B p := by rw [aS_bit]; simp; intro; omega
    rw [hs_X12_cutsFrom]
    unfold f_X12_cutsFrom_body f_X12_cutsFrom_b0
    rw [if_pos oM, gM, obs, d.1.1.at 113 20 118 rfl, m_c0 d.1, obs, if_neg (by omega), gM, obs, d.1.1.at 113 31 125 rfl, st125 (by omega), obs, w32_in (z := (p : Int) + 1) (by omega) (by omega), show (p : Int) + 1 = ((p + 1 : Nat) : Int) by omega]
    have d0 : dM (upm τ 125 p 0) B N n := d.fp fun b j hb => upm_o hb
    have f1 : frs (p + 1) K H := fun k hk => f k (by omega)
    obtain ⟨τ1, g1, g2⟩ := ih m (p + 1) l K H (upm τ 125 p 0) (by omega) (by omega) d0 f1 hK hH hl
    have k1 : ∀ b j, ¬ (b = 125 ∧ p ≤ j) → τ1 b j = τ b j := fun b j hb => by rw [g1 b j (by omega), upm_app, if_neg (by omega)]
    have top : ∀ (K1 H1 K' H' v : Nat) (l1 : Nat) (τa τb : Mem), Sc (lfm B N n) (fun k => (aS B).testBit k) r (p + 1) l1 K1 H1 = some (K', H') → frs (p + 1) K1 H1 → K1 < 1024 → H1 < 1024 → (∀ b j, ¬ (b = 125 ∧ p + 1 ≤ j) → τb b j = upm τa 125 p (v : Int) b j) → (∀ k, p + 1 ≤ k → k < nP B → τb 125 k = wy K' H' k) → (v : Int) = wy K1 H1 p → ∀ k, p ≤ k → k < nP B → τb 125 k = wy K' H' k := by
      intro K1 H1 K' H' v l1 τa τb hsc hf hK1 hH1 hfr hw hv k h1 h2
      by_cases e0 : k = p
      · subst e0
        rw [hfr 125 k (by omega), upm_same, hv]
        have := (Sc_spec hsc hf (by omega) hK1 hH1).1 k (by omega)
        unfold wy
        rw [this.1, this.2]
      · exact hw k (by omega) h2
    rcases g2 with ⟨K', H', g3, g4, g5⟩ | ⟨g3, g4⟩
    · rw [g4, obs]
      dsimp only
      rw [if_neg (by decide)]
      refine ⟨τ1, k1, .inl ⟨K', H', by rw [Sc_s, g3, Option.some_or], rfl, top K H K' H' 0 l τ τ1 g3 f1 hK hH g1 g5 ?_⟩⟩
      unfold wy
      rw [(f p (Nat.le_refl _)).1, (f p (Nat.le_refl _)).2]
      rfl
    · rw [g4, obs]
      dsimp only
      rw [if_pos rfl]
      have d1 : dM τ1 B N n := d.fp fun b j hb => k1 b j (by omega)
      by_cases l0 : l = 0
      · subst l0
        rw [if_pos (show ((0 : Nat) : Int) = 0 from rfl)]
        exact ⟨τ1, k1, .inr ⟨by rw [Sc_s, g3, Option.none_or, if_pos (.inl rfl)], rfl⟩⟩
      · rw [if_neg (by omega), m_stone' d1.1 (by omega), obs]
        by_cases s : stn B p = true
        · have hs : ¬ (l = 0 ∨ (aS B).testBit p = false) := by rw [sA, s]; simp; omega
          rw [if_pos s, if_neg (by decide), gM, obs, d1.1.1.at 113 31 125 rfl, st125 (by omega), obs, w32_in (z := (l : Int) - 1) (by omega) (by omega), show (l : Int) - 1 = ((l - 1 : Nat) : Int) by omega, shl1 (by omega), ior_nat (by omega) (by omega), ior_nat (by omega) (by omega)]
          have hK2 : K ||| 2 ^ p < 1024 := Nat.or_lt_two_pow (n := 10) hK pw
          have hH2 : H ||| 2 ^ p < 1024 := Nat.or_lt_two_pow (n := 10) hH pw
          have fK : frs (p + 1) (K ||| 2 ^ p) H := fun k hk => by rw [or_bit, (f k (by omega)).1, (f k (by omega)).2]; simp; omega
          have fH : frs (p + 1) K (H ||| 2 ^ p) := fun k hk => by rw [or_bit, (f k (by omega)).1, (f k (by omega)).2]; simp; omega
          obtain ⟨τ2, u1, u2⟩ := ih m (p + 1) (l - 1) (K ||| 2 ^ p) H (upm τ1 125 p 1) (by omega) (by omega) (d1.fp fun b j hb => upm_o hb) fK hK2 hH (by omega)
          have k2 : ∀ b j, ¬ (b = 125 ∧ p ≤ j) → τ2 b j = τ b j := fun b j hb => by rw [u1 b j (by omega), upm_app, if_neg (by omega), k1 b j hb]
          rcases u2 with ⟨K', H', u3, u4, u5⟩ | ⟨u3, u4⟩
          · rw [u4, obs]
            dsimp only
            rw [if_neg (by decide)]
            refine ⟨τ2, k2, .inl ⟨K', H', by rw [Sc_s, g3, Option.none_or, if_neg hs, u3, Option.some_or], rfl, top (K ||| 2 ^ p) H K' H' 1 (l - 1) τ1 τ2 u3 fK hK2 hH u1 u5 ?_⟩⟩
            unfold wy
            rw [or_bit]
            simp
          · rw [u4, obs]
            dsimp only
            have d2 : dM τ2 B N n := d.fp fun b j hb => k2 b j (by omega)
            rw [if_pos rfl, gM, obs, d2.1.1.at 113 31 125 rfl, st125 (by omega), obs]
            obtain ⟨τ3, v1, v2⟩ := ih m (p + 1) (l - 1) K (H ||| 2 ^ p) (upm τ2 125 p 2) (by omega) (by omega) (d2.fp fun b j hb => upm_o hb) fH hK hH2 (by omega)
            have k3 : ∀ b j, ¬ (b = 125 ∧ p ≤ j) → τ3 b j = τ b j := fun b j hb => by rw [v1 b j (by omega), upm_app, if_neg (by omega), k2 b j hb]
            rcases v2 with ⟨K', H', v3, v4, v5⟩ | ⟨v3, v4⟩
            · rw [v4, obs]
              dsimp only
              rw [bz1, obs]
              refine ⟨τ3, k3, .inl ⟨K', H', by rw [Sc_s, g3, Option.none_or, if_neg hs, u3, Option.none_or, v3], rfl, top K (H ||| 2 ^ p) K' H' 2 (l - 1) τ2 τ3 v3 fH hK hH2 v1 v5 ?_⟩⟩
              unfold wy
              rw [or_bit, (f p (Nat.le_refl _)).1, (f p (Nat.le_refl _)).2]
              simp
            · rw [v4, obs]
              dsimp only
              rw [bz0, obs]
              exact ⟨τ3, k3, .inr ⟨by rw [Sc_s, g3, Option.none_or, if_neg hs, u3, Option.none_or, v3], rfl⟩⟩
        · have hs : (aS B).testBit p = false := by rw [sA]; simpa using s
          rw [if_neg s, if_pos rfl]
          exact ⟨τ1, k1, .inr ⟨by rw [Sc_s, g3, Option.none_or, if_pos (.inr hs)], rfl⟩⟩
end
