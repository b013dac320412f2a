/-! ===== copies; mark, back ===== -/
section
variable {σ σ' τ : Mem} {a c : Nat} {B D : Nat → Int}
def cpW (σ : Mem) (a c i : Nat) : Mem := fun b j => if a + 1 ≤ b ∧ b ≤ a + 5 ∧ j < i then σ (b - a + c) j else σ b j
def cpK (σ : Mem) (a c i : Nat) : Mem := fun b j => if a + 6 ≤ b ∧ b ≤ a + 8 ∧ j < i then (if b = a + 7 then b1 (σ (c + 7) j) else σ (b - a + c) j) else σ b j
theorem cpW_0 : cpW σ a c 0 = σ := by funext b j; unfold cpW; rw [if_neg (by omega)]
theorem cpK_0 : cpK σ a c 0 = σ := by funext b j; unfold cpK; rw [if_neg (by omega)]
theorem cpW_o {i b j : Nat} (h : b < a + 1 ∨ a + 5 < b ∨ i ≤ j) : cpW σ a c i b j = σ b j := by unfold cpW; rw [if_neg (by omega)]
theorem cpK_o {i b j : Nat} (h : b < a + 6 ∨ a + 8 < b ∨ i ≤ j) : cpK σ a c i b j = σ b j := by unfold cpK; rw [if_neg (by omega)]
theorem cpW_i {i m j : Nat} (h : 1 ≤ m ∧ m ≤ 5) (hj : j < i) : cpW σ a c i (a + m) j = σ (c + m) j := by unfold cpW; rw [if_pos (by omega)]; congr 1; omega
theorem cpK_i {i m j : Nat} (h : m = 6 ∨ m = 8) (hj : j < i) : cpK σ a c i (a + m) j = σ (c + m) j := by unfold cpK; rw [if_pos (by omega), if_neg (by omega)]; congr 1; omega
theorem cpK_7 {i j : Nat} (hj : j < i) : cpK σ a c i (a + 7) j = b1 (σ (c + 7) j) := by unfold cpK; rw [if_pos (by omega), if_pos rfl]
theorem cpW_s {i : Nat} : upm (upm (upm (upm (upm (cpW σ a c i) (a + 1) i (σ (c + 1) i)) (a + 2) i (σ (c + 2) i)) (a + 3) i (σ (c + 3) i)) (a + 4) i (σ (c + 4) i)) (a + 5) i (σ (c + 5) i) = cpW σ a c (i + 1) := by
  funext b j
  simp only [upm_app]
  by_cases q : a + 1 ≤ b ∧ b ≤ a + 5 ∧ j = i
  · obtain ⟨q1, q2, rfl⟩ := q
    rcases (show b = a + 1 ∨ b = a + 2 ∨ b = a + 3 ∨ b = a + 4 ∨ b = a + 5 by omega) with rfl | rfl | rfl | rfl | rfl <;> (rw [cpW_i (i := j + 1) (by omega) (by omega)]; simp)
  · rw [if_neg (by omega), if_neg (by omega), if_neg (by omega), if_neg (by omega), if_neg (by omega)]
    unfold cpW
    by_cases r : a + 1 ≤ b ∧ b ≤ a + 5 ∧ j < i
    · rw [if_pos r, if_pos (by omega)]
    · rw [if_neg r, if_neg (by omega)]
theorem cpK_s {i : Nat} : upm (upm (upm (cpK σ a c i) (a + 6) i (σ (c + 6) i)) (a + 7) i (b1 (σ (c + 7) i))) (a + 8) i (σ (c + 8) i) = cpK σ a c (i + 1) := by
  funext b j
  simp only [upm_app]
  by_cases q : a + 6 ≤ b ∧ b ≤ a + 8 ∧ j = i
  · obtain ⟨q1, q2, rfl⟩ := q
    rcases (show b = a + 6 ∨ b = a + 7 ∨ b = a + 8 by omega) with rfl | rfl | rfl
    · rw [cpK_i (i := j + 1) (by omega) (by omega)]; simp
    · rw [cpK_7 (i := j + 1) (by omega)]; simp
    · rw [cpK_i (i := j + 1) (by omega) (by omega)]; simp
  · rw [if_neg (by omega), if_neg (by omega), if_neg (by omega)]
    unfold cpK
    by_cases r : a + 6 ≤ b ∧ b ≤ a + 8 ∧ j < i
    · rw [if_pos r, if_pos (c := a + 6 ≤ b ∧ b ≤ a + 8 ∧ j < i + 1) (by omega)]
    · rw [if_neg r, if_neg (by omega)]
theorem cpW_fp {i : Nat} (hW : wl a) : Fp (wS a) σ (cpW σ a c i) := by
  intro b j hb
  unfold cpW
  rw [if_neg]
  rintro ⟨q1, q2, _⟩
  obtain ⟨m, rfl⟩ : ∃ m, b = a + m := ⟨b - a, by omega⟩
  exact hb ⟨by omega, by omega, nrWs hW (by omega) (by omega)⟩
theorem cpK_fp {i : Nat} (hW : wl a) : Fp (wS a) σ (cpK σ a c i) := by
  intro b j hb
  unfold cpK
  rw [if_neg]
  rintro ⟨q1, q2, _⟩
  obtain ⟨m, rfl⟩ : ∃ m, b = a + m := ⟨b - a, by omega⟩
  exact hb ⟨by omega, by omega, nrWs hW (by omega) (by omega)⟩
theorem wfp {m j : Nat} {v : Int} (hW : wl a) (h0 : 1 ≤ m) (h1 : m ≤ 8) : Fp (wS a) σ (upm σ (a + m) j v) := Fp.up ⟨by omega, by omega, nrWs hW h0 h1⟩
/-- one number of a row copied -/
theorem x_cp1 {i : Nat} {k : Mem → Option Mem} (hW : wl a) (hC : wl c) (hR : Ref σ) (hi : i < 10) : ((gf Sh σ 9 a 2).bind fun x => (gf Sh σ 9 c 2).bind fun y => (al Sh σ 20 y i).bind fun z => (st_ Sh σ 20 x i z).bind k) = k (upm σ (a + 1) i (σ (c + 1) i)) := by
  simp only [gW hW, gW hC, obs, (rW hR hW).1, (rW hR hC).1]
  rw [alW1 hC (by omega) (by omega)]
  simp only [obs]
  rw [stW1 hW (by omega) (by omega)]
  simp only [obs, Int.toNat_natCast]
theorem x_cp2 {i : Nat} {k : Mem → Option Mem} (hW : wl a) (hC : wl c) (hR : Ref σ) (hi : i < 10) : ((gf Sh σ 9 a 3).bind fun x => (gf Sh σ 9 c 3).bind fun y => (al Sh σ 20 y i).bind fun z => (st_ Sh σ 20 x i z).bind k) = k (upm σ (a + 2) i (σ (c + 2) i)) := by
  simp only [gW hW, gW hC, obs, (rW hR hW).2.1, (rW hR hC).2.1]
  rw [alW2 hC (by omega) (by omega)]
  simp only [obs]
  rw [stW2 hW (by omega) (by omega)]
  simp only [obs, Int.toNat_natCast]
theorem x_cp3 {i : Nat} {k : Mem → Option Mem} (hW : wl a) (hC : wl c) (hR : Ref σ) (hi : i < 10) : ((gf Sh σ 9 a 4).bind fun x => (gf Sh σ 9 c 4).bind fun y => (al Sh σ 20 y i).bind fun z => (st_ Sh σ 20 x i z).bind k) = k (upm σ (a + 3) i (σ (c + 3) i)) := by
  simp only [gW hW, gW hC, obs, (rW hR hW).2.2.1, (rW hR hC).2.2.1]
  rw [alW3 hC (by omega) (by omega)]
  simp only [obs]
  rw [stW3 hW (by omega) (by omega)]
  simp only [obs, Int.toNat_natCast]
theorem x_cp4 {i : Nat} {k : Mem → Option Mem} (hW : wl a) (hC : wl c) (hR : Ref σ) (hi : i < 10) : ((gf Sh σ 9 a 5).bind fun x => (gf Sh σ 9 c 5).bind fun y => (al Sh σ 20 y i).bind fun z => (st_ Sh σ 20 x i z).bind k) = k (upm σ (a + 4) i (σ (c + 4) i)) := by
  simp only [gW hW, gW hC, obs, (rW hR hW).2.2.2.1, (rW hR hC).2.2.2.1]
  rw [alW4 hC (by omega) (by omega)]
  simp only [obs]
  rw [stW4 hW (by omega) (by omega)]
  simp only [obs, Int.toNat_natCast]
theorem x_cp5 {i : Nat} {k : Mem → Option Mem} (hW : wl a) (hC : wl c) (hR : Ref σ) (hi : i < 10) : ((gf Sh σ 9 a 6).bind fun x => (gf Sh σ 9 c 6).bind fun y => (al Sh σ 21 y i).bind fun z => (st_ Sh σ 21 x i z).bind k) = k (upm σ (a + 5) i (σ (c + 5) i)) := by
  simp only [gW hW, gW hC, obs, (rW hR hW).2.2.2.2.1, (rW hR hC).2.2.2.2.1]
  rw [alW5 hC (by omega) (by omega)]
  simp only [obs]
  rw [stW5 hW (by omega) (by omega)]
  simp only [obs, Int.toNat_natCast]
theorem x_cp6 {i : Nat} {k : Mem → Option Mem} (hW : wl a) (hC : wl c) (hR : Ref σ) (hi : i < 4) : ((gf Sh σ 9 a 8).bind fun x => (gf Sh σ 9 c 8).bind fun y => (al Sh σ 20 y i).bind fun z => (st_ Sh σ 20 x i z).bind k) = k (upm σ (a + 6) i (σ (c + 6) i)) := by
  simp only [gW hW, gW hC, obs, (rW hR hW).2.2.2.2.2.1, (rW hR hC).2.2.2.2.2.1]
  rw [alW6 hC (by omega) (by omega)]
  simp only [obs]
  rw [stW6 hW (by omega) (by omega)]
  simp only [obs, Int.toNat_natCast]
theorem x_cp7 {i : Nat} {k : Mem → Option Mem} (hW : wl a) (hC : wl c) (hR : Ref σ) (hi : i < 4) : ((gf Sh σ 9 a 9).bind fun x => (gf Sh σ 9 c 9).bind fun y => (al Sh σ 23 y i).bind fun z => (st_ Sh σ 23 x i (b1 z)).bind k) = k (upm σ (a + 7) i (b1 (σ (c + 7) i))) := by
  simp only [gW hW, gW hC, obs, (rW hR hW).2.2.2.2.2.2.1, (rW hR hC).2.2.2.2.2.2.1]
  rw [alW7 hC (by omega) (by omega)]
  simp only [obs]
  rw [stW7 hW (by omega) (by omega)]
  simp only [obs, Int.toNat_natCast]
theorem x_cp8 {i : Nat} {k : Mem → Option Mem} (hW : wl a) (hC : wl c) (hR : Ref σ) (hi : i < 4) : ((gf Sh σ 9 a 10).bind fun x => (gf Sh σ 9 c 10).bind fun y => (al Sh σ 21 y i).bind fun z => (st_ Sh σ 21 x i z).bind k) = k (upm σ (a + 8) i (σ (c + 8) i)) := by
  simp only [gW hW, gW hC, obs, (rW hR hW).2.2.2.2.2.2.2, (rW hR hC).2.2.2.2.2.2.2]
  rw [alW8 hC (by omega) (by omega)]
  simp only [obs]
  rw [stW8 hW (by omega) (by omega)]
  simp only [obs, Int.toNat_natCast]
theorem upm_o {b j b' j' : Nat} {v : Int} (h : ¬ b' = b) : upm σ b j v b' j' = σ b' j' := by rw [upm_app, if_neg (by omega)]
def fldW (σ : Mem) (a c : Nat) : Mem := upm (upm (upm (upm (upm σ a 11 (σ c 11)) a 12 (σ c 12)) a 13 (σ c 13)) a 14 (σ c 14)) a 15 (σ c 15)
theorem x_copyFrom_k (hW : wl a) (hC : wl c) (hd : a + 9 ≤ c ∨ c + 9 ≤ a) (hR : Ref σ) : f_X9_copyFrom_h100 FU a c 0 σ = some (fldW (cpK σ a c 4) a c) := by
  have := up_all (Q := fun n i => f_X9_copyFrom_h100 n a c (i : Int) (cpK σ a c i) = some (fldW (cpK σ a c 4) a c)) 4 (fun n => ?_) (fun n i hi ih => ?_) (by unfold FU; omega)
  · rw [cpK_0] at this
    exact this
  · rw [hs_X9_copyFrom_h100]
    unfold f_X9_copyFrom_b100
    rw [if_pos (by omega)]
    simp only [gW hC, pW hW, obs]
    unfold fldW
    simp (disch := omega) only [upm_o]
  · have f0 : Fp (wS a) σ (cpK σ a c i) := cpK_fp hW
    have f1 := f0.trans (wfp (m := 6) (j := i) (v := σ (c + 6) i) hW (by omega) (by omega))
    have f2 := f1.trans (wfp (m := 7) (j := i) (v := b1 (σ (c + 7) i)) hW (by omega) (by omega))
    rw [hs_X9_copyFrom_h100]
    unfold f_X9_copyFrom_b100
    rw [if_neg (by omega), x_cp6 hW hC (f0.refW hR) hi, cpK_o (by omega), x_cp7 hW hC (f1.refW hR) hi, upm_o (by omega), cpK_o (by omega), x_cp8 hW hC (f2.refW hR) hi, upm_o (by omega), upm_o (by omega), cpK_o (by omega), cpK_s, w32_in (by omega) (by omega)]
    exact ih
theorem x_copyFrom_w (hW : wl a) (hC : wl c) (hd : a + 9 ≤ c ∨ c + 9 ≤ a) (hR : Ref σ) : f_X9_copyFrom_h18 FU a c 0 σ = some (fldW (cpK (upm (cpW σ a c 10) a 7 (σ c 7)) a c 4) a c) := by
  have := up_all (Q := fun n i => f_X9_copyFrom_h18 n a c (i : Int) (cpW σ a c i) = some (fldW (cpK (upm (cpW σ a c 10) a 7 (σ c 7)) a c 4) a c)) 10 (fun n => ?_) (fun n i hi ih => ?_) (by unfold FU; omega)
  · rw [cpW_0] at this
    exact this
  · rw [hs_X9_copyFrom_h18]
    unfold f_X9_copyFrom_b18
    rw [if_pos (by omega)]
    simp only [gW hC, pW hW, obs]
    have f0 : Fp (wS a) σ (cpW σ a c 10) := cpW_fp hW
    rw [cpW_o (by omega)]
    exact x_copyFrom_k hW hC hd ((f0.then (v := σ c 7) (i := 7) ⟨Nat.le_refl a, by omega, (nrW hW).2.2.1⟩).refW hR)
  · have f0 : Fp (wS a) σ (cpW σ a c i) := cpW_fp hW
    have f1 := f0.trans (wfp (m := 1) (j := i) (v := σ (c + 1) i) hW (by omega) (by omega))
    have f2 := f1.trans (wfp (m := 2) (j := i) (v := σ (c + 2) i) hW (by omega) (by omega))
    have f3 := f2.trans (wfp (m := 3) (j := i) (v := σ (c + 3) i) hW (by omega) (by omega))
    have f4 := f3.trans (wfp (m := 4) (j := i) (v := σ (c + 4) i) hW (by omega) (by omega))
    rw [hs_X9_copyFrom_h18]
    unfold f_X9_copyFrom_b18
    rw [if_neg (by omega), x_cp1 hW hC (f0.refW hR) hi, cpW_o (by omega), x_cp2 hW hC (f1.refW hR) hi, upm_o (by omega), cpW_o (by omega), x_cp3 hW hC (f2.refW hR) hi, upm_o (by omega), upm_o (by omega), cpW_o (by omega), x_cp4 hW hC (f3.refW hR) hi, upm_o (by omega), upm_o (by omega), upm_o (by omega), cpW_o (by omega), x_cp5 hW hC (f4.refW hR) hi, upm_o (by omega), upm_o (by omega), upm_o (by omega), upm_o (by omega), cpW_o (by omega), cpW_s, w32_in (by omega) (by omega)]
    exact ih
theorem x_copyFrom (hW : wl a) (hC : wl c) (hd : a + 9 ≤ c ∨ c + 9 ≤ a) (hR : Ref σ) (h : WR σ c B D) (hB : BV B) : ∃ σ', f_X9_copyFrom a c σ = some σ' ∧ WR σ' a B D ∧ Fp (wS a) σ σ' := by
  have hn := nrW hW
  have f0 : Fp (wS a) σ (upm (upm σ a 0 (σ c 0)) a 1 (σ c 1)) := (Fp.up (show wS a a 0 from ⟨by omega, by omega, hn.1⟩)).then ⟨by omega, by omega, hn.2.1⟩
  have f1 := f0.trans (cpW_fp (c := c) (i := 10) hW)
  have f2 := f1.then (v := σ c 7) (show wS a a 7 from ⟨by omega, by omega, hn.2.2.1⟩)
  have f3 := f2.trans (cpK_fp (c := c) (i := 4) hW)
  refine ⟨fldW (cpK (upm (cpW (upm (upm σ a 0 (σ c 0)) a 1 (σ c 1)) a c 10) a 7 (σ c 7)) a c 4) a c, ?_, ?_, ?_⟩
  · unfold f_X9_copyFrom f_X9_copyFrom_b0
    simp only [oW hW, if_true, gW hC, pW hW, obs]
    rw [upm_o (by omega), x_copyFrom_w hW hC hd (f0.refW hR), upm_o (by omega), upm_o (by omega)]
  · have e1 : ∀ m j, 1 ≤ m → m ≤ 5 → j < 10 → fldW (cpK (upm (cpW (upm (upm σ a 0 (σ c 0)) a 1 (σ c 1)) a c 10) a 7 (σ c 7)) a c 4) a c (a + m) j = σ (c + m) j := by
      intro m j h1 h2 h3
      unfold fldW
      rw [upm_o (by omega), upm_o (by omega), upm_o (by omega), upm_o (by omega), upm_o (by omega), cpK_o (by omega), upm_o (by omega), cpW_i (by omega) h3, upm_o (by omega), upm_o (by omega)]
    have e2 : ∀ m j, m = 6 ∨ m = 8 → j < 4 → fldW (cpK (upm (cpW (upm (upm σ a 0 (σ c 0)) a 1 (σ c 1)) a c 10) a 7 (σ c 7)) a c 4) a c (a + m) j = σ (c + m) j := by
      intro m j h1 h3
      unfold fldW
      rw [upm_o (by omega), upm_o (by omega), upm_o (by omega), upm_o (by omega), upm_o (by omega), cpK_i h1 h3, upm_o (by omega), cpW_o (by omega), upm_o (by omega), upm_o (by omega)]
    have e3 : ∀ j, j < 4 → fldW (cpK (upm (cpW (upm (upm σ a 0 (σ c 0)) a 1 (σ c 1)) a c 10) a 7 (σ c 7)) a c 4) a c (a + 7) j = b1 (σ (c + 7) j) := by
      intro j h3
      unfold fldW
      rw [upm_o (by omega), upm_o (by omega), upm_o (by omega), upm_o (by omega), upm_o (by omega), cpK_7 h3, upm_o (by omega), cpW_o (by omega), upm_o (by omega), upm_o (by omega)]
    have e4 : ∀ j, j = 0 ∨ j = 1 ∨ j = 7 ∨ (11 ≤ j ∧ j ≤ 15) → fldW (cpK (upm (cpW (upm (upm σ a 0 (σ c 0)) a 1 (σ c 1)) a c 10) a 7 (σ c 7)) a c 4) a c a j = σ c j := by
      intro j hj
      have k1 : ∀ j, cpK (upm (cpW (upm (upm σ a 0 (σ c 0)) a 1 (σ c 1)) a c 10) a 7 (σ c 7)) a c 4 c j = σ c j := fun j => by
        rw [cpK_o (by omega), upm_o (by omega), cpW_o (by omega), upm_o (by omega), upm_o (by omega)]
      have k2 : ∀ j, cpK (upm (cpW (upm (upm σ a 0 (σ c 0)) a 1 (σ c 1)) a c 10) a 7 (σ c 7)) a c 4 a j = if j = 7 then σ c 7 else if j = 1 then σ c 1 else if j = 0 then σ c 0 else σ a j := fun j => by
        rw [cpK_o (by omega)]
        simp only [upm_app, true_and]
        rw [cpW_o (by omega)]
        simp only [upm_app, true_and]
      unfold fldW
      simp only [upm_app, true_and, k1, k2]
      grind
    obtain ⟨⟨g1, g2, g3, g4, g5, g6, g7, g8⟩, k1, k2, k3, k4⟩ := h
    have hp := hB.nP_le
    have hk := hB.nK_le
    have hb := hB.2.2.2.2.2
    refine ⟨⟨by rw [e4 _ (by omega), g1], by rw [e4 _ (by omega), g2], by rw [e4 _ (by omega), g3], by rw [e4 _ (by omega), g4], by rw [e4 _ (by omega), g5], by rw [e4 _ (by omega), g6], by rw [e4 _ (by omega), g7], by rw [e4 _ (by omega), g8]⟩, fun p hq => ?_, fun w hw => ?_, fun p hq => ?_, fun w hw => ?_⟩
    · rw [e1 _ _ (by omega) (by omega) (by omega), e1 _ _ (by omega) (by omega) (by omega), e1 _ _ (by omega) (by omega) (by omega), e1 _ _ (by omega) (by omega) (by omega)]
      exact k1 p hq
    · rw [e2 _ _ (by omega) (by omega), e3 _ (by omega), (k2 w hw).1, (k2 w hw).2, b1_bit (hb w hw).1]
      exact ⟨rfl, rfl⟩
    · rw [e1 _ _ (by omega) (by omega) (by omega)]
      exact k3 p hq
    · rw [e2 _ _ (by omega) (by omega)]
      exact k4 w hw
  · unfold fldW
    exact ((((f3.then ⟨by omega, by omega, hn.2.2.2.1⟩).then ⟨by omega, by omega, hn.2.2.2.2.1⟩).then ⟨by omega, by omega, hn.2.2.2.2.2.1⟩).then ⟨by omega, by omega, hn.2.2.2.2.2.2.1⟩).then ⟨by omega, by omega, hn.2.2.2.2.2.2.2⟩
end
