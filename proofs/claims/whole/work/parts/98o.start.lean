/-! ===== texts: the start ===== -/
section
variable {σ σ' τ τ' : Mem} {t : Nat → Int} {N : Nat}
/-- what the reference sets before a text is read -/
def st4 (τ : Mem) (v : Int) : Mem := upm (upm (upm (upm τ 113 9 v) 113 8 0) 113 16 0) 113 12 0
theorem j_start {v : Nat} (h1 : Ref σ) (h2 : Ref τ) (h4 : σ 4 = SG 4) (hb : ∀ i, i < 900 → σ 2 i = τ 117 i ∧ -128 ≤ τ 117 i ∧ τ 117 i ≤ 127) (hv : v ≤ 900) : ∃ V W, f_X7_begin 3 v σ = some (setc σ 3 V) ∧ f_X12_advance 113 (st4 τ v) = some (setc τ 113 W) ∧ Co (setc σ 3 V) (setc τ 113 W) (σ 2) v ∧ (∀ j, j < 2 ∨ 11 < j → V j = σ 3 j) ∧ (∀ j, j < 8 ∨ 19 < j ∨ j = 10 ∨ j = 11 → W j = τ 113 j) ∧ W 8 = 0 := by
  have e3 : σ 3 0 = 2 := h1.at 3 0 2 rfl
  have e31 : σ 3 1 = 4 := h1.at 3 1 4 rfl
  have eb : f_X7_begin 3 v σ = f_X7_step 3 (setc σ 3 (up1 (up1 (up1 (up1 (σ 3) 2 v) 3 0) 10 0) 11 (-1))) := by
    unfold f_X7_begin f_X7_begin_b0
    simp only [oTxt, if_true, gTx, pTx, obs, e3]
    rw [show ln Sh 22 2 = some 900 from rfl, obs, show imin (v : Int) 900 = v by unfold imin; split <;> omega, o_eta]
    simp only [upm_setc, setc_same, setc_setc]
  have em : st4 τ v = setc τ 113 (up1 (up1 (up1 (up1 (τ 113) 9 v) 8 0) 16 0) 12 0) := by
    unfold st4
    simp only [upm_setc, setc_same, setc_setc]
  generalize hV : up1 (up1 (up1 (up1 (σ 3) 2 (v : Int)) 3 0) 10 0) 11 (-1) = V0 at eb
  generalize hW : up1 (up1 (up1 (up1 (τ 113) 9 (v : Int)) 8 0) 16 0) 12 0 = W0 at em
  have v_ : ∀ j, V0 j = if j = 11 then -1 else if j = 10 then 0 else if j = 3 then 0 else if j = 2 then (v : Int) else σ 3 j := fun j => by rw [← hV]; rfl
  have w_ : ∀ j, W0 j = if j = 12 then 0 else if j = 16 then 0 else if j = 8 then 0 else if j = 9 then (v : Int) else τ 113 j := fun j => by rw [← hW]; rfl
  have rd : Rd (setc σ 3 V0) (setc τ 113 W0) (σ 2) v := by
    refine ⟨?_, ?_⟩
    · rw [setc_same]
      exact ⟨by rw [v_]; exact e3, by rw [v_]; exact e31, by rw [v_]; rfl, hv, by rw [setc_ne (by decide)]; exact h4, fun i _ => by rw [setc_ne (by decide)], by rw [v_]; rfl, by rw [v_]; rfl⟩
    · rw [setc_same]
      refine ⟨by rw [w_]; exact h2.at 113 7 117 rfl, by rw [w_]; rfl, hv, fun i hi => ?_⟩
      obtain ⟨q1, q2⟩ := hb i hi
      rw [setc_ne (by decide), q1]
      exact ⟨rfl, q2⟩
  obtain ⟨V', W', a1, a2, a3, a4, a5, a6⟩ := j_step0 (p := 0) rd (by rw [setc_same, v_]; rfl) (by rw [setc_same, w_]; rfl) (by omega)
  rw [setc_setc] at a1 a2
  rw [setc_same] at a3 a4
  have rd2 : Rd (setc σ 3 V') (setc τ 113 W') (σ 2) v := by
    have := rd.of (V := V') (W := W') (by rw [setc_same]; exact a3) (by rw [setc_same]; exact a4)
    rw [setc_setc, setc_setc] at this
    exact this
  refine ⟨V', W', by rw [eb, a1], by rw [em, a2], ⟨rd2, by rw [setc_same, setc_same]; exact a5, by rw [setc_same, a4 12 (by omega), w_]; rfl⟩, fun j hj => ?_, fun j hj => ?_, by rw [a4 8 (by omega), w_]; rfl⟩
  · rw [a3 j (by omega), v_, if_neg (by omega), if_neg (by omega), if_neg (by omega), if_neg (by omega)]
  · rw [a4 j (by omega), w_, if_neg (by omega), if_neg (by omega), if_neg (by omega), if_neg (by omega)]
/-- the empty drafts -/
def emX (σ : Mem) : Mem := upm (upm (upm (upm (upm (upm (upm (upm (upm σ 21 0 0) 21 1 0) 21 7 0) 21 11 8) 21 12 0) 21 13 0) 21 14 0) 21 15 0) 20 2 0
def emT (τ : Mem) : Mem := upm (emM τ 4) 113 24 0
theorem x_empty21 : (f_X9_empty 21 σ).bind (fun r => pf Sh r 10 20 2 0) = some (emX σ) := by
  have p : ∀ {σ : Mem} {j : Nat} {v : Int}, pf Sh σ 9 21 j v = some (upm σ 21 j v) := pW w21
  unfold f_X9_empty f_X9_empty_b0
  rw [if_pos (show isO Sh 9 21 = true from oW w21)]
  simp only [p, obs, pWr]
  rfl
theorem blk_em {j : Nat} (hj : j < 327) : blk (emT τ) 4 j = if j = 2 then 8 else 0 := by
  unfold blk emT emM
  rw [upm_o (by decide), upm_app, fil_cell (by decide), fil_app]
  by_cases q : j = 2
  · rw [if_pos ⟨rfl, by omega⟩, if_pos q]
  · rw [if_neg (by omega), if_neg q, if_pos ⟨rfl, by omega, by omega⟩]
theorem wrd_em {j : Nat} (hj : j < 14) : wrd (emT τ) 4 j = 0 := by
  unfold wrd emT emM
  rw [upm_o (by decide), upm_o (by decide), fil_app, if_pos ⟨rfl, by omega, by omega⟩]
theorem j_empty (h : Co σ τ t N) (h1 : Ref σ) (h2 : Ref τ) : Co (emX σ) (emT τ) t N ∧ Dw (emX σ) (emT τ) ∧ Fw σ (emX σ) τ (emT τ) := by
  have fx : Fr [0, 5] σ (emX σ) := by
    unfold emX
    exact ((((((((Fr.up (show gid 21 0 ∈ _ by decide)).then (by decide)).then (by decide)).then (by decide)).then (by decide)).then (by decide)).then (by decide)).then (by decide)).then (by decide)
  have fm : Fr [20] τ (emT τ) := by
    intro b j hb
    unfold gs at hb
    unfold emT emM
    rw [upm_app, if_neg (fun q => hb (by rw [q.1, q.2]; decide)), upm_app, if_neg (fun q => hb (by rw [q.1, q.2]; decide)), fil_app, if_neg ?_, fil_app, if_neg ?_]
    · rintro ⟨rfl, q1, q2⟩
      exact hb (by rw [gid118, if_neg (by omega), if_neg (by omega), if_neg (by omega)]; decide)
    · rintro ⟨rfl, q1, q2⟩
      exact hb (by rw [gid120, if_neg (by omega), if_neg (by omega)]; decide)
  have n0 : nP (blk (emT τ) 4) = 0 := by unfold nP; rw [blk_em (by omega)]; rfl
  have k0 : nK (blk (emT τ) 4) = 0 := by unfold nK; rw [blk_em (by omega)]; rfl
  have ex : ∀ b, ¬ b = 20 → ¬ b = 21 → emX σ b = σ b := fun b q1 q2 => by
    unfold emX
    rw [upm_ne q1, upm_ne q2, upm_ne q2, upm_ne q2, upm_ne q2, upm_ne q2, upm_ne q2, upm_ne q2, upm_ne q2]
  refine ⟨?_, ⟨fx.ref (by decide) h1, fm.ref (by decide) h2, ⟨⟨?_, ?_, ?_, ?_, ?_, ?_, ?_, ?_⟩, fun p hp => by omega, fun w hw => by omega, fun p hp => by omega, fun w hw => by omega⟩, ?_, ⟨?_, ?_⟩, fun p hp _ => wrd_em (by omega)⟩, fx, fm⟩
  · have c1 : Co (emX σ) (emM τ 4) t N := h.cell (ex 3 (by decide) (by decide)) (ex 2 (by decide) (by decide)) (ex 4 (by decide) (by decide)) (by unfold emM; rw [upm_ne (by decide), fil_cell (by decide), fil_cell (by decide)]) (by unfold emM; rw [upm_ne (by decide), fil_cell (by decide), fil_cell (by decide)])
    exact c1.reg (by omega)
  · rw [blk_em (by omega)]; rfl
  · unfold aS; rw [n0]; rfl
  · rw [blk_em (by omega)]; rfl
  · rw [blk_em (by omega)]; rfl
  · rw [blk_em (by omega)]; rfl
  · rw [blk_em (by omega)]; rfl
  · rw [blk_em (by omega)]; rfl
  · rw [blk_em (by omega)]; rfl
  · have e : ∀ j, j < 327 → ¬ j = 2 → blk (emT τ) 4 j = 0 := fun j q1 q2 => by rw [blk_em q1, if_neg q2]
    refine ⟨by rw [e 0 (by omega) (by omega)]; omega, by rw [e 1 (by omega) (by omega)]; omega, by rw [blk_em (by omega), e 5 (by omega) (by omega)]; exact ⟨by decide, by unfold R32; omega⟩, by rw [e 3 (by omega) (by omega)]; omega, fun p hp => ?_, fun w hw => by omega⟩
    rw [e (7 + p) (by omega) (by omega), e (17 + p) (by omega) (by omega), e (27 + p) (by omega) (by omega), e (37 + p) (by omega) (by omega)]
    omega
  · unfold emX emT; rw [upm_same, upm_same]
  · unfold yt; rw [blk_em (by omega), blk_em (by omega), blk_em (by omega)]; decide
end
