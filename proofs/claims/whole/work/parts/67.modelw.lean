/-! ===== what the reference does to its block ===== -/
section
variable {σ σ' : Mem} {B D : Nat → Int}
def faB (B : Nat → Int) (p i : Nat) : Nat → Int := fun j => if j = 7 + p then 0 else if 47 ≤ j ∧ j < 47 + i ∧ B j = p then -1 else B j
theorem faB_s {p i : Nat} (hp : p < 10) : (if B (47 + i) = p then up1 (faB B p i) (47 + i) (-1) else faB B p i) = faB B p (i + 1) := by
  funext j
  by_cases q : B (47 + i) = p
  · rw [if_pos q]
    unfold up1 faB
    by_cases r : j = 47 + i
    · subst r
      rw [if_pos rfl, if_neg (by omega), if_pos ⟨by omega, by omega, q⟩]
    · rw [if_neg r]
      by_cases s : j = 7 + p
      · rw [if_pos s, if_pos s]
      · rw [if_neg s, if_neg s]
        by_cases t : 47 ≤ j ∧ j < 47 + i ∧ B j = p
        · rw [if_pos t, if_pos ⟨t.1, by omega, t.2.2⟩]
        · rw [if_neg t, if_neg]
          rintro ⟨h1, h2, h3⟩
          exact t ⟨h1, by omega, h3⟩
  · rw [if_neg q]
    unfold faB
    by_cases s : j = 7 + p
    · rw [if_pos s, if_pos s]
    · rw [if_neg s, if_neg s]
      by_cases t : 47 ≤ j ∧ j < 47 + i ∧ B j = p
      · rw [if_pos t, if_pos ⟨t.1, by omega, t.2.2⟩]
      · rw [if_neg t, if_neg]
        rintro ⟨h1, h2, h3⟩
        by_cases r : j = 47 + i
        · subst r; exact q h3
        · exact t ⟨h1, by omega, h3⟩
theorem m_falls {p : Nat} (hR : Ref σ) (hC : σ 118 = B) (hB : BL B) (hp : p < 10) : f_X12_falls 113 p σ = some (setc σ 118 (fallB B p)) := by
  have hk := hB.nK_le
  unfold f_X12_falls f_X12_falls_b0
  simp only [oM, if_true, gM, obs, hR.at 113 20 118 rfl]
  rw [w32_in (by omega) (by omega), stC (by omega) (by omega), show (7 + (p : Int)).toNat = 7 + p by omega, upm_setc, hC]
  simp only [obs]
  have := up_all (Q := fun n i => f_X12_falls_h12 n 113 p (i : Int) (setc σ 118 (faB B p i)) = some (setc σ 118 (fallB B p))) (nK B) (fun n => ?_) (fun n i hi ih => ?_) (by unfold FU; omega)
  · rw [show faB B p 0 = up1 B (7 + p) 0 by funext j; unfold faB up1; split; rfl; rw [if_neg (by omega)]] at this
    exact this
  · have hR' : Ref (setc σ 118 (faB B p (nK B))) := hR.setc rfl
    rw [hs_X12_falls_h12]
    unfold f_X12_falls_b12
    simp only [gM, obs, hR'.at 113 20 118 rfl]
    rw [alC (by omega) (by omega)]
    simp only [obs, setc_same, Int.reduceToNat]
    rw [if_pos (by unfold faB; rw [if_neg (by omega), if_neg (by omega)]; omega)]
    rfl
  · have hR' : Ref (setc σ 118 (faB B p i)) := hR.setc rfl
    have e1 : faB B p i 1 = B 1 := by unfold faB; rw [if_neg (by omega), if_neg (by omega)]
    have e2 : faB B p i (47 + i) = B (47 + i) := by unfold faB; rw [if_neg (by omega), if_neg (by omega)]
    rw [hs_X12_falls_h12]
    unfold f_X12_falls_b12 f_X12_falls_b45
    simp only [gM, obs, hR'.at 113 20 118 rfl]
    rw [w32_in (z := 47 + (i : Int)) (by omega) (by omega), w32_in (z := (i : Int) + 1) (by omega) (by omega), alC (by omega) (by omega), alC (by omega) (by omega), stC (by omega) (by omega)]
    simp only [obs, setc_same, Int.reduceToNat, show (47 + (i : Int)).toNat = 47 + i by omega, e1, e2, setc_upm]
    rw [if_neg (by omega)]
    rw [← faB_s hp] at ih
    by_cases q : B (47 + i) = p
    · rw [if_pos q] at ih ⊢
      exact ih
    · rw [if_neg q] at ih ⊢
      exact ih
theorem m_weak {s : Nat} (hR : Ref σ) (hB : BV B) (hl : s < 1024) (hs : ∀ k, k < 10 → s.testBit k = true → stn B k = true) : f_X12_tries_h88 FU 113 s 0 (setc σ 118 B) = some (0, setc σ 118 (wkB B s (nP B))) := by
  have hn := hB.nP_le
  refine up_all (Q := fun n i => f_X12_tries_h88 n 113 s (i : Int) (setc σ 118 (wkB B s i)) = some (0, setc σ 118 (wkB B s (nP B)))) (nP B) (fun n => ?_) (fun n i hi ih => ?_) (by unfold FU; omega)
  · have hR' : Ref (setc σ 118 (wkB B s (nP B))) := hR.setc rfl
    have w := wkB_all (s := s) hB hn.1 (fun k hk => hs k (by omega))
    rw [hs_X12_tries_h88]
    unfold f_X12_tries_b88
    simp only [gM, obs, hR'.at 113 20 118 rfl]
    rw [alC (by omega) (by omega)]
    simp only [obs, setc_same, Int.reduceToNat]
    rw [w.2.1 0 (by omega), if_pos (by omega)]
  · have hR' : Ref (setc σ 118 (wkB B s i)) := hR.setc rfl
    obtain ⟨w1, w2, w3⟩ := wkB_all (s := s) (i := i) hB (by omega) (fun k hk => hs k (by omega))
    rw [hs_X12_tries_h88]
    unfold f_X12_tries_b88 f_X12_tries_b145
    simp only [gM, obs, hR'.at 113 20 118 rfl, s_has (show i < 32 by omega) (show s < 2147483648 by omega)]
    rw [w32_in (z := 37 + (i : Int)) (by omega) (by omega), w32_in (z := (i : Int) + 1) (by omega) (by omega), alC (by omega) (by omega), alC (by omega) (by omega)]
    simp only [obs, setc_same, Int.reduceToNat, show (37 + (i : Int)).toNat = 37 + i by omega]
    rw [w2 0 (by omega), if_neg (by omega)]
    rw [wkB_s] at ih
    by_cases q : s.testBit i = true
    · simp only [q, if_true, Int.one_ne_zero, if_false] at ih ⊢
      have c := w1.2.2.2.2.1 i (by omega)
      have st : stn (wkB B s i) i = true := by rw [w3 i (by omega) (by omega)]; exact hs i (by omega) q
      have st' : wkB B s i (7 + i) = 1 := by unfold stn at st; simpa using st
      have c5 := c.2.2.2.2.1 st'
      rw [w32_in (z := wkB B s i (37 + i) - 1) (by omega) (by omega), stC (by omega) (by omega)]
      simp only [obs, setc_upm, show (37 + (i : Int)).toNat = 37 + i by omega]
      have hR2 : Ref (setc σ 118 (up1 (wkB B s i) (37 + i) (wkB B s i (37 + i) - 1))) := hR.setc rfl
      rw [hR2.at 113 20 118 rfl, alC (by omega) (by omega)]
      simp only [obs, setc_same, show (37 + (i : Int)).toNat = 37 + i by omega, up1_eq]
      have hbl : BL (up1 (wkB B s i) (37 + i) (wkB B s i (37 + i) - 1)) := by
        have := w1.bl
        unfold BL at this ⊢
        rw [up1_ne (by omega), up1_ne (by omega)]
        exact this
      unfold wk1 at ih
      by_cases r : wkB B s i (37 + i) - 1 ≤ 0
      · rw [if_pos r] at ih
        rw [if_pos (by omega), m_falls hR2 setc_same hbl (by omega), setc_setc]
        exact ih
      · rw [if_neg r] at ih
        rw [if_neg (by omega)]
        exact ih
    · simp only [q, if_true, if_false, Bool.false_eq_true] at ih ⊢
      exact ih
theorem m_tries {g d : Int} {p : Nat} (h : MH σ B) (hp : p < 10) : f_X12_tries 113 g p d σ = some (if trC B g p = d then 1 else 0, setc σ 118 (trB B g p d)) := by
  obtain ⟨hR, hC, hB⟩ := h
  have hn := hB.nP_le
  have e0 : f_X12_tries 113 g p d σ = f_X12_tries_b43 113 d (tS B g p : Nat) (trC B g p) (trC B g p) (B 5) 5 118 (setc σ 118 (up1 B 4 (w32 (B 4 + 1)))) := by
    have hR' : Ref (setc σ 118 (up1 B 4 (w32 (B 4 + 1)))) := hR.setc rfl
    unfold f_X12_tries f_X12_tries_b0
    simp only [oM, if_true, obs, m_turnedFrom hR hC hB (g := g) (q := (p : Int)) (by omega), m_isCondemned hR hC hB hp, gM, hR.at 113 20 118 rfl]
    rw [alC (by omega) (by omega)]
    simp only [obs, hC, Int.reduceToNat]
    rw [stC (by omega) (by omega)]
    simp only [obs, upm_setc, hC, Int.reduceToNat, hR'.at 113 20 118 rfl]
    rw [alC (by omega) (by omega)]
    simp only [obs, setc_same, Int.reduceToNat, up1_ne (show ¬ (5 : Nat) = 4 by omega)]
    unfold trC
    by_cases q : cdm B g p = true
    · simp only [q, if_true, Int.one_ne_zero, if_false]
    · simp only [q, if_true, if_false, Bool.false_eq_true]
  rw [e0]
  unfold f_X12_tries_b43
  rw [stC (by omega) (by omega)]
  simp only [obs, setc_upm, Int.reduceToNat]
  rw [show up1 (up1 B 4 (w32 (B 4 + 1))) 5 (w32 (B 5 + trC B g p)) = tr1 B g p from rfl]
  have hR1 : Ref (setc σ 118 (tr1 B g p)) := hR.setc rfl
  have hB1 := @BV_tr1 B g p hB
  unfold trB
  by_cases q : trC B g p = d
  · simp only [q, if_true]
  · simp only [q, if_false]
    simp only [gM, obs, hR1.at 113 20 118 rfl]
    rw [alC (by omega) (by omega)]
    simp only [obs, setc_same, Int.reduceToNat]
    rw [stC (by omega) (by omega)]
    simp only [obs, setc_upm, Int.reduceToNat]
    rw [show tr1 B g p 6 = B 6 from tr1_o (by omega) (by omega)]
    have hB2 : BV (up1 (tr1 B g p) 6 (w32 (B 6 + 1))) := BV_sc hB1 (.inr (.inr rfl)) (w32_R _)
    have hR2 : Ref (setc σ 118 (up1 (tr1 B g p) 6 (w32 (B 6 + 1)))) := hR.setc rfl
    have ea : aS (up1 (tr1 B g p) 6 (w32 (B 6 + 1))) = aS B := by
      rw [aS_up hB1 (by omega) (by omega)]
      unfold tr1
      rw [aS_up (BV_sc hB (.inl rfl) (w32_R _)) (by omega) (by omega), aS_up hB (by omega) (by omega)]
    have en : nP (up1 (tr1 B g p) 6 (w32 (B 6 + 1))) = nP B := by rw [nP_up (by omega)]; unfold nP; rw [tr1_o (by omega) (by omega)]
    have hw := m_weak (σ := σ) (s := trS B g p) hR hB2 (trS_lt hB) (fun k h10 hk => by
      rw [stn_up (by omega)]
      unfold stn
      rw [tr1_o (by omega) (by omega)]
      exact trS_st hk)
    rw [en] at hw
    unfold f_X12_tries_b83
    rw [m_stones hR2 setc_same hB2, ea]
    simp only [obs]
    rw [iandn (by have := aS_lt hB; omega) (by have := @tS_lt B g p hB; omega)]
    rw [show ((aS B ^^^ (aS B &&& tS B g p) : Nat) : Int) = (sub (aS B) (tS B g p) : Nat) from rfl]
    unfold trS at hw
    unfold trC at q ⊢
    unfold trS
    by_cases r : cdm B g p = true
    · simp only [r, if_true, Int.one_ne_zero, if_false] at hw ⊢
      exact hw
    · simp only [r, if_true, if_false, Bool.false_eq_true] at hw ⊢
      exact hw
theorem m_sets {b p : Nat} {l s : Int} (hR : Ref σ) (hb : b ≤ 4) (hp : p < 10) : f_X12_sets 113 b p l s σ = some (setc σ 118 (up1 (up1 (up1 (up1 (σ 118) (327 * b + (7 + p)) 1) (327 * b + (17 + p)) l) (327 * b + (27 + p)) 0) (327 * b + (37 + p)) s)) := by
  unfold f_X12_sets f_X12_sets_b0
  have r1 : ∀ f : Nat → Int, Ref (setc σ 118 f) := fun f => hR.setc rfl
  simp only [oM, if_true, gM, obs, hR.at 113 20 118 rfl]
  rw [w32_in (z := 327 * (b : Int)) (by omega) (by omega), w32_in (z := 327 * (b : Int) + p) (by omega) (by omega)]
  rw [w32_in (z := 327 * (b : Int) + p + 7) (by omega) (by omega), w32_in (z := 327 * (b : Int) + p + 17) (by omega) (by omega), w32_in (z := 327 * (b : Int) + p + 27) (by omega) (by omega), w32_in (z := 327 * (b : Int) + p + 37) (by omega) (by omega)]
  rw [stC (by omega) (by omega)]
  simp only [obs, upm_setc, (r1 _).at 113 20 118 rfl]
  rw [stC (by omega) (by omega)]
  simp only [obs, setc_upm, (r1 _).at 113 20 118 rfl]
  rw [stC (by omega) (by omega)]
  simp only [obs, setc_upm, (r1 _).at 113 20 118 rfl]
  rw [stC (by omega) (by omega)]
  simp only [obs, setc_upm]
  rw [show (327 * (b : Int) + p + 7).toNat = 327 * b + (7 + p) by omega, show (327 * (b : Int) + p + 17).toNat = 327 * b + (17 + p) by omega, show (327 * (b : Int) + p + 27).toNat = 327 * b + (27 + p) by omega, show (327 * (b : Int) + p + 37).toNat = 327 * b + (37 + p) by omega]
theorem m_hatches {b w : Nat} {p f : Int} (hR : Ref σ) (hb : b ≤ 4) (hw : w < 4) : f_X12_hatches 113 b w p f σ = some (setc σ 118 (up1 (up1 (up1 (σ 118) (327 * b + (47 + w)) p) (327 * b + (51 + w)) f) (327 * b + 1) ((w : Int) + 1))) := by
  unfold f_X12_hatches f_X12_hatches_b0
  have r1 : ∀ f : Nat → Int, Ref (setc σ 118 f) := fun f => hR.setc rfl
  simp only [oM, if_true, gM, obs, hR.at 113 20 118 rfl]
  rw [w32_in (z := 327 * (b : Int)) (by omega) (by omega), w32_in (z := 327 * (b : Int) + 47) (by omega) (by omega), w32_in (z := 327 * (b : Int) + 51) (by omega) (by omega), w32_in (z := 327 * (b : Int) + 47 + w) (by omega) (by omega), w32_in (z := 327 * (b : Int) + 51 + w) (by omega) (by omega), w32_in (z := 327 * (b : Int) + 1) (by omega) (by omega), w32_in (z := (w : Int) + 1) (by omega) (by omega)]
  rw [stC (by omega) (by omega)]
  simp only [obs, upm_setc, (r1 _).at 113 20 118 rfl]
  rw [stC (by omega) (by omega)]
  simp only [obs, setc_upm, (r1 _).at 113 20 118 rfl]
  rw [stC (by omega) (by omega)]
  simp only [obs, setc_upm]
  rw [show (327 * (b : Int) + 47 + w).toNat = 327 * b + (47 + w) by omega, show (327 * (b : Int) + 51 + w).toNat = 327 * b + (51 + w) by omega, show (327 * (b : Int) + 1).toNat = 327 * b + 1 by omega]
theorem m_clears {p : Nat} (h : MH σ B) (hp : p < 10) : f_X12_clears 113 p σ = some (if stn B p = true ∧ ¬ B (27 + p) = 0 then (1, setc σ 118 (up1 B (27 + p) 0)) else (0, σ)) := by
  obtain ⟨hR, hC, hB⟩ := h
  unfold f_X12_clears f_X12_clears_b0
  simp only [oM, if_true, gM, obs, hR.at 113 20 118 rfl, m_isStoneAt hR hC (show p < 1000 by omega)]
  rw [w32_in (by omega) (by omega), alC (by omega) (by omega), stC (by omega) (by omega)]
  simp only [obs, upm_setc, hC, show (27 + (p : Int)).toNat = 27 + p by omega]
  grind
theorem m_flies {w p : Nat} (h : MH σ B) (hw : w < 4) (hp : p < 10) : f_X12_flies 113 w p σ = some (if stn B p = true ∧ ¬ B (47 + w) = p then (1, setc σ 118 (up1 B (47 + w) p)) else (0, σ)) := by
  obtain ⟨hR, hC, hB⟩ := h
  unfold f_X12_flies f_X12_flies_b0
  simp only [oM, if_true, gM, obs, hR.at 113 20 118 rfl, m_isStoneAt hR hC (show p < 1000 by omega)]
  rw [w32_in (by omega) (by omega), alC (by omega) (by omega), stC (by omega) (by omega)]
  simp only [obs, upm_setc, hC, show (47 + (w : Int)).toNat = 47 + w by omega]
  grind
end
