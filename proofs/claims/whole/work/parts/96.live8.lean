/-! ===== TERMS lived: a whole life; live ===== -/
section
variable {σ0 σ σ1 σ' τ : Mem} {L aw : Nat} {B0 B B' D V V' : Nat → Int}
def v0 (τ : Mem) (B0 : Nat → Int) (z : Nat) : Nat → Int := fun j => if j = 38 then z else if j = 37 ∨ j = 39 ∨ j = 40 ∨ j = 41 ∨ j = 44 then 0 else if j = 42 then B0 5 else if j = 43 then B0 6 else τ 113 j
def t42 (τ : Mem) (B0 : Nat → Int) : Mem := upm (upm τ 113 42 (B0 5)) 113 43 (B0 6)
theorem mm_t42 : mm (t42 τ B0) B V = mm τ B V := by
  unfold mm t42
  funext b j
  unfold setc
  by_cases h1 : b = 113
  · simp [h1]
  · by_cases h2 : b = 118
    · simp [h2]
    · simp only [h1, h2, if_false]
      rw [upm_o h1, upm_o h1]
theorem m_run0 {z : Nat} (hm : MH τ B0) : f_X12_runsTerms 113 z τ = f_X12_doAll FR 113 0 (B0 56) (mm τ B0 (v0 τ B0 z)) := by
  have fin : upm (upm (upm (upm (upm (upm (upm (upm τ 113 38 z) 113 39 0) 113 40 0) 113 41 0) 113 42 (B0 5)) 113 43 (B0 6)) 113 44 0) 113 37 0 = mm τ B0 (v0 τ B0 z) := by
    funext b j
    by_cases h1 : b = 113
    · subst h1
      rw [mm_v]
      simp only [upm_app, true_and]
      unfold v0
      grind
    · rw [upm_o h1, upm_o h1, upm_o h1, upm_o h1, upm_o h1, upm_o h1, upm_o h1, upm_o h1]
      unfold mm
      rw [setc_ne h1]
      by_cases h2 : b = 118
      · rw [h2, setc_same, hm.2.1]
      · rw [setc_ne h2]
  have r : ∀ {j : Nat} {v : Int} {σ : Mem}, σ 113 20 = 118 → ¬ j = 20 → upm σ 113 j v 113 20 = 118 := fun h1 h2 => by rw [upm_app, if_neg (by omega)]; exact h1
  have r0 := hm.1.at 113 20 118 rfl
  unfold f_X12_runsTerms f_X12_runsTerms_b0
  simp only [oM, if_true, gM, pM, obs]
  rw [r (r (r (r r0 (by decide)) (by decide)) (by decide)) (by decide), alC (by omega) (by omega), obs]
  simp only [upm_ne (show (118 : Nat) ≠ 113 by decide), hm.2.1, Int.reduceToNat]
  rw [r (r (r (r (r r0 (by decide)) (by decide)) (by decide)) (by decide)) (by decide), alC (by omega) (by omega), obs]
  simp only [upm_ne (show (118 : Nat) ≠ 113 by decide), hm.2.1, Int.reduceToNat]
  rw [r (r (r (r (r (r (r (r r0 (by decide)) (by decide)) (by decide)) (by decide)) (by decide)) (by decide)) (by decide)) (by decide), alC (by omega) (by omega), obs]
  simp only [upm_ne (show (118 : Nat) ≠ 113 by decide), hm.2.1, Int.reduceToNat]
  rw [o_eta, fin]
def Lr (σ : Mem) (L : Nat) (B V : Nat → Int) : Prop := σ L 4 = V 39 ∧ σ L 5 = V 40 ∧ σ L 6 = V 41 ∧ σ L 7 = w32 (B 5 - V 42) ∧ σ L 8 = w32 (B 6 - V 43) ∧ σ L 9 = V 44 ∧ (V 44 = 0 ∨ V 44 = 1)
theorem x_fin (h : ll L aw) (x : XA σ0 σ L aw B0 D B) : f_X4_run_b182 L σ = some (upm (upm (upm σ L 6 (w32 (B 3 - σ L 6))) L 7 (w32 (B 5 - σ L 7))) L 8 (w32 (B 6 - σ L 8))) := by
  obtain ⟨r0, r1, r2⟩ := rLL x.2.1 h
  have hl := h
  have na : ¬ aw = L := by rcases h with ⟨rfl, rfl⟩ | ⟨rfl, rfl⟩ <;> decide
  unfold f_X4_run_b182
  simp only [gLL hl, pLL hl, obs, upm_app, true_and, if_false, show ¬ (1 : Nat) = 6 by decide, show ¬ (1 : Nat) = 7 by decide, show ¬ (7 : Nat) = 6 by decide, show ¬ (8 : Nat) = 7 by decide, show ¬ (8 : Nat) = 6 by decide, r1, gW h.wl, na, false_and]
  rw [x.2.2.1.1.2.2.2.2.1, x.2.2.1.1.2.2.2.2.2.2.1, x.2.2.1.1.2.2.2.2.2.2.2]
theorem life {z : Nat} (h : ll L aw) (hR : Ref σ) (w : WR σ aw B0 D) (hB : BV B0) (h3 : B0 3 ≤ 9999) (t : TR σ 14 B0) (hm : MH τ B0) (hz : z ≤ 65535) : ∃ σ' B' V', f_X4_run L z σ = some σ' ∧ f_X12_runsTerms 113 z τ = some (mm τ B' V') ∧ XA σ σ' L aw B0 D B' ∧ (∀ j, ¬ (37 ≤ j ∧ j ≤ 44) → V' j = τ 113 j) ∧ Lr σ' L B' V' := by
  obtain ⟨t1, t2, t3, t4, t5, n, cd⟩ := t
  obtain ⟨r0, r1, r2⟩ := rLL hR h
  have na : ¬ aw = L := by rcases h with ⟨rfl, rfl⟩ | ⟨rfl, rfl⟩ <;> decide
  have x0 : XA σ σ L aw B0 D B0 := ⟨Fp.refl, hR, w, hB, h3, rfl, rfl, fun _ _ => rfl, hB.2.2.2.1, h3⟩
  have hR2 : Ref (t42 τ B0) := (hm.1.up rfl).up rfl
  have xs : XA σ (upm (upm (upm (upm (upm (upm (upm σ L 3 z) L 4 0) L 5 0) L 6 (B0 3)) L 7 (B0 5)) L 8 (B0 6)) L 9 0) L aw B0 D B0 := ((((((x0.reg h (by omega)).reg h (by omega)).reg h (by omega)).reg h (by omega)).reg h (by omega)).reg h (by omega)).reg h (by omega)
  have ex : f_X4_run L z σ = f_X4_run_h57 FU L 0 0 (upm (upm (upm (upm (upm (upm (upm σ L 3 z) L 4 0) L 5 0) L 6 (B0 3)) L 7 (B0 5)) L 8 (B0 6)) L 9 0) := by
    unfold f_X4_run f_X4_run_b0
    rw [if_pos (oLL h)]
    simp only [gLL h, pLL h, obs, upm_app, true_and, if_false, show ¬ (1 : Nat) = 6 by decide, show ¬ (1 : Nat) = 7 by decide, show ¬ (1 : Nat) = 3 by decide, show ¬ (1 : Nat) = 4 by decide, show ¬ (1 : Nat) = 5 by decide, r1, gW h.wl, na, false_and]
    rw [w.1.2.2.2.2.1, w.1.2.2.2.2.2.2.1, w.1.2.2.2.2.2.2.2]
  generalize hs : upm (upm (upm (upm (upm (upm (upm σ L 3 z) L 4 0) L 5 0) L 6 (B0 3)) L 7 (B0 5)) L 8 (B0 6)) L 9 0 = σs at *
  have q : St L aw σ B0 D (t42 τ B0) σs B0 (v0 τ B0 z) := by
    refine ⟨xs, ⟨?_, ?_, ?_, ?_, .inl rfl, .inl rfl, ?_⟩, ?_, rfl, rfl⟩
    · intro j h1 h2
      unfold v0 t42
      simp only [upm_app, true_and]
      grind
    · rw [← hs]
      unfold v0
      simp [upm_app]
    · exact ⟨Int.le_refl _, show (0 : Int) ≤ 300 by decide⟩
    · exact (Int.sub_self _).symm
    · show (0 : Int) ≤ (z : Int) ∧ (z : Int) ≤ 65535
      omega
    · exact ⟨Int.le_refl _, Int.le_refl _⟩
  obtain ⟨hi, ehi⟩ := nat_of t4.1
  obtain ⟨k1, ek1⟩ := nat_of t5.1
  rw [ehi, ek1, Int.toNat_natCast, Int.toNat_natCast] at cd
  obtain ⟨σ2, B2, V2, k2, n2, g1, g2, g3, g4, g5, g6, g7, g8, g9⟩ := O_all h hR2 t5.2 n 3 0 hi 0 k1 (FR - 1) FU σs B0 (v0 τ B0 z) cd (by omega) (by show 3 ≤ FR - 1; decide) (by unfold FU; omega) (by omega) (by omega) q
  have em : f_X12_runsTerms 113 z τ = some (mm τ B2 V2) := by
    rw [m_run0 hm, ← mm_t42 (B0 := B0), ← mm_t42 (B0 := B0) (B := B2), ← g1, ehi, show FR = (FR - 1) + 1 from rfl, hs_X12_doAll]
    unfold f_X12_doAll_body f_X12_doAll_b0
    rw [if_pos oM]
    rfl
  obtain ⟨v1, ⟨v2, v3, v4, v5, v6, v7, v8⟩, v9, v10, v11, v12, v13⟩ := g3
  have e0 : v0 τ B0 z 39 = 0 := rfl
  rw [e0] at g7
  have tn : n2 ≤ 100000 := by omega
  have g5' := g5 0 (by omega)
  have ef : f_X4_run L z σ = f_X4_run_b182 L σ2 := by
    rw [ex, show f_X4_run_h57 FU L 0 0 σs = f_X4_run_h57 (FU - 0) L ((0 : Nat) : Int) ((0 : Nat) : Int) σs from rfl, g5', Nat.zero_add]
    refine tk_fin h g2 tn ?_
    rcases g9 with ⟨y1, y2, y3, _⟩ | ⟨y1, y2⟩
    · right; rw [y3, ek1]
    · rcases y2 with y2 | y2
      · left; rw [v5, y2]
      · right; exact y2
  have b3 := g2.2.2.2.1.2.2.2.1
  have b4 := g2.2.2.2.2.1
  have b5 := g2.2.2.2.2.2.2.2.2
  refine ⟨_, B2, V2, by rw [ef, x_fin h g2], em, ((g2.reg h (by omega)).reg h (by omega)).reg h (by omega), ?_, ?_⟩
  · intro j hj
    rw [v1 j (by omega) (by omega)]
    unfold t42
    rw [upm_app, if_neg (by omega), upm_app, if_neg (by omega)]
  · have e42 : V2 42 = B0 5 := by rw [v1 42 (by omega) (by omega)]; unfold t42; rw [upm_app, if_neg (by omega), upm_same]
    have e43 : V2 43 = B0 6 := by rw [v1 43 (by omega) (by omega)]; unfold t42; rw [upm_same]
    refine ⟨?_, ?_, ?_, ?_, ?_, ?_, v12⟩
    · rw [upm_app, if_neg (by omega), upm_app, if_neg (by omega), upm_app, if_neg (by omega), v3]
    · rw [upm_app, if_neg (by omega), upm_app, if_neg (by omega), upm_app, if_neg (by omega), v4]
    · rw [upm_app, if_neg (by omega), upm_app, if_neg (by omega), upm_same, v6, v10, w32_in (by omega) (by omega)]
    · rw [upm_app, if_neg (by omega), upm_same, v7, e42]
    · rw [upm_same, v8, e43]
    · rw [upm_app, if_neg (by omega), upm_app, if_neg (by omega), upm_app, if_neg (by omega), v5]
end
