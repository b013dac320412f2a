/-! ===== terms read: a STEP with its block ===== -/
section
variable {σ σ' σ1 τ τ' τ1 : Mem} {t V : Nat → Int} {N k S w : Nat} {r : Int → Int → Mem → Option Mem}
theorem kOf_ne {s : Nat} : ¬ 21 = kOf s := by unfold kOf; split <;> (try split) <;> omega
theorem s_isEnd : ∃ r, f_X12_isEnd 113 τ = some r := by
  obtain ⟨r, h1, h2⟩ := @m_word_some τ (km 21)
  unfold f_X12_isEnd f_X12_isEnd_b0
  rw [if_pos oM, sp_o (v := km 21) (by decide +kernel), obs, h1, obs, bz_ok h2, obs]
  exact ⟨_, rfl⟩
theorem m_192 (hR : Ref τ) (hS : S < 30) : f_X12_readStep_b192 r 113 ((1365 + 9 * S : Nat) : Int) τ = some (upm τ 118 (1365 + 9 * S + 8) (τ 113 25)) := by
  unfold f_X12_readStep_b192
  rw [gM, obs, gM, obs, hR.at 113 20 118 rfl, stS8 hS, obs]
theorem m_170 {b : Int} (hb : ¬ b = 0) : f_X12_readStep_b170 r 113 b ((1365 + 9 * S : Nat) : Int) τ = (mEnd τ).bind fun ρ => f_X12_readStep_b192 r 113 ((1365 + 9 * S : Nat) : Int) ρ := by
  unfold f_X12_readStep_b170 mEnd endM
  rw [if_neg hb]
  cases f_X12_isEnd 113 τ with
  | none => rfl
  | some a =>
    rw [obs, obs]
    cases f_X12_must 113 a τ with
    | none => rfl
    | some c =>
      rw [obs, obs]
      cases f_X12_isSign 113 59 c with
      | none => rfl
      | some d => rw [obs, obs]
theorem mb_end (h : 0 < τ 113 12) : mEnd τ = some τ := by
  obtain ⟨x, hx⟩ := @s_isEnd τ
  unfold mEnd
  rw [hx, obs, mb_must h, obs, endM_bad h]
theorem mb_170 {b : Int} (h : 0 < τ 113 12) (hR : Ref τ) (hS : S < 30) : f_X12_readStep_b170 r 113 b ((1365 + 9 * S : Nat) : Int) τ = some (upm τ 118 (1365 + 9 * S + 8) (τ 113 25)) := by
  by_cases q : b = 0
  · unfold f_X12_readStep_b170
    rw [if_pos q, m_192 hR hS]
  · rw [m_170 q, mb_end h, obs, m_192 hR hS]
theorem mb_142 {v b : Int} {n : Nat} (h : 0 < τ 113 12) : f_X12_readStep_h142 r (n + 1) 113 v b ((1365 + 9 * S : Nat) : Int) τ = f_X12_readStep_b170 r 113 b ((1365 + 9 * S : Nat) : Int) τ := by
  rw [hs_X12_readStep_h142]
  unfold f_X12_readStep_b142
  rw [gM, obs, if_neg (show ¬ τ 113 12 = 0 by omega), ite_self]
/-- a STEP's own line, read by both -/
theorem j_head (h : Co σ τ t N) (hd : Dt σ τ S k w) (h0 : w = 0 → ¬ σ 3 4 = 0) (h1 : ¬ w = 0 → isK (σ 3) 21 = false) :
    (∃ (s : Nat) (σ2 τ2 : Mem), s ≤ 9 ∧ Xgo σ σ2 1 ∧ f_X12_readStep_body r 113 w τ = f_X12_readStep_h142 r FU 113 w (bln s) ((1365 + 9 * S : Nat) : Int) τ2 ∧ Co σ2 τ2 t N ∧ Fp (QX k w) σ σ2 ∧ Fp (QM S) τ τ2 ∧ σ 3 5 < σ2 3 5 ∧ PS s k S σ2 τ2 ∧ (σ2 31 1 = ((S + 1 : Nat) : Int) ∧ σ2 31 2 = ((k + 1 : Nat) : Int) ∧ τ2 113 25 = ((S + 1 : Nat) : Int)) ∧ S < 30 ∧ (s = 7 ∨ s = 8 → w < 3 ∧ σ2 30 4 = ((w + 1 : Nat) : Int) ∧ σ2 37 w = k) ∧ (¬ (s = 7 ∨ s = 8) → σ2 30 4 = w)) ∨
    (∃ σ' τ', Xbad σ σ' 0 ∧ f_X12_readStep_body r 113 w τ = some τ' ∧ Bd σ' τ' ∧ Fp (QX k w) σ σ' ∧ Fp (QM S) τ τ') := by
  obtain ⟨hu, ⟨d1, d2, d3⟩, ⟨d4, d5⟩, d6, d7⟩ := hd
  have hd : Dt σ τ S k w := ⟨hu, ⟨d1, d2, d3⟩, ⟨d4, d5⟩, d6, d7⟩
  have tk := h.2.1.kk
  rcases stW_or (σ 3) with ⟨hs, _⟩ | ⟨s, s9, hs, hk⟩
  · obtain ⟨σ3, τ3, b1, b2, b3, b4⟩ := j_amiss h
    have em : f_X12_readStep_body r 113 w τ = some τ3 := by
      rw [m_stepHead h, hs, if_neg (by decide), b2, obs, mb_31 b4.2.2]
    refine .inr ⟨σ3, τ3, ?_, em, b4, X0q b3.fx, M0q b3.fm⟩
    by_cases z : σ 3 4 = 0
    · exact Xbad.end hu.1 z (fun q => h0 (by omega) z) b1
    · refine Xbad.one hu.1 z ?_
      unfold xIt
      by_cases q : isK (σ 3) 21 = true
      · have w0 : w = 0 := by
          refine Classical.byContradiction fun e => ?_
          rw [h1 e] at q
          cases q
        rw [if_pos q]
        unfold f_X6_readEnd f_X6_readEnd_b0
        rw [if_pos oTr, gTr, obs, d6, if_neg (by omega), gTr, obs, hu.1.at 30 0 3 rfl, b1, obs]
        rfl
      · rw [if_neg q]
        unfold f_X6_beginsStep f_X6_beginsStep_b0
        simp only [oTr, if_true, gTr, obs, hu.1.at 30 0 3 rfl]
        rw [x_isStepWord tk, obs, hs, if_neg (show ¬ (0 : Int) ≤ -1 by decide), if_pos rfl, b1, obs]
        rfl
  · have z2 : σ 3 4 = 2 := isK_w hk
    have z : ¬ σ 3 4 = 0 := by omega
    have n21 : isK (σ 3) 21 = false := isK_no hk kOf_ne
    have em0 : f_X12_readStep_body r 113 w τ = f_X12_readStep_b31 r 113 w s (bln s) τ := by
      rw [m_stepHead h, hs, if_pos (by omega)]
    have ex0 : xIt σ = (f_X6_beginsStep 30 σ).bind fun r13 => if r13.1 = 0 then some (0, r13.2) else (f_X6_readStep 30 r13.2).bind fun r15 => if r15.1 = 0 then some (0, r15.2) else some (1, r15.2) := by
      unfold xIt
      rw [n21, if_neg (by decide)]
    have eb := x_begins hd s9 hk tk hs
    by_cases q : S < 30
    · rw [if_pos q] at eb
      by_cases y : (s = 7 ∨ s = 8) ∧ ¬ w < 3
      · rw [if_pos y.1, if_neg y.2] at eb
        obtain ⟨σ3, τ3, b1, b2, b3, b4⟩ := j_fail (c := 7) h (by decide) (by omega)
        refine .inr ⟨σ3, τ3, Xbad.one hu.1 z (by rw [ex0, eb, b1, obs]; rfl), ?_, b4, X0q b3.fx, M0q b3.fm⟩
        rw [em0]
        unfold f_X12_readStep_b31 f_X12_readStep_b57
        rw [gM, obs, if_pos h.2.2, gM, obs, d2, if_neg (by omega), obs, if_pos h.2.2, if_neg (show ¬ bln s = 0 by unfold bln; rw [if_pos (by omega)]; decide), if_pos (by omega), gM, obs, b2, obs, mb_83 b4.2.2]
      · obtain ⟨σa, ea, a3, a2, a4, a31, fa, ab, an⟩ : ∃ σa, f_X6_beginsStep 30 σ = some (1, σa) ∧ σa 3 = σ 3 ∧ σa 2 = σ 2 ∧ σa 4 = σ 4 ∧ (∀ j, σa 31 j = σ 31 j) ∧ Fp (QX k w) σ σa ∧ (s = 7 ∨ s = 8 → w < 3 ∧ σa 30 4 = ((w + 1 : Nat) : Int) ∧ σa 37 w = k) ∧ (¬ (s = 7 ∨ s = 8) → σa 30 4 = w) := by
          by_cases x : s = 7 ∨ s = 8
          · have w3 : w < 3 := Classical.byContradiction fun e => y ⟨x, e⟩
            rw [if_pos x, if_pos w3] at eb
            exact ⟨_, eb, by rw [upm_ne (by decide), upm_ne (by decide)], by rw [upm_ne (by decide), upm_ne (by decide)], by rw [upm_ne (by decide), upm_ne (by decide)], fun j => by rw [upm_o (by decide), upm_o (by decide)], (Fp.up (by unfold QX; omega)).then (by unfold QX; omega), fun _ => ⟨w3, upm_same, by rw [upm_o (by decide), upm_same]⟩, fun e => absurd x e⟩
          · rw [if_neg x] at eb
            exact ⟨_, eb, rfl, rfl, rfl, fun _ => rfl, Fp.refl, fun e => absurd e x, fun _ => d6⟩
        have Ra : Ref σa := (QXf fa).ref (by decide) hu.1
        have fm1 : Fp (QM S) τ (upm τ 113 25 ((S + 1 : Nat) : Int)) := Fp.up (by unfold QM; omega)
        have ca : Co σa (upm τ 113 25 ((S + 1 : Nat) : Int)) t N := (h.reg (by omega)).cell a3 a2 a4 rfl rfl
        obtain ⟨σ1, τ1, g1, g2, g3, g4, g5, g6, _⟩ := j_go ca
        have f1 : Fp (QX k w) σ σ1 := fa.trans (X0q g3.fx)
        have m1 : Fp (QM S) τ (upm τ1 118 (1365 + 9 * S) s) := (fm1.trans (M0q g3.fm)).then (by unfold QM; omega)
        have u1 : Du σ1 (upm τ1 118 (1365 + 9 * S) s) := hu.fp f1 m1
        have R1 : Ref τ1 := (QMf (fm1.trans (M0q g3.fm))).ref (by decide) hu.2.1
        have lt : σ 3 5 < σ1 3 5 := by
          have := g6 (by rw [a3]; exact z)
          rw [a3] at this
          exact this
        have x31 : ∀ j, σ1 31 j = σ 31 j := fun j => by rw [g3.x (by decide), a31]
        have er : f_X6_readStep 30 σa = (xRest s σ1).bind fun r => f_X6_readStep_b152 30 r.1 r.2 := x_readStep s9 (by rw [a3]; exact hk) Ra g1 u1.1
        have em1 := m_stepGo (r := r) (τ := τ) (S := S) (s := s) (v := w) (b := bln s) h.2.2 d2 q (by
          by_cases x : s = 7 ∨ s = 8
          · right
            have := (ab x).1
            omega
          · left
            unfold bln
            rw [if_neg (by omega)]) hu.2.1 g2 R1
        rcases j_line (σ := σ1) (τ := upm τ1 118 (1365 + 9 * S) s) (k := k) (S := S) s9 g4.c u1 (by rw [x31, d4]) (by omega) (by rw [x31, d1]) q upm_same with ⟨σ2, τ2, c1, c2, c3, c4, c5, c6, c7, c8⟩ | ⟨σ2, τ2, c1, c2, c3, c4, c5⟩
        · refine .inl ⟨s, σ2, τ2, s9, Xgo.one hu.1 z ?_, by rw [em0, em1, c2, obs], c3, f1.trans (RXq c4), m1.trans (RMq c5), by omega, c8, ⟨c7.1, c7.2, ?_⟩, q, fun x => ?_, fun x => ?_⟩
          · rw [ex0, ea, obs]
            dsimp only
            rw [if_neg (by decide), er, c1, obs]
            rfl
          · rw [c5 113 25 (by unfold RM; omega), upm_o (by decide), g3.mr (by omega), upm_same]
          · obtain ⟨p1, p2, p3⟩ := ab x
            exact ⟨p1, by rw [c4 30 4 (by unfold RX; omega), g3.x (by decide), p2], by rw [c4 37 w (by unfold RX; omega), g3.x (by decide), p3]⟩
          · rw [c4 30 4 (by unfold RX; omega), g3.x (by decide), an x]
        · have m2 : Fp (QM S) τ τ2 := m1.trans (RMq c5)
          have R2 : Ref τ2 := (QMf m2).ref (by decide) hu.2.1
          refine .inr ⟨σ2, upm τ2 118 (1365 + 9 * S + 8) (τ2 113 25), Xbad.one hu.1 z ?_, ?_, c3.c, f1.trans (RXq c4), m2.then (by unfold QM; omega)⟩
          · rw [ex0, ea, obs]
            dsimp only
            rw [if_neg (by decide), er, c1, obs]
            rfl
          · rw [em0, em1, c2, obs]
            exact (mb_142 (n := 199999) c3.2.2).trans (mb_170 c3.2.2 R2 q)
    · rw [if_neg q] at eb
      obtain ⟨σ3, τ3, b1, b2, b3, b4⟩ := j_fail (c := 6) h (by decide) (by omega)
      refine .inr ⟨σ3, τ3, Xbad.one hu.1 z (by rw [ex0, eb, b1, obs]; rfl), ?_, b4, X0q b3.fx, M0q b3.fm⟩
      rw [em0]
      unfold f_X12_readStep_b31
      rw [gM, obs, if_pos h.2.2, gM, obs, d2, if_pos (by omega), gM, obs, b2, obs, mb_57 b4.2.2]
end
