/-! ===== terms read: the court's loop; an END ===== -/
section
variable {σ σ' σ1 τ τ' τ1 : Mem} {t V : Nat → Int} {N k S w : Nat}
/-- one turn of the court's loop -/
noncomputable def xIt (σ : Mem) : Option (Int × Mem) := if isK (σ 3) 21 = true then f_X6_readEnd 30 σ else (f_X6_beginsStep 30 σ).bind fun r13 => if r13.1 = 0 then some (0, r13.2) else (f_X6_readStep 30 r13.2).bind fun r15 => if r15.1 = 0 then some (0, r15.2) else some (1, r15.2)
theorem x_it {k24 : Int → Int → Int → Mem → Option (Int × Mem)} {p : Int} (hR : Ref σ) (hp : p ≤ 300) (hz : ¬ σ 3 4 = 0) : f_X6_reads_b24 k24 30 1 p σ = (xIt σ).bind fun r => k24 30 r.1 (w32 (p + 1)) r.2 := by
  unfold f_X6_reads_b24 f_X6_reads_b82 f_X6_reads_b83 xIt f_X7_isAtEnd f_X7_isAtEnd_b0
  simp only [gTr, obs, hR.at 30 0 3 rfl, oTxt, if_true, gTx]
  rw [if_neg (by omega), if_neg (by decide), if_neg hz, obs, if_pos rfl, show f_X7_isWord 3 21 σ = _ from x_isWord (k := 21), obs, ifb]
  by_cases q : isK (σ 3) 21 = true
  · rw [if_pos q, if_pos q]
  · rw [if_neg q, if_neg q]
    cases f_X6_beginsStep 30 σ with
    | none => rfl
    | some r =>
      rw [obs, obs]
      by_cases z : r.1 = 0
      · rw [if_pos z, if_pos z, obs]
      · rw [if_neg z, if_neg z]
        cases f_X6_readStep 30 r.2 with
        | none => rfl
        | some r2 =>
          rw [obs, obs]
          by_cases y : r2.1 = 0
          · rw [if_pos y, if_pos y, obs]
          · rw [if_neg y, if_neg y, obs]
theorem x_it0 {k24 : Int → Int → Int → Mem → Option (Int × Mem)} {p : Int} : f_X6_reads_b24 k24 30 0 p σ = some (0, σ) := by
  unfold f_X6_reads_b24
  by_cases q : 300 < p
  · rw [if_pos q]; rfl
  · rw [if_neg q, if_pos rfl]; rfl
theorem x_itE {k24 : Int → Int → Int → Mem → Option (Int × Mem)} {p : Int} (hR : Ref σ) (hp : p ≤ 300) (hz : σ 3 4 = 0) : f_X6_reads_b24 k24 30 1 p σ = if σ 30 4 = 0 then some (1, σ) else (f_X7_refuse 3 2 σ).bind fun r21 => if r21.1 = 0 then some (0, r21.2) else some (1, r21.2) := by
  unfold f_X6_reads_b24 f_X6_reads_b90 f_X6_reads_b112 f_X7_isAtEnd f_X7_isAtEnd_b0
  simp only [gTr, obs, hR.at 30 0 3 rfl, oTxt, if_true, gTx]
  rw [if_neg (by omega), if_neg (by decide), if_pos hz, obs, if_neg (by decide), if_neg (by decide)]
/-- the court's loop goes on to σ' in n turns; it ends with a FAULT -/
def Xgo (σ σ' : Mem) (n : Nat) : Prop := ∀ F p : Nat, p + n ≤ 300 → f_X6_reads_h24 (F + n) 30 1 p σ = f_X6_reads_h24 F 30 1 ((p + n : Nat) : Int) σ'
def Xbad (σ σ' : Mem) (n : Nat) : Prop := ∀ F p : Nat, p + n ≤ 300 → f_X6_reads_h24 (F + n + 2) 30 1 p σ = some (0, σ')
theorem Xgo.refl : Xgo σ σ 0 := fun F p _ => rfl
theorem Xgo.trans {n m : Nat} (h : Xgo σ σ1 n) (g : Xgo σ1 σ' m) : Xgo σ σ' (n + m) := fun F p hp => by
  rw [show F + (n + m) = F + m + n by omega, h (F + m) p (by omega), g F (p + n) (by omega), show p + n + m = p + (n + m) by omega]
theorem Xgo.bad {n m : Nat} (h : Xgo σ σ1 n) (g : Xbad σ1 σ' m) : Xbad σ σ' (n + m) := fun F p hp => by
  rw [show F + (n + m) + 2 = F + m + 2 + n by omega, h (F + m + 2) p (by omega), g F (p + n) (by omega)]
theorem Xgo.one (hR : Ref σ) (hz : ¬ σ 3 4 = 0) (h : xIt σ = some (1, σ')) : Xgo σ σ' 1 := fun F p hp => by
  rw [hs_X6_reads_h24, x_it hR (by omega) hz, h, obs, wkk1 (by omega)]
theorem Xbad.one (hR : Ref σ) (hz : ¬ σ 3 4 = 0) (h : xIt σ = some (0, σ')) : Xbad σ σ' 0 := fun F p hp => by
  rw [show F + 0 + 2 = F + 1 + 1 by omega, hs_X6_reads_h24, x_it hR (by omega) hz, h, obs, hs_X6_reads_h24, x_it0]
theorem Xbad.end (hR : Ref σ) (hz : σ 3 4 = 0) (hw : ¬ σ 30 4 = 0) (h : f_X7_refuse 3 2 σ = some (0, σ')) : Xbad σ σ' 0 := fun F p hp => by
  rw [show F + 0 + 2 = F + 1 + 1 by omega, hs_X6_reads_h24, x_itE hR (by omega) hz, if_neg hw, h, obs, if_pos rfl]
/-- both in the middle of a text of TERMS -/
def Dt (σ τ : Mem) (S k w : Nat) : Prop := Du σ τ ∧ (σ 31 1 = S ∧ τ 113 25 = S ∧ S ≤ 30) ∧ (σ 31 2 = k ∧ k + w ≤ 2 * S) ∧ (σ 30 4 = w ∧ w ≤ 3)
/-- an END in the court's draft -/
def cloX (σ : Mem) (k o : Nat) : Mem := upm (upm (upm (upm (upm (upm (upm (upm σ 32 k 21) 33 k 0) 34 k 0) 35 k 0) 36 k (-1)) 31 2 ((k + 1 : Nat) : Int)) 36 k o) 36 o ((k + 1 : Nat) : Int)
theorem x_close {o : Nat} (hR : Ref σ) (h2 : σ 31 2 = k) (hk : k < 60) (ho : o < k) : f_X5_close 31 o σ = some (cloX σ k o) := by
  have s1 : ∀ {ρ : Mem} {v : Int}, st_ Sh ρ 20 32 (k : Int) v = some (upm ρ 32 k v) := s31 (m := 1) (by omega) (by omega) hk
  have s2 : ∀ {ρ : Mem} {v : Int}, st_ Sh ρ 20 33 (k : Int) v = some (upm ρ 33 k v) := s31 (m := 2) (by omega) (by omega) hk
  have s3 : ∀ {ρ : Mem} {v : Int}, st_ Sh ρ 20 34 (k : Int) v = some (upm ρ 34 k v) := s31 (m := 3) (by omega) (by omega) hk
  have s4 : ∀ {ρ : Mem} {v : Int}, st_ Sh ρ 20 35 (k : Int) v = some (upm ρ 35 k v) := s31 (m := 4) (by omega) (by omega) hk
  have s5 : ∀ {ρ : Mem} {v : Int}, st_ Sh ρ 20 36 (k : Int) v = some (upm ρ 36 k v) := s31 (m := 5) (by omega) (by omega) hk
  have s6 : ∀ {ρ : Mem} {v : Int}, st_ Sh ρ 20 36 (o : Int) v = some (upm ρ 36 o v) := s31 (m := 5) (by omega) (by omega) (by omega)
  have r7 : ∀ {ρ : Mem} {v : Int}, upm ρ 31 2 v 31 7 = ρ 31 7 := fun {ρ v} => by rw [upm_app, if_neg (by decide)]
  unfold f_X5_close f_X5_close_b0 f_X5_add f_X5_add_b0
  rw [if_pos (show isO Sh 5 31 = true from rfl), if_pos (show isO Sh 5 31 = true from rfl)]
  simp (disch := decide) only [g31, p31, obs, upm_o, h2, hR.at 31 3 32 rfl, hR.at 31 4 33 rfl, hR.at 31 5 34 rfl, hR.at 31 6 35 rfl, hR.at 31 7 36 rfl, s1, s2, s3, s4, s5]
  rw [if_pos (by omega), if_pos trivial, obs, wkk1 (by omega)]
  simp (disch := decide) only [upm_o, upm_same, r7, hR.at 31 7 36 rfl, obs, show w32 (((k + 1 : Nat) : Int) - 1) = (k : Int) by rw [w32_in (by omega) (by omega)]; omega, s5, s6]
  rfl
theorem cloX_c {o d : Nat} (h : ¬ (31 ≤ d ∧ d ≤ 36)) : cloX σ k o d = σ d := by
  unfold cloX
  rw [upm_ne (by omega), upm_ne (by omega), upm_ne (by omega), upm_ne (by omega), upm_ne (by omega), upm_ne (by omega), upm_ne (by omega), upm_ne (by omega)]
theorem cloX_o {o b j : Nat} (hb : 32 ≤ b) (hj : ¬ j = k) (hj2 : b = 36 → ¬ j = o) : cloX σ k o b j = σ b j := by
  unfold cloX
  simp only [upm_app]
  grind
theorem cloX_v {o : Nat} (ho : o < k) : cloX σ k o 32 k = 21 ∧ cloX σ k o 36 k = o ∧ cloX σ k o 36 o = ((k + 1 : Nat) : Int) ∧ cloX σ k o 31 1 = σ 31 1 ∧ cloX σ k o 31 2 = ((k + 1 : Nat) : Int) := by
  unfold cloX
  simp only [upm_app]
  refine ⟨?_, ?_, ?_, ?_, ?_⟩ <;> grind
theorem cloX_f {o : Nat} (ho : o < k) : Fp (QX o w) σ (cloX σ k o) := by
  unfold cloX
  exact (((((((Fp.up (by unfold QX; omega)).then (by unfold QX; omega)).then (by unfold QX; omega)).then (by unfold QX; omega)).then (by unfold QX; omega)).then (by unfold QX; omega)).then (by unfold QX; omega)).then (by unfold QX; omega)
theorem a37 {i : Nat} (hi : i < 3) : al Sh σ 20 37 (i : Int) = some (σ 37 i) ∧ ∀ v, st_ Sh σ 20 37 (i : Int) v = some (upm σ 37 i v) := by
  have : isA Sh 20 37 (i : Int) = true := isA_at (a := 37) (n := 3) rfl (by omega) (by omega)
  exact ⟨by rw [al_at this, Int.toNat_natCast]; rfl, fun v => by rw [st_at this, Int.toNat_natCast]; rfl⟩
/-- the reference at the end of a block -/
noncomputable def mEnd (τ : Mem) : Option Mem := (f_X12_isEnd 113 τ).bind fun r33 => (f_X12_must 113 r33 τ).bind endM
/-- end; -/
theorem j_close {o : Nat} (h : Co σ τ t N) (hd : Dt σ τ S k (w + 1)) (he : isK (σ 3) 21 = true) (ho : σ 37 w = o) (hok : o < k) :
    (∃ σ2 σ3 τ3, xIt σ = some (1, σ3) ∧ mEnd τ = some τ3 ∧ Co σ3 τ3 t N ∧ Fp M0 τ τ3 ∧ σ2 = cloX (upm σ 30 4 (w : Int)) k o ∧ (∀ b, ¬ b = 3 → σ3 b = σ2 b) ∧ Fp X0 σ2 σ3 ∧ σ 3 5 < σ3 3 5) ∨
    (∃ σ3 τ3, xIt σ = some (0, σ3) ∧ mEnd τ = some τ3 ∧ Bd σ3 τ3 ∧ Fp (QX o w) σ σ3 ∧ Fp M0 τ τ3) := by
  obtain ⟨hu, ⟨d1, d2, d3⟩, ⟨d4, d5⟩, d6, d7⟩ := hd
  have R1 : Ref (upm σ 30 4 (w : Int)) := hu.1.up rfl
  have hk : k < 60 := by omega
  have ex2 := x_close (o := o) (k := k) R1 (by rw [upm_o (by decide)]; exact d4) hk hok
  have f1 : Fp (QX o w) σ (upm σ 30 4 (w : Int)) := Fp.up (by unfold QX; omega)
  have f2 : Fp (QX o w) σ (cloX (upm σ 30 4 (w : Int)) k o) := f1.trans (cloX_f hok)
  have R2 := (QXf f2).ref (by decide) hu.1
  have c2 : Co (cloX (upm σ 30 4 (w : Int)) k o) τ t N := h.cell (by rw [cloX_c (by omega), upm_ne (by decide)]) (by rw [cloX_c (by omega), upm_ne (by decide)]) (by rw [cloX_c (by omega), upm_ne (by decide)]) rfl rfl
  have w2 : cloX (upm σ 30 4 (w : Int)) k o 3 = σ 3 := by rw [cloX_c (by omega), upm_ne (by decide)]
  obtain ⟨σ3, τ3, a1, a2, a3, a4, a5, a6, _⟩ := j_go c2
  have R3 : Ref σ3 := a3.fw.1.ref (by decide) R2
  have lt := a6 (by rw [w2, isK_w he]; decide)
  rw [w2] at lt
  have ex : xIt σ = (f_X7_takeSign 3 59 σ3).bind fun r14 => (bz r14.1).bind fun _ => some (r14.1, r14.2) := by
    unfold xIt f_X6_readEnd f_X6_readEnd_b0
    rw [if_pos he, if_pos oTr, gTr, obs, d6, if_pos (by omega), obs, pTr, obs, show w32 (((w + 1 : Nat) : Int) - 1) = (w : Int) by rw [w32_in (by omega) (by omega)]; omega]
    simp only [gTr, obs, R1.at 30 2 31 rfl, R1.at 30 3 37 rfl, upm_same]
    rw [(a37 (by omega)).1, obs, upm_o (by decide), ho, ex2, obs, R2.at 30 0 3 rfl, a1, obs, R3.at 30 0 3 rfl]
  have em : mEnd τ = endM τ3 := by
    unfold mEnd
    rw [m_isEnd h.2.1.kk, obs, if_pos he, m_must1 h.2.2 (by decide), a2, obs]
  rcases j_semi a4 with ⟨σ4, τ4, b1, b2, b3, b4, b5⟩ | ⟨σ4, τ4, b1, b2, b3, b4⟩
  · exact .inl ⟨_, σ4, τ4, by rw [ex, b1, obs]; rfl, by rw [em, b2], b4, a3.fm.trans b3.fm, rfl, fun b hb => by rw [b3.x hb, a3.x hb], a3.fx.trans b3.fx, by omega⟩
  · exact .inr ⟨σ4, τ4, by rw [ex, b1, obs]; rfl, by rw [em, b2], b4, f2.trans (X0q (a3.fx.trans b3.fx)), a3.fm.trans b3.fm⟩
end
