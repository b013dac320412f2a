/-! ===== terms read: the draft, what changes ===== -/
section
variable {σ σ' σ1 τ τ' τ1 : Mem} {t : Nat → Int} {N k S w : Nat}
theorem oTr : isO Sh 6 30 = true := rfl
theorem gTr {j : Nat} : gf Sh σ 6 30 j = some (σ 30 j) := gf_at oTr
theorem pTr {j : Nat} {v : Int} : pf Sh σ 6 30 j v = some (upm σ 30 j v) := pf_at oTr
theorem t31 : tl 31 := .inr (.inl rfl)
theorem g31 {j : Nat} : gf Sh σ 5 31 j = some (σ 31 j) := gTm t31
theorem p31 {j : Nat} {v : Int} : pf Sh σ 5 31 j v = some (upm σ 31 j v) := pTm t31
theorem s31 {m : Nat} {v : Int} (h0 : 1 ≤ m) (h1 : m ≤ 5) (hk : k < 60) : st_ Sh σ 20 ((31 + m : Nat) : Int) (k : Int) v = some (upm σ (31 + m) k v) := stTm t31 h0 h1 hk
/-- what the court changes while tokens are taken, while a STEP is read, and in all -/
def X0 (b j : Nat) : Prop := (b = 3 ∧ 3 ≤ j ∧ j ≤ 11) ∨ (b = 30 ∧ j = 5)
def RX (k b j : Nat) : Prop := (b = 3 ∧ 3 ≤ j ∧ j ≤ 11) ∨ (b = 30 ∧ j = 5) ∨ (b = 31 ∧ (j = 1 ∨ j = 2)) ∨ (32 ≤ b ∧ b ≤ 36 ∧ j = k)
def QX (k w b j : Nat) : Prop := (b = 3 ∧ 3 ≤ j ∧ j ≤ 11) ∨ (b = 30 ∧ (j = 4 ∨ j = 5)) ∨ (b = 31 ∧ (j = 1 ∨ j = 2)) ∨ (32 ≤ b ∧ b ≤ 36 ∧ k ≤ j) ∨ (b = 37 ∧ w ≤ j)
/-- and the reference -/
def M0 (b j : Nat) : Prop := b = 113 ∧ 12 ≤ j ∧ j ≤ 19
def RM (S b j : Nat) : Prop := (b = 113 ∧ 12 ≤ j ∧ j ≤ 19) ∨ (b = 118 ∧ 1365 + 9 * S ≤ j ∧ j < 1365 + 9 * S + 9)
def QM (S b j : Nat) : Prop := (b = 113 ∧ (12 ≤ j ∧ j ≤ 19 ∨ j = 25)) ∨ (b = 118 ∧ 1365 + 9 * S ≤ j)
theorem X0r (f : Fp X0 σ σ') : Fp (RX k) σ σ' := f.mono fun b j q => by unfold X0 at q; unfold RX; omega
theorem RXq (f : Fp (RX k) σ σ') : Fp (QX k w) σ σ' := f.mono fun b j q => by unfold RX at q; unfold QX; omega
theorem X0q (f : Fp X0 σ σ') : Fp (QX k w) σ σ' := RXq (X0r f)
theorem QXm {k' w' : Nat} (f : Fp (QX k w) σ σ') (h1 : k' ≤ k) (h2 : w' ≤ w) : Fp (QX k' w') σ σ' := f.mono fun b j q => by unfold QX at q ⊢; omega
theorem M0r (f : Fp M0 τ τ') : Fp (RM S) τ τ' := f.mono fun b j q => by unfold M0 at q; unfold RM; omega
theorem RMq (f : Fp (RM S) τ τ') : Fp (QM S) τ τ' := f.mono fun b j q => by unfold RM at q; unfold QM; omega
theorem M0q (f : Fp M0 τ τ') : Fp (QM S) τ τ' := RMq (M0r f)
theorem QMm {S' : Nat} (f : Fp (QM S) τ τ') (h1 : S' ≤ S) : Fp (QM S') τ τ' := f.mono fun b j q => by unfold QM at q ⊢; omega
theorem gidTr {b j : Nat} (h0 : 32 ≤ b) (h1 : b ≤ 37) : gid b j = 0 := by
  have h2 : isRf b j = false := by rcases (show b = 32 ∨ b = 33 ∨ b = 34 ∨ b = 35 ∨ b = 36 ∨ b = 37 by omega) with rfl | rfl | rfl | rfl | rfl | rfl <;> exact isRf_cell rfl
  unfold gid
  rw [h2]
  rcases (show b = 32 ∨ b = 33 ∨ b = 34 ∨ b = 35 ∨ b = 36 ∨ b = 37 by omega) with rfl | rfl | rfl | rfl | rfl | rfl <;> rfl
theorem QXf (f : Fp (QX k w) σ σ') : Fr [0, 5] σ σ' := Fp.mono f fun b j q => by
  unfold gs
  rcases q with ⟨rfl, q1, q2⟩ | ⟨rfl, q⟩ | ⟨rfl, q⟩ | ⟨q1, q2, _⟩ | ⟨rfl, _⟩
  · rcases (show j = 3 ∨ j = 4 ∨ j = 5 ∨ j = 6 ∨ j = 7 ∨ j = 8 ∨ j = 9 ∨ j = 10 ∨ j = 11 by omega) with rfl | rfl | rfl | rfl | rfl | rfl | rfl | rfl | rfl <;> decide
  · rcases q with rfl | rfl <;> decide
  · rcases q with rfl | rfl <;> decide
  · rw [gidTr q1 (by omega)]; decide
  · rw [gidTr (by omega) (by omega)]; decide
theorem QMf (f : Fp (QM S) τ τ') : Fr [20] τ τ' := Fp.mono f fun b j q => by
  unfold gs
  rcases q with ⟨rfl, q⟩ | ⟨rfl, q⟩
  · rcases (show j = 12 ∨ j = 13 ∨ j = 14 ∨ j = 15 ∨ j = 16 ∨ j = 17 ∨ j = 18 ∨ j = 19 ∨ j = 25 by omega) with rfl | rfl | rfl | rfl | rfl | rfl | rfl | rfl | rfl <;> decide
  · rw [gid118, if_neg (by omega), if_neg (by omega), if_neg (by omega)]; decide
theorem Dl.fx (h : Dl σ σ' τ τ') : Fp X0 σ σ' := by
  obtain ⟨V, W, rfl, rfl, h1, h2⟩ := h
  intro b j q
  by_cases z : b = 3
  · subst z
    rw [setc_same]
    exact h1 j (by unfold X0 at q; omega)
  · rw [setc_ne z]
theorem Dl.fm (h : Dl σ σ' τ τ') : Fp M0 τ τ' := by
  obtain ⟨V, W, rfl, rfl, h1, h2⟩ := h
  intro b j q
  by_cases z : b = 113
  · subst z
    rw [setc_same]
    exact h2 j (by unfold M0 at q; omega)
  · rw [setc_ne z]
/-- the wall whose names the TERMS may name -/
def Du (σ τ : Mem) : Prop := Ref σ ∧ Ref τ ∧ WR σ 5 (blk τ 0) (wrd τ 0) ∧ BV (blk τ 0)
theorem Du.fp (h : Du σ τ) (f : Fp (QX k w) σ σ') (g : Fp (QM S) τ τ') : Du σ' τ' := by
  obtain ⟨h1, h2, h3, h4⟩ := h
  have e8 : ∀ j, j < 327 → blk τ' 0 j = blk τ 0 j := fun j hj => g 118 (327 * 0 + j) (by unfold QM; omega)
  have e0 : ∀ j, wrd τ' 0 j = wrd τ 0 j := fun j => g 120 (14 * 0 + j) (by unfold QM; omega)
  exact ⟨(QXf f).ref (by decide) h1, (QMf g).ref (by decide) h2, h3.cg (fun b j q1 q2 => f b j (by unfold QX; omega)) (fun j hj => e8 j (by omega)) (fun j _ => e0 j) h4, h4.cg (fun j hj => e8 j (by omega))⟩
theorem Du.rp (h : Du σ τ) (f : Fp X0 σ σ') (g : Fp (RM S) τ τ') : Du σ' τ' := h.fp (k := 0) (w := 0) (X0q f) (RMq g)
theorem Du.p0 (h : Du σ τ) : σ 5 0 = τ 118 0 ∧ 0 ≤ τ 118 0 ∧ τ 118 0 ≤ 10 := by
  obtain ⟨h1, h2, h3, h4⟩ := h
  exact ⟨h3.1.1, h4.1.1, h4.1.2⟩
/-- a row added to the court's draft -/
def addX (σ : Mem) (k S : Nat) (op a b c : Int) : Mem := upm (upm (upm (upm (upm (upm (upm σ 32 k op) 33 k a) 34 k b) 35 k c) 36 k (-1)) 31 2 ((k + 1 : Nat) : Int)) 31 1 ((S + 1 : Nat) : Int)
theorem x_add {op a b c : Int} (hR : Ref σ) (h2 : σ 31 2 = k) (hk : k < 60) (h1 : σ 31 1 = S) (hS : S ≤ 30) (hop : ¬ op = 21) : f_X5_add 31 op a b c σ = some (addX σ k S op a b c) := by
  have s1 : ∀ {ρ : Mem} {v : Int}, st_ Sh ρ 20 32 (k : Int) v = some (upm ρ 32 k v) := s31 (m := 1) (by omega) (by omega) hk
  have s2 : ∀ {ρ : Mem} {v : Int}, st_ Sh ρ 20 33 (k : Int) v = some (upm ρ 33 k v) := s31 (m := 2) (by omega) (by omega) hk
  have s3 : ∀ {ρ : Mem} {v : Int}, st_ Sh ρ 20 34 (k : Int) v = some (upm ρ 34 k v) := s31 (m := 3) (by omega) (by omega) hk
  have s4 : ∀ {ρ : Mem} {v : Int}, st_ Sh ρ 20 35 (k : Int) v = some (upm ρ 35 k v) := s31 (m := 4) (by omega) (by omega) hk
  have s5 : ∀ {ρ : Mem} {v : Int}, st_ Sh ρ 20 36 (k : Int) v = some (upm ρ 36 k v) := s31 (m := 5) (by omega) (by omega) hk
  unfold f_X5_add f_X5_add_b0
  rw [if_pos (show isO Sh 5 31 = true from rfl)]
  simp (disch := decide) only [g31, p31, obs, upm_o, h2, h1, hR.at 31 3 32 rfl, hR.at 31 4 33 rfl, hR.at 31 5 34 rfl, hR.at 31 6 35 rfl, hR.at 31 7 36 rfl, s1, s2, s3, s4, s5]
  rw [if_pos (by omega), if_neg hop, wkk1 (by omega), upm_app, if_neg (by decide)]
  simp (disch := decide) only [upm_o, h1]
  rw [wkk1 (by omega)]
  rfl
theorem addX_c {op a b c : Int} {d : Nat} (h : ¬ (31 ≤ d ∧ d ≤ 36)) : addX σ k S op a b c d = σ d := by
  unfold addX
  rw [upm_ne (by omega), upm_ne (by omega), upm_ne (by omega), upm_ne (by omega), upm_ne (by omega), upm_ne (by omega), upm_ne (by omega)]
theorem addX_f {op a b c : Int} : Fp (RX k) σ (addX σ k S op a b c) := by
  unfold addX
  exact ((((((Fp.up (by unfold RX; omega)).then (by unfold RX; omega)).then (by unfold RX; omega)).then (by unfold RX; omega)).then (by unfold RX; omega)).then (by unfold RX; omega)).then (by unfold RX; omega)
theorem addX_v {op a b c : Int} : addX σ k S op a b c 32 k = op ∧ addX σ k S op a b c 33 k = a ∧ addX σ k S op a b c 34 k = b ∧ addX σ k S op a b c 35 k = c ∧ addX σ k S op a b c 31 1 = ((S + 1 : Nat) : Int) ∧ addX σ k S op a b c 31 2 = ((k + 1 : Nat) : Int) := by
  unfold addX
  refine ⟨?_, ?_, ?_, ?_, ?_, ?_⟩ <;> simp [upm_app]
/-- a STEP's rest read by both -/
def RO (t : Nat → Int) (N : Nat) (σ τ : Mem) (k S : Nat) (P : Mem → Mem → Prop) (fx : Option (Int × Mem)) (fm : Option Mem) : Prop :=
  (∃ σ' τ', fx = some (1, σ') ∧ fm = some τ' ∧ Co σ' τ' t N ∧ Fp (RX k) σ σ' ∧ Fp (RM S) τ τ' ∧ σ 3 5 ≤ σ' 3 5 ∧ (σ' 31 1 = ((S + 1 : Nat) : Int) ∧ σ' 31 2 = ((k + 1 : Nat) : Int)) ∧ P σ' τ') ∨ (∃ σ' τ', fx = some (0, σ') ∧ fm = some τ' ∧ Bd σ' τ' ∧ Fp (RX k) σ σ' ∧ Fp (RM S) τ τ')
theorem RO.imp {P Q : Mem → Mem → Prop} {fx : Option (Int × Mem)} {fm : Option Mem} (h : RO t N σ τ k S P fx fm) (hi : ∀ σ' τ', Fp (RX k) σ σ' → Fp (RM S) τ τ' → P σ' τ' → Q σ' τ') : RO t N σ τ k S Q fx fm := by
  rcases h with ⟨σ', τ', a1, a2, a3, a4, a5, a6, a7, a8⟩ | h
  · exact .inl ⟨σ', τ', a1, a2, a3, a4, a5, a6, a7, hi _ _ a4 a5 a8⟩
  · exact .inr h
theorem RO.add {σ0 τ0 : Mem} {P : Mem → Mem → Prop} {op a b c : Int} {fx : Option (Int × Mem)} {fm : Option Mem} (h : Co σ τ t N) (hd : Du σ0 τ0) (f : Fp X0 σ0 σ) (g : Fp (RM S) τ0 τ) (h2 : σ0 31 2 = k) (hk : k < 60) (h1 : σ0 31 1 = S) (hS : S < 30) (hop : ¬ op = 21) (lt : σ0 3 5 ≤ σ 3 5) (hP : P (addX σ k S op a b c) τ) (hx : fx = (f_X5_add 31 op a b c σ).bind fun r => some (1, r)) (hm : fm = some τ) : RO t N σ0 τ0 k S P fx fm := by
  have hR : Ref σ := (hd.rp f g).1
  have e2 : σ 31 2 = k := (f 31 2 (by unfold X0; omega)).trans h2
  have e1 : σ 31 1 = S := (f 31 1 (by unfold X0; omega)).trans h1
  refine .inl ⟨addX σ k S op a b c, τ, by rw [hx, x_add hR e2 hk e1 (by omega) hop, obs], hm, h.cell (addX_c (by omega)) (addX_c (by omega)) (addX_c (by omega)) rfl rfl, (X0r f).trans addX_f, g, ?_, ⟨addX_v.2.2.2.2.1, addX_v.2.2.2.2.2⟩, hP⟩
  rw [addX_c (by omega)]
  exact lt
theorem RO.bad {σ0 τ0 : Mem} {P : Mem → Mem → Prop} {fx : Option (Int × Mem)} {fm : Option Mem} (h : Bd σ τ) (f : Fp X0 σ0 σ) (g : Fp (RM S) τ0 τ) (hx : fx = some (0, σ)) (hm : fm = some τ) : RO t N σ0 τ0 k S P fx fm := .inr ⟨σ, τ, hx, hm, h, X0r f, g⟩
theorem stS {i v : Int} {n : Nat} (hS : S < 30) (hi : 0 ≤ i ∧ i ≤ 8) (hn : (n : Int) = i) : st_ Sh τ 20 118 (w32 (((1365 + 9 * S : Nat) : Int) + i)) v = some (upm τ 118 (1365 + 9 * S + n) v) := by
  rw [w32_in (by omega) (by omega), stC (by omega) (by omega), show (((1365 + 9 * S : Nat) : Int) + i).toNat = 1365 + 9 * S + n by omega]
theorem fS {n : Nat} {v : Int} (g : Fp (RM S) τ τ') (hn : n < 9) : Fp (RM S) τ (upm τ' 118 (1365 + 9 * S + n) v) := g.then (by unfold RM; omega)
theorem Bd.c {j : Nat} {v : Int} (h : Bd σ τ) : Bd σ (upm τ 118 j v) := by
  unfold Bd
  rw [upm_o (by decide), upm_o (by decide)]
  exact h
theorem Co.c {j : Nat} {v : Int} (h : Co σ τ t N) : Co σ (upm τ 118 j v) t N := h.cell rfl rfl rfl (upm_ne (by decide)) (upm_ne (by decide))
/-- the reference's new steps as Cd looks at them -/
def Bt (τ : Mem) : Nat → Int := fun j => if j < 57 then blk τ 0 j else blk τ 4 j
theorem Bt_s {i : Nat} : Bt τ (57 + 9 * S + i) = τ 118 (1365 + 9 * S + i) := by
  unfold Bt blk
  rw [if_neg (by omega)]
  congr 1
  omega
theorem Bt_s0 : Bt τ (57 + 9 * S) = τ 118 (1365 + 9 * S) := Bt_s (i := 0)
theorem Bt_0 : Bt τ 0 = τ 118 0 := rfl
theorem Bt_1 : Bt τ 1 = τ 118 1 := rfl
end
