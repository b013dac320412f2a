/-! ===== TERMS copied; the reference's blocks copied; mark, back ===== -/
section
variable {σ σ' τ : Mem} {a c : Nat} {B B' D : Nat → Int}
def tl (a : Nat) : Prop := a = 14 ∨ a = 31 ∨ a = 77 ∨ a = 92 ∨ a = 107
theorem oTm (h : tl a) : isO Sh 5 (a : Int) = true := by rcases h with rfl | rfl | rfl | rfl | rfl <;> rfl
theorem gTm {j : Nat} (h : tl a) : gf Sh σ 5 (a : Int) j = some (σ a j) := by rw [gf_at (oTm h), Int.toNat_natCast]
theorem pTm {j : Nat} {v : Int} (h : tl a) : pf Sh σ 5 (a : Int) j v = some (upm σ a j v) := by rw [pf_at (oTm h), Int.toNat_natCast]
theorem shTm (h : tl a) {m : Nat} (h0 : 1 ≤ m) (h1 : m ≤ 5) : Sh[a + m]? = some (20, 60) := by
  rcases h with rfl | rfl | rfl | rfl | rfl <;> rcases (show m = 1 ∨ m = 2 ∨ m = 3 ∨ m = 4 ∨ m = 5 by omega) with rfl | rfl | rfl | rfl | rfl <;> rfl
theorem rTm (hR : Ref σ) (h : tl a) : σ a 3 = ((a + 1 : Nat) : Int) ∧ σ a 4 = ((a + 2 : Nat) : Int) ∧ σ a 5 = ((a + 3 : Nat) : Int) ∧ σ a 6 = ((a + 4 : Nat) : Int) ∧ σ a 7 = ((a + 5 : Nat) : Int) := by
  rcases h with rfl | rfl | rfl | rfl | rfl <;> exact ⟨hR.at _ _ _ rfl, hR.at _ _ _ rfl, hR.at _ _ _ rfl, hR.at _ _ _ rfl, hR.at _ _ _ rfl⟩
theorem alTm {m i : Nat} (h : tl a) (h0 : 1 ≤ m) (h1 : m ≤ 5) (hi : i < 60) : al Sh σ 20 ((a + m : Nat) : Int) i = some (σ (a + m) i) := by
  rw [al_at (isA_at (shTm h h0 h1) (by omega) (by omega)), Int.toNat_natCast, Int.toNat_natCast]
theorem stTm {m i : Nat} {v : Int} (h : tl a) (h0 : 1 ≤ m) (h1 : m ≤ 5) (hi : i < 60) : st_ Sh σ 20 ((a + m : Nat) : Int) i v = some (upm σ (a + m) i v) := by
  rw [st_at (isA_at (shTm h h0 h1) (by omega) (by omega)), Int.toNat_natCast, Int.toNat_natCast]
def tSl (a b j : Nat) : Prop := a ≤ b ∧ b ≤ a + 5 ∧ isRf b j = false
theorem nrT (h : tl a) : isRf a 0 = false ∧ isRf a 1 = false ∧ isRf a 2 = false := by rcases h with rfl | rfl | rfl | rfl | rfl <;> exact ⟨rfl, rfl, rfl⟩
theorem nrTs (h : tl a) {m j : Nat} (h0 : 1 ≤ m) (h1 : m ≤ 5) : isRf (a + m) j = false := by
  rcases h with rfl | rfl | rfl | rfl | rfl <;> rcases (show m = 1 ∨ m = 2 ∨ m = 3 ∨ m = 4 ∨ m = 5 by omega) with rfl | rfl | rfl | rfl | rfl <;> exact isRf_cell rfl
theorem Fp.refT {a : Nat} {σ σ' : Mem} (h : Fp (tSl a) σ σ') (hR : Ref σ) : Ref σ' := by
  refine hR.cell fun e he => h _ _ ?_
  have : isRf e.1 e.2.1 = true := List.any_eq_true.mpr ⟨e, he, by simp⟩
  unfold tSl
  rw [this]
  simp
theorem tfp {m j : Nat} {v : Int} (hW : tl a) (h0 : 1 ≤ m) (h1 : m ≤ 5) : Fp (tSl a) σ (upm σ (a + m) j v) := Fp.up ⟨by omega, by omega, nrTs hW h0 h1⟩
theorem cpW_ft {i : Nat} (hW : tl a) : Fp (tSl a) σ (cpW σ a c i) := by
  intro b j hb
  unfold cpW
  rw [if_neg]
  rintro ⟨q1, q2, _⟩
  obtain ⟨m, rfl⟩ : ∃ m, b = a + m := ⟨b - a, by omega⟩
  exact hb ⟨by omega, by omega, nrTs hW (by omega) (by omega)⟩
theorem x_tcp {i f m : Nat} {k : Mem → Option Mem} (hA : tl a) (hC : tl c) (h0 : 1 ≤ m) (h1 : m ≤ 5) (e1 : σ a f = ((a + m : Nat) : Int)) (e2 : σ c f = ((c + m : Nat) : Int)) (hi : i < 60) : ((gf Sh σ 5 a f).bind fun x => (gf Sh σ 5 c f).bind fun y => (al Sh σ 20 y i).bind fun z => (st_ Sh σ 20 x i z).bind k) = k (upm σ (a + m) i (σ (c + m) i)) := by
  simp only [gTm hA, gTm hC, obs, e1, e2]
  rw [alTm hC h0 h1 hi]
  simp only [obs]
  rw [stTm hA h0 h1 hi]
  simp only [obs]
theorem x_tcopy_h {n : Nat} (hA : tl a) (hC : tl c) (hd : a + 6 ≤ c ∨ c + 6 ≤ a) (hR : Ref σ) (h2 : σ c 2 = n) (hn : n ≤ 60) : f_X5_copyFrom_h26 FU a c 0 σ = some (cpW σ a c n) := by
  have := up_all (Q := fun k i => f_X5_copyFrom_h26 k a c (i : Int) (cpW σ a c i) = some (cpW σ a c n)) n (fun k => ?_) (fun k i hi ih => ?_) (by unfold FU; omega)
  · rw [cpW_0] at this
    exact this
  · rw [hs_X5_copyFrom_h26]
    unfold f_X5_copyFrom_b26
    simp only [gTm hC, obs]
    rw [cpW_o (by omega), if_pos (by omega)]
  · have f0 : Fp (tSl a) σ (cpW σ a c i) := cpW_ft hA
    have f1 := f0.trans (tfp (m := 1) (j := i) (v := σ (c + 1) i) hA (by omega) (by omega))
    have f2 := f1.trans (tfp (m := 2) (j := i) (v := σ (c + 2) i) hA (by omega) (by omega))
    have f3 := f2.trans (tfp (m := 3) (j := i) (v := σ (c + 3) i) hA (by omega) (by omega))
    have f4 := f3.trans (tfp (m := 4) (j := i) (v := σ (c + 4) i) hA (by omega) (by omega))
    rw [hs_X5_copyFrom_h26]
    unfold f_X5_copyFrom_b26
    rw [gTm hC, obs, cpW_o (by omega), if_neg (by omega), if_neg (by omega)]
    rw [x_tcp hA hC (m := 1) (by omega) (by omega) (rTm (f0.refT hR) hA).1 (rTm (f0.refT hR) hC).1 (by omega), cpW_o (by omega)]
    rw [x_tcp hA hC (m := 2) (by omega) (by omega) (rTm (f1.refT hR) hA).2.1 (rTm (f1.refT hR) hC).2.1 (by omega), upm_o (by omega), cpW_o (by omega)]
    rw [x_tcp hA hC (m := 3) (by omega) (by omega) (rTm (f2.refT hR) hA).2.2.1 (rTm (f2.refT hR) hC).2.2.1 (by omega), upm_o (by omega), upm_o (by omega), cpW_o (by omega)]
    rw [x_tcp hA hC (m := 4) (by omega) (by omega) (rTm (f3.refT hR) hA).2.2.2.1 (rTm (f3.refT hR) hC).2.2.2.1 (by omega), upm_o (by omega), upm_o (by omega), upm_o (by omega), cpW_o (by omega)]
    rw [x_tcp hA hC (m := 5) (by omega) (by omega) (rTm (f4.refT hR) hA).2.2.2.2 (rTm (f4.refT hR) hC).2.2.2.2 (by omega), upm_o (by omega), upm_o (by omega), upm_o (by omega), upm_o (by omega), cpW_o (by omega), cpW_s, w32_in (by omega) (by omega)]
    exact ih
theorem Cd.mv {N M : Nat} (hs : ∀ m j, 1 ≤ m → m ≤ 5 → j < M → σ' (a + m) j = σ (c + m) j) (h0 : B' 0 = B 0) (h1 : B' 1 = B 1) (hB : ∀ j, 57 ≤ j → j < 57 + 9 * N → B' j = B j) : ∀ (n d lo hi k k1 : Nat), hi ≤ N → k1 ≤ M → Cd σ c B n d lo hi k k1 → Cd σ' a B' n d lo hi k k1 := by
  intro n
  induction n with
  | zero => intro d lo hi k k1 hN hM h; exact h
  | succ n ih =>
    intro d lo hi k k1 hN hM h
    unfold Cd at h ⊢
    rcases h with h | ⟨g1, g2, g3⟩ | ⟨d1, m, e, g1, g2, g3, g4, g5, g6, g7, g8⟩
    · exact .inl h
    · have l := Cd.lim _ _ _ _ _ _ g3
      refine .inr (.inl ⟨?_, by rw [hB _ (by omega) (by omega)]; exact g2, ih _ _ _ _ _ hN hM g3⟩)
      unfold Sm at g1 ⊢
      rw [hs _ _ (by omega) (by omega) (by omega), hs _ _ (by omega) (by omega) (by omega), hs _ _ (by omega) (by omega) (by omega), hs _ _ (by omega) (by omega) (by omega), h0, h1, hB _ (by omega) (by omega), hB _ (by omega) (by omega), hB _ (by omega) (by omega), hB _ (by omega) (by omega)]
      exact g1
    · have l := Cd.lim _ _ _ _ _ _ g4
      have l2 := Cd.lim _ _ _ _ _ _ g8
      refine .inr (.inr ⟨d1, m, e, g1, ?_, by rw [hB _ (by omega) (by omega)]; exact g3, ih _ _ _ _ _ (by omega) (by omega) g4, by rw [hs _ _ (by omega) (by omega) (by omega)]; exact g5, by rw [hs _ _ (by omega) (by omega) (by omega)]; exact g6, by rw [hs _ _ (by omega) (by omega) (by omega)]; exact g7, ih _ _ _ _ _ hN hM g8⟩)
      unfold Op' at g2 ⊢
      rw [hs _ _ (by omega) (by omega) (by omega), hs _ _ (by omega) (by omega) (by omega), hs _ _ (by omega) (by omega) (by omega), hs _ _ (by omega) (by omega) (by omega), h0, hB _ (by omega) (by omega), hB _ (by omega) (by omega), hB _ (by omega) (by omega), hB _ (by omega) (by omega), hB _ (by omega) (by omega), hB _ (by omega) (by omega), hB _ (by omega) (by omega)]
      exact g2
theorem x_tcopy (hA : tl a) (hC : tl c) (hd : a + 6 ≤ c ∨ c + 6 ≤ a) (hR : Ref σ) (h : TR σ c B) : ∃ σ', f_X5_copyFrom a c σ = some σ' ∧ TR σ' a B ∧ Fp (tSl a) σ σ' := by
  obtain ⟨t1, t2, t3, t4, ⟨t5, t6⟩, n, t7⟩ := h
  obtain ⟨s, hs⟩ := nat_of t5
  have hn := nrT hA
  have f0 : Fp (tSl a) σ (upm (upm (upm σ a 0 (σ c 0)) a 1 (σ c 1)) a 2 (σ c 2)) := ((Fp.up (show tSl a a 0 from ⟨by omega, by omega, hn.1⟩)).then ⟨by omega, by omega, hn.2.1⟩).then ⟨by omega, by omega, hn.2.2⟩
  refine ⟨cpW (upm (upm (upm σ a 0 (σ c 0)) a 1 (σ c 1)) a 2 (σ c 2)) a c s, ?_, ?_, f0.trans (cpW_ft hA)⟩
  · unfold f_X5_copyFrom f_X5_copyFrom_b0
    simp only [oTm hA, if_true, gTm hC, pTm hA, obs]
    have hb : bz (σ c 0) = some (σ c 0) := by unfold bz; rw [if_pos (by rw [t1]; exact t2)]
    simp (disch := omega) only [hb, obs, upm_o]
    refine x_tcopy_h hA hC hd (f0.refT hR) ?_ (by omega)
    simp (disch := omega) only [upm_o]
    exact hs
  · have e1 : ∀ m j, 1 ≤ m → m ≤ 5 → j < s → cpW (upm (upm (upm σ a 0 (σ c 0)) a 1 (σ c 1)) a 2 (σ c 2)) a c s (a + m) j = σ (c + m) j := by
      intro m j h1 h2 h3
      rw [cpW_i (by omega) h3, upm_o (by omega), upm_o (by omega), upm_o (by omega)]
    have e2 : ∀ j, j < 3 → cpW (upm (upm (upm σ a 0 (σ c 0)) a 1 (σ c 1)) a 2 (σ c 2)) a c s a j = σ c j := by
      intro j hj
      rw [cpW_o (by omega)]
      simp only [upm_app, true_and]
      grind
    unfold TR
    rw [e2 _ (by omega), e2 _ (by omega), e2 _ (by omega)]
    refine ⟨t1, t2, t3, t4, ⟨t5, t6⟩, n, ?_⟩
    exact Cd.mv (N := 30) (M := s) e1 rfl rfl (fun _ _ _ => rfl) _ _ _ _ _ _ (by omega) (by omega) t7
/-! the reference's copy -/
def cpB (g : Nat → Int) (w f t i : Nat) : Nat → Int := fun j => if w * t ≤ j ∧ j < w * t + i then g (w * f + (j - w * t)) else g j
theorem cpB_0 {g : Nat → Int} {w f t : Nat} : cpB g w f t 0 = g := by funext j; unfold cpB; rw [if_neg (by omega)]
theorem cpB_s {g : Nat → Int} {w f t i : Nat} : up1 (cpB g w f t i) (w * t + i) (g (w * f + i)) = cpB g w f t (i + 1) := by
  funext j
  unfold up1 cpB
  by_cases q : j = w * t + i
  · rw [if_pos q, if_pos (by omega)]; congr 1; omega
  · rw [if_neg q]
    by_cases r : w * t ≤ j ∧ j < w * t + i
    · rw [if_pos r, if_pos (by omega)]
    · rw [if_neg r, if_neg (by omega)]
theorem m_copy_w {f t : Nat} (hR : Ref σ) (hf : f ≤ 4) (ht : t ≤ 4) (hne : f < t ∨ t < f) : f_X12_copy_h41 FU 113 f t 0 σ = some (setc σ 120 (cpB (σ 120) 14 f t 14)) := by
  have := up_all (Q := fun n i => f_X12_copy_h41 n 113 f t (i : Int) (setc σ 120 (cpB (σ 120) 14 f t i)) = some (setc σ 120 (cpB (σ 120) 14 f t 14))) 14 (fun n => ?_) (fun n i hi ih => ?_) (by unfold FU; omega)
  · rw [cpB_0, setc_id] at this
    exact this
  · rw [hs_X12_copy_h41]
    unfold f_X12_copy_b41
    rw [if_pos (by omega)]
  · have hR' : Ref (setc σ 120 (cpB (σ 120) 14 f t i)) := hR.setc rfl
    rw [hs_X12_copy_h41]
    unfold f_X12_copy_b41
    simp only [gM, obs, hR'.at 113 22 120 rfl]
    rw [if_neg (by omega), w32_in (z := 14 * (f : Int)) (by omega) (by omega), w32_in (z := 14 * (f : Int) + i) (by omega) (by omega), w32_in (z := 14 * (t : Int)) (by omega) (by omega), w32_in (z := 14 * (t : Int) + i) (by omega) (by omega), w32_in (z := (i : Int) + 1) (by omega) (by omega), alWd (by omega) (by omega), obs, stWd (by omega) (by omega), obs, setc_same, setc_upm, show (14 * (f : Int) + i).toNat = 14 * f + i by omega, show (14 * (t : Int) + i).toNat = 14 * t + i by omega]
    rw [show cpB (σ 120) 14 f t i (14 * f + i) = σ 120 (14 * f + i) by unfold cpB; rw [if_neg (by omega)], cpB_s]
    exact ih
theorem m_copy {f t : Nat} (hR : Ref σ) (hf : f ≤ 4) (ht : t ≤ 4) (hne : f < t ∨ t < f) : f_X12_copy 113 f t σ = some (setc (setc σ 118 (cpB (σ 118) 327 f t 327)) 120 (cpB (σ 120) 14 f t 14)) := by
  unfold f_X12_copy f_X12_copy_b0
  rw [if_pos oM]
  have := up_all (Q := fun n i => f_X12_copy_h2 n 113 f t (i : Int) (setc σ 118 (cpB (σ 118) 327 f t i)) = some (setc (setc σ 118 (cpB (σ 118) 327 f t 327)) 120 (cpB (σ 120) 14 f t 14))) 327 (fun n => ?_) (fun n i hi ih => ?_) (by unfold FU; omega)
  · rw [cpB_0, setc_id] at this
    exact this
  · rw [hs_X12_copy_h2]
    unfold f_X12_copy_b2
    rw [if_pos (by omega), m_copy_w (hR.setc rfl) hf ht hne, setc_ne (b := 120) (by decide)]
  · have hR' : Ref (setc σ 118 (cpB (σ 118) 327 f t i)) := hR.setc rfl
    rw [hs_X12_copy_h2]
    unfold f_X12_copy_b2
    simp only [gM, obs, hR'.at 113 20 118 rfl]
    rw [if_neg (by omega), w32_in (z := 327 * (f : Int)) (by omega) (by omega), w32_in (z := 327 * (f : Int) + i) (by omega) (by omega), w32_in (z := 327 * (t : Int)) (by omega) (by omega), w32_in (z := 327 * (t : Int) + i) (by omega) (by omega), w32_in (z := (i : Int) + 1) (by omega) (by omega), alC (by omega) (by omega), obs, stC (by omega) (by omega), obs, setc_same, setc_upm, show (327 * (f : Int) + i).toNat = 327 * f + i by omega, show (327 * (t : Int) + i).toNat = 327 * t + i by omega]
    rw [show cpB (σ 118) 327 f t i (327 * f + i) = σ 118 (327 * f + i) by unfold cpB; rw [if_neg (by omega)], cpB_s]
    exact ih
end
