/-! ===== cuts, cutOf: the court's search ===== -/
section
variable {σ σ1 σ' : Mem} {a M p l K H : Nat} {e : Nat → Nat × Bool}
theorem oCt : isO Sh 0 54 = true := rfl
theorem gCt {j : Nat} : gf Sh σ 0 54 j = some (σ 54 j) := gf_at oCt
theorem pCt {j : Nat} {v : Int} : pf Sh σ 0 54 j v = some (upm σ 54 j v) := pf_at oCt
theorem al55 {i : Nat} (h : i < 6) : al Sh σ 20 55 i = some (σ 55 i) := by
  have := al_at (σ := σ) (isA_at (k := 20) (a := 55) (n := 6) (i := (i : Int)) rfl (by omega) (by omega))
  rw [Int.toNat_natCast, Int.toNat_natCast] at this
  exact this
theorem al56 {i : Nat} (h : i < 6) : al Sh σ 23 56 i = some (σ 56 i) := by
  have := al_at (σ := σ) (isA_at (k := 23) (a := 56) (n := 6) (i := (i : Int)) rfl (by omega) (by omega))
  rw [Int.toNat_natCast, Int.toNat_natCast] at this
  exact this
theorem al57 {i : Nat} (h : i < 6) : al Sh σ 20 57 i = some (σ 57 i) := by
  have := al_at (σ := σ) (isA_at (k := 20) (a := 57) (n := 6) (i := (i : Int)) rfl (by omega) (by omega))
  rw [Int.toNat_natCast, Int.toNat_natCast] at this
  exact this
theorem st55 {i : Nat} {v : Int} (h : i < 6) : st_ Sh σ 20 55 i v = some (upm σ 55 i v) := by
  have := st_at (σ := σ) (v := v) (isA_at (k := 20) (a := 55) (n := 6) (i := (i : Int)) rfl (by omega) (by omega))
  rw [Int.toNat_natCast, Int.toNat_natCast] at this
  exact this
theorem st56 {i : Nat} {v : Int} (h : i < 6) : st_ Sh σ 23 56 i v = some (upm σ 56 i v) := by
  have := st_at (σ := σ) (v := v) (isA_at (k := 23) (a := 56) (n := 6) (i := (i : Int)) rfl (by omega) (by omega))
  rw [Int.toNat_natCast, Int.toNat_natCast] at this
  exact this
theorem st57 {i : Nat} {v : Int} (h : i < 6) : st_ Sh σ 20 57 i v = some (upm σ 57 i v) := by
  have := st_at (σ := σ) (v := v) (isA_at (k := 20) (a := 57) (n := 6) (i := (i : Int)) rfl (by omega) (by omega))
  rw [Int.toNat_natCast, Int.toNat_natCast] at this
  exact this
def dC (σ : Mem) (a M : Nat) (e : Nat → Nat × Bool) : Prop := Ref σ ∧ σ 54 3 = M ∧ σ 54 5 = a ∧ σ 54 6 = ((sz a / 2 : Nat) : Int) ∧ M ≤ 6 ∧ a < 1024 ∧ ∀ j, j < M → σ 55 j = (e j).1 ∧ σ 56 j = bI (e j).2 ∧ (e j).1 < 1024
def cS (b j : Nat) : Prop := b = 57 ∨ (b = 54 ∧ 7 ≤ j ∧ j ≤ 9)
theorem gid_cS {b j : Nat} (h : cS b j) : gid b j = 0 := by
  rcases h with rfl | ⟨rfl, h1, h2⟩
  · have h1 : isRf 57 j = false := isRf_cell rfl
    unfold gid
    simp [h1]
  · rcases (show j = 7 ∨ j = 8 ∨ j = 9 by omega) with rfl | rfl | rfl <;> rfl
theorem dC.fp (h : dC σ a M e) (f : Fp cS σ σ1) : dC σ1 a M e := by
  obtain ⟨h1, h2, h3, h4, h5, h6, h7⟩ := h
  have hf : ∀ b j, ¬ cS b j → σ1 b j = σ b j := f
  refine ⟨h1.cell fun x hx => hf _ _ fun q => ?_, by rw [hf _ _ (by unfold cS; omega), h2], by rw [hf _ _ (by unfold cS; omega), h3], by rw [hf _ _ (by unfold cS; omega), h4], h5, h6, fun j hj => ?_⟩
  · have g1 := gid_cS q
    have : isRf x.1 x.2.1 = true := List.any_eq_true.mpr ⟨x, hx, by simp⟩
    unfold gid at g1
    rw [if_pos (.inl this)] at g1
    cases g1
  · rw [hf _ _ (by unfold cS; omega), hf _ _ (by unfold cS; omega)]
    exact h7 j hj
theorem imin_nat {x y : Nat} : imin (x : Int) (y : Int) = ((min x y : Nat) : Int) := by unfold imin; split <;> omega
theorem and_lt {x y : Nat} (h : x < 1024) : x &&& y < 1024 := Nat.lt_of_le_of_lt Nat.and_le_left h
theorem bI01 {b : Bool} : (bI b = 0 ↔ b = false) ∧ (bI b = 1 ↔ b = true) := by unfold bI; cases b <;> simp
theorem x_canPart (h : dC σ a M e) (hl : l ≤ 10) (h57 : ∀ j, j < M → σ 57 j = (cE (e j) K H : Nat)) : ((∀ i, i < M → (e i).2 = true → ∀ j, j < M → (e j).2 = false → cH2 a p l K H (e i) (e j)) → f_X0_canPart 54 (rst a p : Nat) l σ = some 1) ∧ (¬ (∀ i, i < M → (e i).2 = true → ∀ j, j < M → (e j).2 = false → cH2 a p l K H (e i) (e j)) → f_X0_canPart 54 (rst a p : Nat) l σ = some 0) := by
  obtain ⟨hR, h3, h5, h6, hM, ha, he⟩ := h
  have hr : rst a p < 1024 := sub_lt (n := 10) ha
  have inner : ∀ k2 : Int → Int → Int → Int → Mem → Option Int, ∀ i, i < M → (((e i).2 = true → ∀ j, j < M → (e j).2 = false → cH2 a p l K H (e i) (e j)) → f_X0_canPart_h13 k2 FU 54 (rst a p : Nat) l i 0 σ = k2 54 (rst a p : Nat) l ((i + 1 : Nat) : Int) σ) ∧ (¬ ((e i).2 = true → ∀ j, j < M → (e j).2 = false → cH2 a p l K H (e i) (e j)) → f_X0_canPart_h13 k2 FU 54 (rst a p : Nat) l i 0 σ = some 0) := by
    intro k2 i hi
    have := up_all (Q := fun n j => (((e i).2 = true → ∀ x, j ≤ x → x < M → (e x).2 = false → cH2 a p l K H (e i) (e x)) → f_X0_canPart_h13 k2 n 54 (rst a p : Nat) l i j σ = k2 54 (rst a p : Nat) l ((i + 1 : Nat) : Int) σ) ∧ (¬ ((e i).2 = true → ∀ x, j ≤ x → x < M → (e x).2 = false → cH2 a p l K H (e i) (e x)) → f_X0_canPart_h13 k2 n 54 (rst a p : Nat) l i j σ = some 0)) M (fun n => ?_) (fun n j hj ih => ?_) (by unfold FU; omega)
    · exact ⟨fun q => this.1 fun c x _ hx => q c x hx, fun q => this.2 fun r => q fun c x hx => r c x (by omega) hx⟩
    · rw [hs_X0_canPart_h13]
      unfold f_X0_canPart_b13 f_X0_canPart_b97
      simp only [gCt, obs, h3]
      rw [if_pos (by omega), w32_in (by omega) (by omega)]
      exact ⟨fun _ => rfl, fun q => absurd (fun _ x h1 h2 => by omega) q⟩
    · obtain ⟨ei1, ei2, ei3⟩ := he i hi
      obtain ⟨ej1, ej2, ej3⟩ := he j hj
      rw [hs_X0_canPart_h13]
      unfold f_X0_canPart_b13 f_X0_canPart_b97 f_X0_canPart_b91
      simp only [gCt, obs, h3, hR.at 54 0 55 rfl, hR.at 54 1 56 rfl, hR.at 54 2 57 rfl, al55 (σ := σ) (show i < 6 by omega), al55 (σ := σ) (show j < 6 by omega), al56 (σ := σ) (show i < 6 by omega), al56 (σ := σ) (show j < 6 by omega), al57 (σ := σ) (show i < 6 by omega), al57 (σ := σ) (show j < 6 by omega), ei1, ei2, ej1, ej2, h57 i hi, h57 j hj]
      rw [if_neg (by omega), w32_in (z := (i : Int) + 1) (by omega) (by omega), w32_in (z := (j : Int) + 1) (by omega) (by omega)]
      by_cases c1 : (e i).2 = true
      · rw [if_neg (fun q => by rw [bI01.1] at q; rw [q] at c1; cases c1)]
        rw [iand_nat (by omega) (by omega), iandn (by have := @and_lt (rst a p) (e j).1 hr; omega) (by omega), s_bitCount (show (rst a p &&& (e j).1) ^^^ ((rst a p &&& (e j).1) &&& (e i).1) < 1024 from sub_lt (n := 10) (and_lt hr)), obs, imin_nat, show (rst a p &&& (e j).1) ^^^ ((rst a p &&& (e j).1) &&& (e i).1) = sub (rst a p &&& (e j).1) (e i).1 from rfl]
        have l1 : cE (e i) K H ≤ 10 := sz_le _
        have l2 : cE (e j) K H ≤ 10 := sz_le _
        by_cases c2 : (e j).2 = true
        · rw [if_neg (fun q => by rw [bI01.1] at q; rw [q] at c2; cases c2)]
          have ex : ((e i).2 = true → ∀ x, j ≤ x → x < M → (e x).2 = false → cH2 a p l K H (e i) (e x)) ↔ ((e i).2 = true → ∀ x, j + 1 ≤ x → x < M → (e x).2 = false → cH2 a p l K H (e i) (e x)) := ⟨fun q c x h1 h2 => q c x (by omega) h2, fun q c x h1 h2 h4 => by
            by_cases e0 : x = j
            · rw [e0, c2] at h4; cases h4
            · exact q c x (by omega) h2 h4⟩
          rw [ex]
          exact ih
        · have c2' : (e j).2 = false := by simpa using c2
          rw [if_pos (bI01.1.mpr c2'), w32_in (z := ((cE (e i) K H : Nat) : Int) - ((cE (e j) K H : Nat) : Int)) (by omega) (by omega), w32_in (by omega) (by omega)]
          by_cases c3 : cH2 a p l K H (e i) (e j)
          · have ex : ((e i).2 = true → ∀ x, j ≤ x → x < M → (e x).2 = false → cH2 a p l K H (e i) (e x)) ↔ ((e i).2 = true → ∀ x, j + 1 ≤ x → x < M → (e x).2 = false → cH2 a p l K H (e i) (e x)) := ⟨fun q c x h1 h2 => q c x (by omega) h2, fun q c x h1 h2 h4 => by
              by_cases e0 : x = j
              · rw [e0]; exact c3
              · exact q c x (by omega) h2 h4⟩
            rw [ex]
            have c4 := c3
            unfold cH2 at c4
            rw [if_pos c4]
            exact ih
          · have c4 := c3
            unfold cH2 at c4
            rw [if_neg c4]
            exact ⟨fun q => absurd (q c1 j (Nat.le_refl _) hj c2') c3, fun _ => rfl⟩
      · rw [if_pos (bI01.1.mpr (by simpa using c1))]
        exact ⟨fun _ => rfl, fun q => absurd (fun c => absurd c c1) q⟩
  unfold f_X0_canPart f_X0_canPart_b0
  rw [if_pos oCt]
  have := up_all (Q := fun n i => ((∀ x, i ≤ x → x < M → (e x).2 = true → ∀ j, j < M → (e j).2 = false → cH2 a p l K H (e x) (e j)) → f_X0_canPart_h2 n 54 (rst a p : Nat) l i σ = some 1) ∧ (¬ (∀ x, i ≤ x → x < M → (e x).2 = true → ∀ j, j < M → (e j).2 = false → cH2 a p l K H (e x) (e j)) → f_X0_canPart_h2 n 54 (rst a p : Nat) l i σ = some 0)) M (fun n => ?_) (fun n i hi ih => ?_) (by unfold FU; omega)
  · exact ⟨fun q => this.1 fun x _ hx => q x hx, fun q => this.2 fun r => q fun x hx => r x (by omega) hx⟩
  · rw [hs_X0_canPart_h2]
    unfold f_X0_canPart_b2
    simp only [gCt, obs, h3]
    rw [if_pos (by omega)]
    exact ⟨fun _ => rfl, fun q => absurd (fun x h1 h2 => by omega) q⟩
  · rw [hs_X0_canPart_h2]
    unfold f_X0_canPart_b2
    simp only [gCt, obs, h3]
    rw [if_neg (by omega)]
    obtain ⟨n1, n2⟩ := inner (f_X0_canPart_h2 n) i hi
    by_cases c : ((e i).2 = true → ∀ j, j < M → (e j).2 = false → cH2 a p l K H (e i) (e j))
    · rw [n1 c]
      have ex : (∀ x, i ≤ x → x < M → (e x).2 = true → ∀ j, j < M → (e j).2 = false → cH2 a p l K H (e x) (e j)) ↔ (∀ x, i + 1 ≤ x → x < M → (e x).2 = true → ∀ j, j < M → (e j).2 = false → cH2 a p l K H (e x) (e j)) := ⟨fun q x h1 h2 => q x (by omega) h2, fun q x h1 h2 => by
        by_cases e0 : x = i
        · rw [e0]; exact c
        · exact q x (by omega) h2⟩
      rw [ex]
      exact ih
    · rw [n2 c]
      exact ⟨fun q => absurd (q i (Nat.le_refl _) hi) c, fun _ => rfl⟩
theorem shl_m1 {p : Nat} (h : p ≤ 10) : ishl (-1) (p : Int) = ixor ((2 ^ p - 1 : Nat) : Int) (-1) := by
  rcases (show p = 0 ∨ p = 1 ∨ p = 2 ∨ p = 3 ∨ p = 4 ∨ p = 5 ∨ p = 6 ∨ p = 7 ∨ p = 8 ∨ p = 9 ∨ p = 10 by omega) with rfl | rfl | rfl | rfl | rfl | rfl | rfl | rfl | rfl | rfl | rfl <;> decide +kernel
theorem x_canHold (h : dC σ a M e) (hp : p ≤ 10) (hl : l ≤ 10) (hK : K < 1024) (hH : H < 1024) : ∃ r σ', f_X0_canHold 54 p l K H σ = some (r, σ') ∧ Fp cS σ σ' ∧ (r = 0 ∨ r = 1) ∧ (r = 1 ↔ CH a M e p l K H) := by
  have ha := h.2.2.2.2.2.1
  have hM := h.2.2.2.2.1
  have hr : rst a p < 1024 := sub_lt (n := 10) ha
  have e0 : iand (a : Int) (ishl (-1) (p : Int)) = ((rst a p : Nat) : Int) := by
    have : 2 ^ p ≤ 2 ^ 10 := Nat.pow_le_pow_right (by omega) hp
    rw [shl_m1 hp, iandn (by omega) (by omega)]
    rfl
  unfold f_X0_canHold f_X0_canHold_b0
  simp only [oCt, if_true, gCt, obs, h.2.2.1]
  rw [e0]
  have := up_all (Q := fun n j => ∀ σ1, Fp cS σ σ1 → (∀ i, i < j → σ1 57 i = (cE (e i) K H : Nat) ∧ cH1 a p l K H (e i)) → ∃ r σ', f_X0_canHold_h13 n 54 l K H (rst a p : Nat) j σ1 = some (r, σ') ∧ Fp cS σ σ' ∧ (r = 0 ∨ r = 1) ∧ (r = 1 ↔ CH a M e p l K H)) M (fun n σ1 f1 q => ?_) (fun n j hj ih σ1 f1 q => ?_) (by unfold FU; omega)
  · exact this σ Fp.refl (fun i hi => by omega)
  · have d1 := h.fp f1
    rw [hs_X0_canHold_h13]
    unfold f_X0_canHold_b13
    simp only [gCt, obs, d1.2.1]
    rw [if_pos (by omega)]
    obtain ⟨c1, c2⟩ := x_canPart (p := p) (l := l) (K := K) (H := H) d1 hl (fun j hj => (q j hj).1)
    by_cases z : ∀ i, i < M → (e i).2 = true → ∀ j, j < M → (e j).2 = false → cH2 a p l K H (e i) (e j)
    · rw [c1 z, obs, bz1, obs]
      exact ⟨1, σ1, rfl, f1, .inr rfl, fun _ => ⟨fun j hj => (q j hj).2, z⟩, fun _ => rfl⟩
    · rw [c2 z, obs, bz0, obs]
      exact ⟨0, σ1, rfl, f1, .inl rfl, fun z0 => by omega, fun z0 => absurd z0.2 z⟩
  · have d1 := h.fp f1
    have f2 : Fp cS σ (upm σ1 57 j ((cE (e j) K H : Nat) : Int)) := f1.then (.inl rfl)
    have d2 := h.fp f2
    obtain ⟨ej1, ej2, ej3⟩ := d1.2.2.2.2.2.2 j hj
    obtain ⟨fj1, fj2, fj3⟩ := d2.2.2.2.2.2.2 j hj
    have hsub : sub (e j).1 K < 1024 := sub_lt (n := 10) ej3
    have hor : sub (e j).1 K ||| H < 1024 := Nat.or_lt_two_pow (n := 10) hsub hH
    have l1 : cE (e j) K H ≤ 10 := sz_le _
    rw [hs_X0_canHold_h13]
    unfold f_X0_canHold_b13
    simp only [gCt, obs, d1.2.1, d1.1.at 54 0 55 rfl, d1.1.at 54 2 57 rfl, al55 (σ := σ1) (show j < 6 by omega), ej1]
    rw [if_neg (by omega), iandn (by omega) (by omega), show (e j).1 ^^^ ((e j).1 &&& K) = sub (e j).1 K from rfl, ior_nat (by omega) (by omega), s_bitCount hor, obs, show sz (sub (e j).1 K ||| H) = cE (e j) K H from rfl, st57 (by omega), obs]
    simp only [gCt, obs, d2.1.at 54 0 55 rfl, d2.1.at 54 1 56 rfl, al55 (σ := upm σ1 57 j ((cE (e j) K H : Nat) : Int)) (show j < 6 by omega), al56 (σ := upm σ1 57 j ((cE (e j) K H : Nat) : Int)) (show j < 6 by omega), fj1, fj2]
    have next : cH1 a p l K H (e j) → ∃ r σ', f_X0_canHold_h13 n 54 l K H (rst a p : Nat) ((j : Int) + 1) (upm σ1 57 j ((cE (e j) K H : Nat) : Int)) = some (r, σ') ∧ Fp cS σ σ' ∧ (r = 0 ∨ r = 1) ∧ (r = 1 ↔ CH a M e p l K H) := fun hc => ih _ f2 fun i hi => by
      by_cases e1 : i = j
      · rw [e1, upm_same]; exact ⟨rfl, hc⟩
      · rw [upm_app, if_neg (by omega)]; exact q i (by omega)
    have stop : ¬ cH1 a p l K H (e j) → ∃ r σ', (some (0, upm σ1 57 j ((cE (e j) K H : Nat) : Int)) : Option (Int × Mem)) = some (r, σ') ∧ Fp cS σ σ' ∧ (r = 0 ∨ r = 1) ∧ (r = 1 ↔ CH a M e p l K H) := fun hc => ⟨0, _, rfl, f2, .inl rfl, fun z0 => by omega, fun z0 => absurd (z0.1 j hj) hc⟩
    have sl : sz a / 2 ≤ 5 := by have := sz_le a; omega
    by_cases c : (e j).2 = true
    · have cb : bI (e j).2 = 1 := bI01.2.mpr c
      have hh : hS a p (e j) = sub (rst a p) (e j).1 := by unfold hS; rw [if_pos c]
      have hc : cH1 a p l K H (e j) ↔ sz a / 2 < cE (e j) K H + min l (sz (hS a p (e j))) := by unfold cH1; rw [if_pos c]
      rw [cb, if_neg (by decide), iandn (by omega) (by omega), show rst a p ^^^ (rst a p &&& (e j).1) = sub (rst a p) (e j).1 from rfl, ← hh]
      unfold f_X0_canHold_b81 f_X0_canHold_b127 f_X0_canHold_b143
      simp only [gCt, obs, s_bitCount (show hS a p (e j) < 1024 by rw [hh]; exact sub_lt (n := 10) hr), d2.1.at 54 1 56 rfl, d2.1.at 54 2 57 rfl, al56 (σ := upm σ1 57 j ((cE (e j) K H : Nat) : Int)) (show j < 6 by omega), al57 (σ := upm σ1 57 j ((cE (e j) K H : Nat) : Int)) (show j < 6 by omega), fj2, cb, d2.2.2.2.1, upm_same, imin_nat]
      rw [if_neg (by decide), w32_in (z := ((cE (e j) K H : Nat) : Int) + _) (by omega) (by omega), w32_in (z := (j : Int) + 1) (by omega) (by omega)]
      by_cases z : cH1 a p l K H (e j)
      · have z2 := hc.mp z
        rw [if_neg (by omega), if_pos trivial]
        exact next z
      · have z2 := mt hc.mpr z
        rw [if_pos (by omega), if_neg (by decide)]
        exact stop z
    · have c' : (e j).2 = false := by simpa using c
      have cb : bI (e j).2 = 0 := bI01.1.mpr c'
      have hh : hS a p (e j) = rst a p &&& (e j).1 := by unfold hS; rw [if_neg c]
      have hc : cH1 a p l K H (e j) ↔ (cE (e j) K H : Int) - (min l (sz (hS a p (e j))) : Nat) ≤ (sz a / 2 : Nat) := by unfold cH1; rw [if_neg c]
      rw [cb, if_pos rfl, iand_nat (by omega) (by omega), ← hh]
      unfold f_X0_canHold_b81 f_X0_canHold_b127 f_X0_canHold_b143
      simp only [gCt, obs, s_bitCount (show hS a p (e j) < 1024 by rw [hh]; exact and_lt hr), d2.1.at 54 1 56 rfl, d2.1.at 54 2 57 rfl, al56 (σ := upm σ1 57 j ((cE (e j) K H : Nat) : Int)) (show j < 6 by omega), al57 (σ := upm σ1 57 j ((cE (e j) K H : Nat) : Int)) (show j < 6 by omega), fj2, cb, d2.2.2.2.1, upm_same, imin_nat]
      rw [if_pos trivial, w32_in (z := ((cE (e j) K H : Nat) : Int) - _) (by omega) (by omega), w32_in (z := (j : Int) + 1) (by omega) (by omega)]
      by_cases z : cH1 a p l K H (e j)
      · have z2 := hc.mp z
        rw [if_pos z2, if_pos trivial]
        exact next z
      · have z2 := mt hc.mpr z
        rw [if_neg z2, if_neg (by decide)]
        exact stop z
theorem x_cutFrom : ∀ (r n p l K H : Nat) (σ : Mem), p + r = 10 → r < n → dC σ a M e → frs p K H → K < 1024 → H < 1024 → l ≤ 10 → (∀ l', l' < l → Sc (lfb a M e) (fun k => a.testBit k) r p l' K H = none) → ∃ σ', Fp cS σ σ' ∧ ((∃ K' H', Sc (lfb a M e) (fun k => a.testBit k) r p l K H = some (K', H') ∧ f_X0_cutFrom n 54 p l K H σ = some (1, σ') ∧ σ' 54 7 = (K' : Nat) ∧ σ' 54 8 = (H' : Nat)) ∨ (Sc (lfb a M e) (fun k => a.testBit k) r p l K H = none ∧ f_X0_cutFrom n 54 p l K H σ = some (0, σ'))) := by
  intro r
  induction r with
  | zero =>
    intro n p l K H σ hpr hn h f hK hH hl hno
    obtain ⟨n, rfl⟩ : ∃ m, n = m + 1 := ⟨n - 1, by omega⟩
    obtain ⟨b, σ1, c1, c2, c3, c4⟩ := x_canHold (p := p) (l := l) (K := K) (H := H) h (by omega) hl hK hH
    rw [hs_X0_cutFrom]
    unfold f_X0_cutFrom_body f_X0_cutFrom_b0 f_X0_cutFrom_b30
    rw [if_pos oCt, if_neg (by omega), c1, obs]
    dsimp only
    by_cases z : CH a M e p l K H
    · have b1 := c4.mpr z
      have lfh := CH_end z (.inr (by omega))
      by_cases l0 : l = 0
      · subst l0
        rw [b1, if_neg (by decide), if_pos (show ((0 : Nat) : Int) = 0 from rfl)]
        simp only [pCt, obs]
        refine ⟨_, (c2.then (.inr ⟨rfl, by omega, by omega⟩)).then (.inr ⟨rfl, by omega, by omega⟩), .inl ⟨K, H, ?_, rfl, ?_, ?_⟩⟩
        · rw [Sc_l0, if_pos lfh]
        · rw [upm_app, if_neg (by omega), upm_same]
        · exact upm_same
      · have := hno 0 (by omega)
        rw [Sc_l0, if_pos lfh] at this
        cases this
    · have b0 : b = 0 := c3.resolve_right fun q => z (c4.mp q)
      rw [b0, if_pos rfl]
      refine ⟨σ1, c2, .inr ⟨?_, rfl⟩⟩
      cases e1 : Sc (lfb a M e) (fun k => a.testBit k) 0 p l K H with
      | none => rfl
      | some w => exact absurd (CH_of (fun _ => rfl) e1 (Nat.le_refl _) f (by omega) hK hH) z
  | succ r ih =>
    intro n p l K H σ hpr hn h f hK hH hl hno
    obtain ⟨n, rfl⟩ : ∃ m, n = m + 1 := ⟨n - 1, by omega⟩
    obtain ⟨b, σ1, c1, c2, c3, c4⟩ := x_canHold (p := p) (l := l) (K := K) (H := H) h (by omega) hl hK hH
    have d1 := h.fp c2
    have pw : 2 ^ p < 2 ^ 10 := Nat.pow_lt_pow_right (by omega) (by omega)
    rw [hs_X0_cutFrom]
    unfold f_X0_cutFrom_body f_X0_cutFrom_b0 f_X0_cutFrom_b30 f_X0_cutFrom_b112
    rw [if_pos oCt, if_neg (by omega), c1, obs]
    dsimp only
    by_cases z : CH a M e p l K H
    · have b1 := c4.mpr z
      rw [b1, if_neg (by decide)]
      by_cases l0 : l = 0
      · subst l0
        have lfh := CH_end z (.inl rfl)
        rw [if_pos (show ((0 : Nat) : Int) = 0 from rfl)]
        simp only [pCt, obs]
        refine ⟨_, (c2.then (.inr ⟨rfl, by omega, by omega⟩)).then (.inr ⟨rfl, by omega, by omega⟩), .inl ⟨K, H, ?_, rfl, ?_, ?_⟩⟩
        · rw [Sc_l0, if_pos lfh]
        · rw [upm_app, if_neg (by omega), upm_same]
        · exact upm_same
      · rw [if_neg (by omega), if_neg (by omega), gCt, obs, d1.2.2.1, w32_in (z := (p : Int) + 1) (by omega) (by omega), w32_in (z := (l : Int) - 1) (by omega) (by omega), show (p : Int) + 1 = ((p + 1 : Nat) : Int) by omega, show (l : Int) - 1 = ((l - 1 : Nat) : Int) by omega]
        have f1 : frs (p + 1) K H := fun k hk => f k (by omega)
        have hn1 : ∀ l', l' < l → Sc (lfb a M e) (fun k => a.testBit k) r (p + 1) l' K H = none := fun l' hl' => (Sc_n (hno l' hl')).1
        obtain ⟨σ2, g1, g2⟩ := ih n (p + 1) l K H σ1 (by omega) (by omega) d1 f1 hK hH hl hn1
        rcases g2 with ⟨K', H', g3, g4, g5, g6⟩ | ⟨g3, g4⟩
        · rw [g4, obs]
          dsimp only
          rw [if_neg (by decide)]
          exact ⟨σ2, c2.trans g1, .inl ⟨K', H', by rw [Sc_s, g3, Option.some_or], rfl, g5, g6⟩⟩
        · rw [g4, obs]
          dsimp only
          rw [if_pos rfl]
          have d2 := d1.fp g1
          have ha := h.2.2.2.2.2.1
          have eb : iand (a : Int) (ishl 1 (p : Int)) = ((a &&& 2 ^ p : Nat) : Int) := by rw [shl1 (by omega), iand_nat (by omega) (by omega)]
          rw [eb]
          by_cases s : a.testBit p = true
          · have e2 : a &&& 2 ^ p = 2 ^ p := by
              apply Nat.eq_of_testBit_eq
              intro k
              rw [Nat.testBit_and, Nat.testBit_two_pow]
              by_cases q : p = k
              · subst q; simp [s]
              · simp [q]
            have pp : 0 < 2 ^ p := Nat.pow_pos (by omega)
            rw [e2, if_neg (by omega), ior_nat (by omega) (by omega), ior_nat (by omega) (by omega)]
            have hK2 : K ||| 2 ^ p < 1024 := Nat.or_lt_two_pow (n := 10) hK pw
            have hH2 : H ||| 2 ^ p < 1024 := Nat.or_lt_two_pow (n := 10) hH pw
            have fK : frs (p + 1) (K ||| 2 ^ p) H := fun k hk => by rw [or_bit, (f k (by omega)).1, (f k (by omega)).2]; simp; omega
            have fH : frs (p + 1) K (H ||| 2 ^ p) := fun k hk => by rw [or_bit, (f k (by omega)).1, (f k (by omega)).2]; simp; omega
            have hn2 : ∀ l', l' < l - 1 → Sc (lfb a M e) (fun k => a.testBit k) r (p + 1) l' (K ||| 2 ^ p) H = none ∧ Sc (lfb a M e) (fun k => a.testBit k) r (p + 1) l' K (H ||| 2 ^ p) = none := fun l' hl' => by
              have := (Sc_n (hno (l' + 1) (by omega))).2 (by omega) s
              rw [show l' + 1 - 1 = l' by omega] at this
              exact this
            obtain ⟨σ3, u1, u2⟩ := ih n (p + 1) (l - 1) (K ||| 2 ^ p) H σ2 (by omega) (by omega) d2 fK hK2 hH (by omega) (fun l' q => (hn2 l' q).1)
            rcases u2 with ⟨K', H', u3, u4, u5, u6⟩ | ⟨u3, u4⟩
            · rw [u4, obs]
              dsimp only
              rw [if_neg (by decide)]
              exact ⟨σ3, (c2.trans g1).trans u1, .inl ⟨K', H', by rw [Sc_s, g3, Option.none_or, if_neg (by rw [s]; simp; omega), u3, Option.some_or], rfl, u5, u6⟩⟩
            · rw [u4, obs]
              dsimp only
              rw [if_pos rfl]
              have d3 := d2.fp u1
              obtain ⟨σ4, v1, v2⟩ := ih n (p + 1) (l - 1) K (H ||| 2 ^ p) σ3 (by omega) (by omega) d3 fH hK hH2 (by omega) (fun l' q => (hn2 l' q).2)
              rcases v2 with ⟨K', H', v3, v4, v5, v6⟩ | ⟨v3, v4⟩
              · rw [v4, obs]
                dsimp only
                rw [if_neg (by decide)]
                exact ⟨σ4, ((c2.trans g1).trans u1).trans v1, .inl ⟨K', H', by rw [Sc_s, g3, Option.none_or, if_neg (by rw [s]; simp; omega), u3, Option.none_or, v3], rfl, v5, v6⟩⟩
              · rw [v4, obs]
                dsimp only
                rw [if_pos rfl]
                exact ⟨σ4, ((c2.trans g1).trans u1).trans v1, .inr ⟨by rw [Sc_s, g3, Option.none_or, if_neg (by rw [s]; simp; omega), u3, Option.none_or, v3], rfl⟩⟩
          · have s' : a.testBit p = false := by simpa using s
            have e2 : a &&& 2 ^ p = 0 := by
              apply Nat.eq_of_testBit_eq
              intro k
              rw [Nat.testBit_and, Nat.testBit_two_pow, Nat.zero_testBit]
              by_cases q : p = k
              · subst q; simp [s']
              · simp [q]
            rw [e2, if_pos (show ((0 : Nat) : Int) = 0 from rfl)]
            exact ⟨σ2, c2.trans g1, .inr ⟨by rw [Sc_s, g3, Option.none_or, if_pos (.inr s')], rfl⟩⟩
    · have b0 : b = 0 := c3.resolve_right fun q => z (c4.mp q)
      rw [b0, if_pos rfl]
      refine ⟨σ1, c2, .inr ⟨?_, rfl⟩⟩
      cases e1 : Sc (lfb a M e) (fun k => a.testBit k) (r + 1) p l K H with
      | none => rfl
      | some w => exact absurd (CH_of (fun _ => rfl) e1 (Nat.le_refl _) f (by omega) hK hH) z
/-- the fewest cuts -/
def few (a M : Nat) (e : Nat → Nat × Bool) : Int := ff (fun c => (Sc (lfb a M e) (fun k => a.testBit k) 10 0 c 0 0).isSome) (sz a + 1) 0
theorem x_findWay (h : dC σ a M e) (h4 : σ 54 4 = 0) : ∃ σ', Fp cS σ σ' ∧ f_X0_findWay 54 σ = some (if few a M e = -1 then 0 else 1, σ') ∧ ∀ c K' H' : Nat, few a M e = c → Sc (lfb a M e) (fun k => a.testBit k) 10 0 c 0 0 = some (K', H') → σ' 54 7 = (K' : Nat) ∧ σ' 54 8 = (H' : Nat) ∧ σ' 54 9 = (c : Nat) := by
  have ha := h.2.2.2.2.2.1
  have sl := sz_le a
  unfold f_X0_findWay f_X0_findWay_b0 f_X0_findWay_b18
  simp only [oCt, if_true, gCt, obs, h4, h.2.2.1, s_bitCount ha]
  have := up_all (Q := fun n c => ∀ σ1, Fp cS σ σ1 → (∀ c', c' < c → Sc (lfb a M e) (fun k => a.testBit k) 10 0 c' 0 0 = none) → ∃ σ', Fp cS σ σ' ∧ f_X0_findWay_h21 n 54 (sz a : Nat) c σ1 = some (if ff (fun c => (Sc (lfb a M e) (fun k => a.testBit k) 10 0 c 0 0).isSome) (sz a + 1) c = -1 then 0 else 1, σ') ∧ ∀ d K' H' : Nat, ff (fun c => (Sc (lfb a M e) (fun k => a.testBit k) 10 0 c 0 0).isSome) (sz a + 1) c = d → Sc (lfb a M e) (fun k => a.testBit k) 10 0 d 0 0 = some (K', H') → σ' 54 7 = (K' : Nat) ∧ σ' 54 8 = (H' : Nat) ∧ σ' 54 9 = (d : Nat)) (sz a + 1) (fun n σ1 f1 q => ?_) (fun n c hc ih σ1 f1 q => ?_) (by unfold FU; omega)
  · exact this σ Fp.refl (fun c hc => by omega)
  · rw [hs_X0_findWay_h21]
    unfold f_X0_findWay_b21
    rw [if_pos (by omega), ff_N]
    exact ⟨σ1, f1, rfl, fun d K' H' hd => by omega⟩
  · have d1 := h.fp f1
    obtain ⟨σ2, g1, g2⟩ := x_cutFrom (a := a) (M := M) (e := e) 10 FR 0 c 0 0 σ1 (by omega) (show 10 < 40 by omega) d1 (fun k _ => ⟨Nat.zero_testBit k, Nat.zero_testBit k⟩) (by omega) (by omega) (by omega) q
    rw [hs_X0_findWay_h21]
    unfold f_X0_findWay_b21
    rw [if_neg (by omega), ff_s hc]
    rcases g2 with ⟨K', H', g3, g4, g5, g6⟩ | ⟨g3, g4⟩
    · rw [show f_X0_cutFrom FR 54 0 (c : Int) 0 0 σ1 = _ from g4, obs]
      dsimp only
      rw [if_neg (by decide), pCt, obs, g3]
      simp only [Option.isSome_some, if_true]
      rw [if_neg (by omega)]
      refine ⟨_, (f1.trans g1).then (.inr ⟨rfl, by omega, by omega⟩), rfl, fun d K2 H2 hd hs => ?_⟩
      have : d = c := by omega
      subst this
      rw [g3] at hs
      cases hs
      rw [upm_app, if_neg (by omega), upm_app, if_neg (by omega), upm_same]
      exact ⟨g5, g6, rfl⟩
    · rw [show f_X0_cutFrom FR 54 0 (c : Int) 0 0 σ1 = _ from g4, obs]
      dsimp only
      rw [if_pos rfl, w32_in (by omega) (by omega), g3]
      simp only [Option.isSome_none, Bool.false_eq_true, if_false]
      exact ih σ2 (f1.trans g1) fun c' hc' => by
        by_cases e0 : c' = c
        · rw [e0]; exact g3
        · exact q c' (by omega)
end
