/-! ===== couples ===== -/
section
variable {σ τ : Mem} {B D : Nat → Int}
def bc : Nat → Nat → Nat
  | _, 0 => 1
  | 0, _ + 1 => 0
  | n + 1, k + 1 => bc n k + bc n (k + 1)
def cc (o q : Nat) : Nat → Nat → Nat
  | 0, i => if i = 0 then 1 else 0
  | d + 1, 0 => cc o q d 0 * q
  | d + 1, i + 1 => cc o q d (i + 1) * q + cc o q d i * o
def ch (n : Nat) : Nat → Nat
  | 0 => 1
  | i + 1 => ch n i * (n - i) / (i + 1)
theorem bc_0 {n : Nat} : bc n 0 = 1 := by cases n <;> rfl
theorem bc_z : ∀ {d i : Nat}, d < i → bc d i = 0 := by
  intro d
  induction d with
  | zero => intro i hi; obtain ⟨j, rfl⟩ : ∃ j, i = j + 1 := ⟨i - 1, by omega⟩; rfl
  | succ d ih => intro i hi; obtain ⟨j, rfl⟩ : ∃ j, i = j + 1 := ⟨i - 1, by omega⟩; unfold bc; rw [ih (by omega), ih (by omega)]
theorem cc_bc {o q : Nat} : ∀ {d i : Nat}, cc o q d i = bc d i * o ^ i * q ^ (d - i) := by
  intro d
  induction d with
  | zero =>
    intro i
    cases i with
    | zero => rfl
    | succ i => unfold cc bc; simp
  | succ d ih =>
    intro i
    cases i with
    | zero =>
      unfold cc
      rw [ih, bc_0, bc_0, Nat.sub_zero, Nat.sub_zero, Nat.pow_succ, Nat.mul_assoc]
    | succ i =>
      unfold cc bc
      rw [ih, ih]
      by_cases h : i < d
      · obtain ⟨e, rfl⟩ : ∃ e, d = i + 1 + e := ⟨d - (i + 1), by omega⟩
        rw [show i + 1 + e - (i + 1) = e by omega, show i + 1 + e - i = e + 1 by omega, show i + 1 + e + 1 - (i + 1) = e + 1 by omega, Nat.pow_succ, Nat.pow_succ]
        simp only [Nat.add_mul, Nat.mul_add, Nat.mul_assoc, Nat.mul_comm, Nat.mul_left_comm, Nat.add_comm]
      · rw [bc_z (show d < i + 1 by omega)]
        by_cases h2 : i = d
        · subst h2
          rw [show i + 1 - (i + 1) = i - i by omega, Nat.pow_succ]
          simp only [Nat.zero_mul, Nat.mul_zero, Nat.zero_add, Nat.add_zero, Nat.mul_assoc, Nat.mul_comm, Nat.mul_left_comm]
        · rw [bc_z (show d < i by omega)]
          simp
theorem cc_le {o q : Nat} (h : o + q = 16) : ∀ {d i : Nat}, cc o q d i ≤ 16 ^ d := by
  intro d
  induction d with
  | zero => intro i; unfold cc; split <;> simp
  | succ d ih =>
    intro i
    have e : 16 ^ (d + 1) = 16 ^ d * o + 16 ^ d * q := by rw [Nat.pow_succ, ← Nat.mul_add, h]
    rw [e]
    cases i with
    | zero =>
      unfold cc
      have := Nat.mul_le_mul_right q (@ih 0)
      exact Nat.le_trans this (Nat.le_add_left _ _)
    | succ i =>
      unfold cc
      have h1 := Nat.mul_le_mul_right q (@ih (i + 1))
      have h2 := Nat.mul_le_mul_right o (@ih i)
      rw [Nat.add_comm (16 ^ d * o)]
      exact Nat.add_le_add h1 h2
theorem ch_bc : ∀ n, n < 11 → ∀ i, i < n + 1 → ch n i = bc n i := by decide +kernel
theorem ch_le : ∀ n, n < 11 → ∀ i, i < 12 → ch n i ≤ 252 := by decide +kernel
theorem p16 {n : Nat} (h : n ≤ 10) : 16 ^ n ≤ 1099511627776 := Nat.le_trans (Nat.pow_le_pow_right (by omega) h) (by decide)
def su (f : Nat → Nat) (k : Nat) : Nat → Nat
  | 0 => 0
  | i + 1 => su f k i + if k ≤ i then f i else 0
theorem su_s {f : Nat → Nat} {k i : Nat} : su f k (i + 1) = su f k i + if k ≤ i then f i else 0 := rfl
theorem su_cg {f g : Nat → Nat} {k n : Nat} (h : ∀ i, i < n → f i = g i) : su f k n = su g k n := by
  induction n with
  | zero => rfl
  | succ n ih => unfold su; rw [ih (fun i hi => h i (by omega)), h n (by omega)]
theorem su_out {f : Nat → Nat} {k n m : Nat} (h : n ≤ m) (hz : ∀ i, n ≤ i → f i = 0) : su f k m = su f k n := by
  induction m with
  | zero => rw [show n = 0 by omega]
  | succ m ih =>
    by_cases q : n = m + 1
    · rw [q]
    · rw [su_s, ih (by omega), hz m (by omega)]
      simp
theorem su_k {f : Nat → Nat} {k n : Nat} (h : n ≤ k) : su f k n = 0 := by
  induction n with
  | zero => rfl
  | succ n ih => unfold su; rw [ih (by omega), if_neg (by omega)]
theorem su_le {f : Nat → Nat} {k n M : Nat} (h : ∀ i, i < n → f i ≤ M) : su f k n ≤ n * M := by
  induction n with
  | zero => simp [su]
  | succ n ih =>
    unfold su
    have h1 := ih (fun i hi => h i (by omega))
    have h2 := h n (by omega)
    rw [Nat.succ_mul]
    split <;> omega
theorem w64_nat {M : Nat} (h : M ≤ 4611686018427387904) : w64 (M : Int) = M := w64_in (by omega) (by omega)
theorem w64_n4 {M : Nat} (h : M ≤ 1099511627776) : w64 (M : Int) = M := w64_in (by omega) (by omega)
/-! the court's -/
theorem x_power {b t : Nat} (hb : b ≤ 16) (ht : t ≤ 10) : f_X2_power b t σ = some ((b ^ t : Nat) : Int) := by
  unfold f_X2_power f_X2_power_b0
  refine up_all (Q := fun n i => f_X2_power_h5 n b t ((b ^ i : Nat) : Int) i σ = some ((b ^ t : Nat) : Int)) t (fun n => ?_) (fun n i hi ih => ?_) (by unfold FU; omega)
  · rw [hs_X2_power_h5]
    unfold f_X2_power_b5
    rw [if_pos (by omega)]
  · have h1 : b ^ (i + 1) ≤ 16 ^ (i + 1) := Nat.pow_le_pow_left hb _
    have h2 := p16 (show i + 1 ≤ 10 by omega)
    rw [hs_X2_power_h5]
    unfold f_X2_power_b5
    rw [if_neg (by omega), ← Int.natCast_mul, ← Nat.pow_succ, w64_n4 (Nat.le_trans h1 h2), w32_in (by omega) (by omega)]
    exact ih
def tm (n o j : Nat) : Nat := ch n j * o ^ j * (16 - o) ^ (n - j)
theorem tm_cc {n o j : Nat} (hn : n ≤ 10) (hj : j ≤ n) : tm n o j = cc o (16 - o) n j := by
  unfold tm
  rw [cc_bc, ch_bc n (by omega) j (by omega)]
theorem tm_su {n o k : Nat} (hn : n ≤ 10) : su (tm n o) k (n + 1) = su (cc o (16 - o) n) k 11 := by
  rw [su_out (n := n + 1) (m := 11) (by omega) (fun i hi => by rw [cc_bc, bc_z (by omega)]; simp)]
  exact su_cg fun i hi => tm_cc hn (by omega)
theorem su_bd {n o k i : Nat} (hn : n ≤ 10) (ho : o ≤ 16) (hi : i ≤ 11) : su (cc o (16 - o) n) k i ≤ 12094627905536 := by
  have h1 : su (cc o (16 - o) n) k i ≤ i * 1099511627776 := su_le fun j _ => Nat.le_trans (cc_le (by omega)) (p16 hn)
  have h2 : i * 1099511627776 ≤ 11 * 1099511627776 := Nat.mul_le_mul_right _ hi
  omega
theorem x_tellAtLeast {n o k : Nat} (hn : n ≤ 10) (ho : o ≤ 16) : f_X2_tellAtLeast 59 k n o σ = f_X2_tell 59 (su (cc o (16 - o) n) k 11 : Nat) ((16 ^ n : Nat) : Int) σ := by
  unfold f_X2_tellAtLeast f_X2_tellAtLeast_b0
  rw [if_pos oF]
  refine up_all (Q := fun m i => f_X2_tellAtLeast_h9 m 59 k n o (su (tm n o) k i : Nat) (ch n i : Nat) i σ = f_X2_tell 59 (su (cc o (16 - o) n) k 11 : Nat) ((16 ^ n : Nat) : Int) σ) (n + 1) (fun m => ?_) (fun m i hi ih => ?_) (by unfold FU; omega)
  · rw [hs_X2_tellAtLeast_h9]
    unfold f_X2_tellAtLeast_b9
    rw [if_pos (by omega), show f_X2_power 16 n σ = _ from x_power (b := 16) (Nat.le_refl _) hn, obs, tm_su hn]
    cases f_X2_tell 59 (su (cc o (16 - o) n) k 11 : Nat) ((16 ^ n : Nat) : Int) σ <;> rfl
  · have c1 := ch_le n (by omega) i (by omega)
    have c2 := ch_le n (by omega) (i + 1) (by omega)
    have e1 : w64 (((ch n i : Nat) : Int) * w32 ((n : Int) - i)) = ((ch n i * (n - i) : Nat) : Int) := by
      have h1 : ch n i * (n - i) ≤ 252 * 10 := Nat.mul_le_mul c1 (by omega)
      rw [w32_in (by omega) (by omega), show (n : Int) - i = ((n - i : Nat) : Int) by omega, ← Int.natCast_mul, w64_in (by omega) (by omega)]
    have e2 : w64 (Int.tdiv ((ch n i * (n - i) : Nat) : Int) (w32 ((i : Int) + 1))) = ((ch n (i + 1) : Nat) : Int) := by
      have h1 : ch n i * (n - i) ≤ 252 * 10 := Nat.mul_le_mul c1 (by omega)
      rw [w32_in (by omega) (by omega), show (i : Int) + 1 = ((i + 1 : Nat) : Int) by omega, tdiv_nat (by omega)]
      rfl
    have e3 : o ^ i ≤ 1099511627776 := Nat.le_trans (Nat.pow_le_pow_left ho _) (p16 (by omega))
    have e4 : (16 - o) ^ (n - i) ≤ 1099511627776 := Nat.le_trans (Nat.pow_le_pow_left (show 16 - o ≤ 16 by omega) _) (p16 (by omega))
    have e5 : w64 (((ch n i : Nat) : Int) * ((o ^ i : Nat) : Int)) = ((ch n i * o ^ i : Nat) : Int) := by
      have h1 : ch n i * o ^ i ≤ 252 * 1099511627776 := Nat.mul_le_mul c1 e3
      rw [← Int.natCast_mul, w64_in (by omega) (by omega)]
    have t1 : tm n o i ≤ 1099511627776 := by rw [tm_cc hn (by omega)]; exact Nat.le_trans (cc_le (by omega)) (p16 hn)
    have e6 : w64 (((ch n i * o ^ i : Nat) : Int) * (((16 - o) ^ (n - i) : Nat) : Int)) = ((tm n o i : Nat) : Int) := by
      rw [← Int.natCast_mul, show ch n i * o ^ i * (16 - o) ^ (n - i) = tm n o i from rfl, w64_in (by omega) (by omega)]
    have s1 : su (tm n o) k i = su (cc o (16 - o) n) k i := su_cg fun j hj => tm_cc hn (by omega)
    have s2 := @su_bd n o k i hn ho (by omega)
    rw [hs_X2_tellAtLeast_h9]
    unfold f_X2_tellAtLeast_b9 f_X2_tellAtLeast_b49
    have en : nz (w32 ((i : Int) + 1)) = some (w32 ((i : Int) + 1)) := nzp (by rw [w32_in (by omega) (by omega)]; omega)
    simp only [en, obs, e1, e2]
    rw [if_neg (by omega), w32_in (z := (i : Int) + 1) (by omega) (by omega)]
    rw [su_s] at ih
    by_cases r : k ≤ i
    · rw [if_neg (by omega), x_power ho (by omega), obs, w32_in (z := 16 - (o : Int)) (by omega) (by omega), w32_in (z := (n : Int) - i) (by omega) (by omega), show (16 : Int) - o = ((16 - o : Nat) : Int) by omega, show (n : Int) - i = ((n - i : Nat) : Int) by omega, x_power (by omega) (by omega), obs, e5, e6, s1, w64_in (by omega) (by omega)]
      rw [if_pos r, s1] at ih
      exact ih
    · rw [if_pos (by omega)]
      rw [if_neg r] at ih
      exact ih
/-! the reference's -/
theorem alCh {i : Int} (h0 : 0 ≤ i) (h1 : i < 11) : al Sh σ 21 126 i = some (σ 126 i.toNat) := al_at (isA_at (a := 126) rfl h0 h1)
theorem stCh {i v : Int} (h0 : 0 ≤ i) (h1 : i < 11) : st_ Sh σ 21 126 i v = some (upm σ 126 i.toNat v) := st_at (isA_at (a := 126) rfl h0 h1)
theorem gid126 {j : Nat} : gid 126 j = 20 := by
  have h1 : isRf 126 j = false := isRf_cell rfl
  unfold gid
  simp [h1]
/-- the row of chances: from i on those of d + 1, below those of d -/
def chR (f : Nat → Int) (o d i : Nat) : Nat → Int := fun j => if j < 11 then (if i ≤ j then (cc o (16 - o) (d + 1) j : Nat) else (cc o (16 - o) d j : Nat)) else f j
theorem chR_s {f : Nat → Int} {o d i : Nat} (hi : i < 11) : up1 (chR f o d (i + 1)) i ((cc o (16 - o) (d + 1) i : Nat) : Int) = chR f o d i := by
  funext j
  unfold up1 chR
  by_cases q : j = i
  · rw [if_pos q, if_pos (by omega), if_pos (by omega), q]
  · rw [if_neg q]
    by_cases r : j < 11
    · rw [if_pos r, if_pos r]
      by_cases s : i ≤ j
      · rw [if_pos s, if_pos (by omega)]
      · rw [if_neg s, if_neg (by omega)]
    · rw [if_neg r, if_neg r]
theorem chR_t {f : Nat → Int} {o d : Nat} : chR f o d 0 = chR f o (d + 1) 11 := by
  funext j
  unfold chR
  by_cases r : j < 11
  · rw [if_pos r, if_pos r, if_pos (by omega), if_neg (by omega)]
  · rw [if_neg r, if_neg r]
theorem m_cp_i {k72 : Int → Int → Int → Int → Mem → Option (Int × Mem)} {f : Nat → Int} {k a v : Int} {o d : Nat} (h : MH τ B) (ho : B 2 = o) (h16 : o ≤ 16) (hd : d < 10) : f_X12_couples_h81 k72 FU 113 k a v 10 (setc τ 126 (chR f o d 11)) = k72 113 k (w64 (a * 16)) (w32 (v + (-1))) (setc τ 126 (chR f o d 0)) := by
  have hm : ∀ g, MH (setc τ 126 g) B := fun g => ⟨h.1.setc rfl, by rw [setc_ne (by decide)]; exact h.2.1, h.2.2⟩
  have c2 : ∀ g, al Sh (setc τ 126 g) 20 118 2 = some (o : Int) := fun g => by rw [alC (by omega) (by omega), (hm g).2.1, show Int.toNat 2 = 2 from rfl, ho]
  have bd : ∀ e j, e ≤ 10 → cc o (16 - o) e j ≤ 1099511627776 := fun e j he => Nat.le_trans (cc_le (by omega)) (p16 he)
  have step : ∀ i, i ≤ 10 → ∀ n, i < n → f_X12_couples_h81 k72 n 113 k a v i (setc τ 126 (chR f o d (i + 1))) = k72 113 k (w64 (a * 16)) (w32 (v + (-1))) (setc τ 126 (chR f o d 0)) := by
    intro i
    induction i with
    | zero =>
      intro _ n hn
      obtain ⟨n, rfl⟩ : ∃ m, n = m + 1 := ⟨n - 1, by omega⟩
      rw [hs_X12_couples_h81]
      unfold f_X12_couples_b81
      simp only [gM, obs, (hm _).1.at 113 34 126 rfl, (hm _).1.at 113 20 118 rfl, c2]
      rw [if_pos (by omega), alCh (by omega) (by omega), obs, stCh (by omega) (by omega), obs, setc_same, setc_upm, w32_in (z := 16 - (o : Int)) (by omega) (by omega)]
      have e0 : chR f o d (0 + 1) (Int.toNat 0) = ((cc o (16 - o) d 0 : Nat) : Int) := by unfold chR; rw [if_pos (by decide), if_neg (by decide)]; rfl
      have e1 : w64 (((cc o (16 - o) d 0 : Nat) : Int) * (16 - (o : Int))) = ((cc o (16 - o) (d + 1) 0 : Nat) : Int) := by
        have := bd (d + 1) 0 (by omega)
        rw [show (16 : Int) - o = ((16 - o : Nat) : Int) by omega, ← Int.natCast_mul, show cc o (16 - o) d 0 * (16 - o) = cc o (16 - o) (d + 1) 0 from rfl, w64_n4 this]
      rw [e0, e1, show Int.toNat 0 = 0 from rfl, chR_s (by omega)]
    | succ i ih =>
      intro hi n hn
      obtain ⟨n, rfl⟩ : ∃ m, n = m + 1 := ⟨n - 1, by omega⟩
      rw [hs_X12_couples_h81]
      unfold f_X12_couples_b81
      simp only [gM, obs, (hm _).1.at 113 34 126 rfl, (hm _).1.at 113 20 118 rfl, c2]
      rw [if_neg (by omega), w32_in (z := ((i + 1 : Nat) : Int) - 1) (by omega) (by omega), alCh (by omega) (by omega), obs, alCh (by omega) (by omega), obs, stCh (by omega) (by omega), obs, setc_same, setc_upm, w32_in (z := 16 - (o : Int)) (by omega) (by omega), w32_in (z := ((i + 1 : Nat) : Int) + -1) (by omega) (by omega)]
      have e0 : chR f o d (i + 1 + 1) ((i + 1 : Nat) : Int).toNat = ((cc o (16 - o) d (i + 1) : Nat) : Int) := by unfold chR; rw [if_pos (by omega), if_neg (by omega), Int.toNat_natCast]
      have e1 : chR f o d (i + 1 + 1) (((i + 1 : Nat) : Int) - 1).toNat = ((cc o (16 - o) d i : Nat) : Int) := by rw [show (((i + 1 : Nat) : Int) - 1).toNat = i by omega]; unfold chR; rw [if_pos (by omega), if_neg (by omega)]
      have e2 : w64 (w64 (((cc o (16 - o) d (i + 1) : Nat) : Int) * (16 - (o : Int))) + w64 (((cc o (16 - o) d i : Nat) : Int) * o)) = ((cc o (16 - o) (d + 1) (i + 1) : Nat) : Int) := by
        have h1 := bd (d + 1) (i + 1) (by omega)
        have h2 : cc o (16 - o) (d + 1) (i + 1) = cc o (16 - o) d (i + 1) * (16 - o) + cc o (16 - o) d i * o := rfl
        rw [show (16 : Int) - o = ((16 - o : Nat) : Int) by omega, ← Int.natCast_mul, ← Int.natCast_mul, w64_n4 (Nat.le_trans (Nat.le_add_right _ _) (h2 ▸ h1)), w64_n4 (Nat.le_trans (Nat.le_add_left _ _) (h2 ▸ h1)), ← Int.natCast_add, ← h2, w64_n4 h1]
      rw [e0, e1, e2, Int.toNat_natCast, chR_s (by omega), show ((i + 1 : Nat) : Int) + -1 = i by omega]
      exact ih (by omega) n (by omega)
  exact step 10 (Nat.le_refl _) FU (by unfold FU; omega)
theorem m_cp_s {f : Nat → Int} {k n o : Nat} (h : MH τ B) (hk : k ≤ 10) (hn : n ≤ 10) (ho : o ≤ 16) : f_X12_couples_h172 FU 113 ((16 ^ n : Nat) : Int) 0 k (setc τ 126 (chR f o n 11)) = (f_X12_fraction 113 (su (cc o (16 - o) n) k 11 : Nat) ((16 ^ n : Nat) : Int) (setc τ 126 (chR f o n 11))).bind fun r => (bz r.1).bind fun _ => some (r.1, r.2) := by
  have hR : Ref (setc τ 126 (chR f o n 11)) := h.1.setc rfl
  have := up_to (Q := fun m i => k ≤ i → f_X12_couples_h172 m 113 ((16 ^ n : Nat) : Int) (su (cc o (16 - o) n) k i : Nat) i (setc τ 126 (chR f o n 11)) = (f_X12_fraction 113 (su (cc o (16 - o) n) k 11 : Nat) ((16 ^ n : Nat) : Int) (setc τ 126 (chR f o n 11))).bind fun r => (bz r.1).bind fun _ => some (r.1, r.2)) 11 (fun m _ => ?_) (fun m i hi ih hki => ?_) k (by omega) FU (by unfold FU; omega) (Nat.le_refl _)
  · rw [su_k (Nat.le_refl _)] at this
    exact this
  · rw [hs_X12_couples_h172]
    unfold f_X12_couples_b172
    rw [if_pos (by omega)]
  · have s2 := @su_bd n o k (i + 1) hn ho (by omega)
    have e0 : chR f o n 11 i = ((cc o (16 - o) n i : Nat) : Int) := by unfold chR; rw [if_pos (by omega), if_neg (by omega)]
    rw [hs_X12_couples_h172]
    unfold f_X12_couples_b172
    simp only [gM, obs, hR.at 113 34 126 rfl]
    rw [if_neg (by omega), alCh (by omega) (by omega), obs, setc_same, Int.toNat_natCast, e0, ← Int.natCast_add, w32_in (by omega) (by omega)]
    have ih := ih (by omega)
    rw [su_s, if_pos hki] at ih s2
    rw [w64_in (by omega) (by omega)]
    exact ih
theorem m_cp_d {f : Nat → Int} {k n o : Nat} (h : MH τ B) (hB2 : B 2 = o) (hk : k ≤ 10) (hn : n ≤ 10) (ho : o ≤ 16) : f_X12_couples_h72 FU 113 k 1 n (setc τ 126 (chR f o 0 11)) = (f_X12_fraction 113 (su (cc o (16 - o) n) k 11 : Nat) ((16 ^ n : Nat) : Int) (setc τ 126 (chR f o n 11))).bind fun r => (bz r.1).bind fun _ => some (r.1, r.2) := by
  have := up_all (Q := fun m i => f_X12_couples_h72 m 113 k ((16 ^ i : Nat) : Int) ((n : Int) - i) (setc τ 126 (chR f o i 11)) = (f_X12_fraction 113 (su (cc o (16 - o) n) k 11 : Nat) ((16 ^ n : Nat) : Int) (setc τ 126 (chR f o n 11))).bind fun r => (bz r.1).bind fun _ => some (r.1, r.2)) n (fun m => ?_) (fun m i hi ih => ?_) (by unfold FU; omega)
  · rw [show (n : Int) - ((0 : Nat) : Int) = n by omega] at this
    exact this
  · rw [hs_X12_couples_h72]
    unfold f_X12_couples_b72
    rw [if_pos (by omega)]
    exact m_cp_s h hk hn ho
  · have h2 := p16 (show i + 1 ≤ 10 by omega)
    rw [hs_X12_couples_h72]
    unfold f_X12_couples_b72
    rw [if_neg (by omega), m_cp_i h hB2 ho (by omega), chR_t, w32_in (by omega) (by omega), show ((16 ^ i : Nat) : Int) * 16 = ((16 ^ (i + 1) : Nat) : Int) by rw [Nat.pow_succ, Int.natCast_mul]; rfl, w64_n4 h2, show (n : Int) - i + -1 = (n : Int) - ((i + 1 : Nat) : Int) by omega]
    exact ih
def ch0 (f : Nat → Int) (i : Nat) : Nat → Int := fun j => if j < i then (if j = 0 then 1 else 0) else f j
theorem m_cp_0 {k o : Nat} (h : MH τ B) (hB2 : B 2 = o) (hk : k ≤ 10) (ho : o ≤ 16) : f_X12_couples_h33 FU 113 k 1 0 τ = (f_X12_fraction 113 (su (cc o (16 - o) (sz (aS B))) k 11 : Nat) ((16 ^ sz (aS B) : Nat) : Int) (setc τ 126 (chR (τ 126) o (sz (aS B)) 11))).bind fun r => (bz r.1).bind fun _ => some (r.1, r.2) := by
  have hm : ∀ g, MH (setc τ 126 g) B := fun g => ⟨h.1.setc rfl, by rw [setc_ne (by decide)]; exact h.2.1, h.2.2⟩
  have := up_all (Q := fun m i => f_X12_couples_h33 m 113 k 1 i (setc τ 126 (ch0 (τ 126) i)) = (f_X12_fraction 113 (su (cc o (16 - o) (sz (aS B))) k 11 : Nat) ((16 ^ sz (aS B) : Nat) : Int) (setc τ 126 (chR (τ 126) o (sz (aS B)) 11))).bind fun r => (bz r.1).bind fun _ => some (r.1, r.2)) 11 (fun m => ?_) (fun m i hi ih => ?_) (by unfold FU; omega)
  · rw [show ch0 (τ 126) 0 = τ 126 by funext j; unfold ch0; rw [if_neg (by omega)], setc_id] at this
    exact this
  · rw [hs_X12_couples_h33]
    unfold f_X12_couples_b33
    rw [if_pos (by omega), m_stones (hm _).1 (hm _).2.1 h.2.2, obs, s_sizeOf (aS_lt h.2.2), obs]
    rw [show ch0 (τ 126) 11 = chR (τ 126) o 0 11 by
      funext j
      unfold ch0 chR
      by_cases r : j < 11
      · rw [if_pos r, if_pos r, if_neg (c := 11 ≤ j) (by omega)]
        unfold cc
        split <;> rfl
      · rw [if_neg r, if_neg r]]
    exact m_cp_d h hB2 hk (sz_le _) ho
  · rw [hs_X12_couples_h33]
    unfold f_X12_couples_b33 f_X12_couples_b56
    simp only [gM, obs, (hm _).1.at 113 34 126 rfl]
    rw [if_neg (by omega)]
    simp only [stCh (show (0 : Int) ≤ i by omega) (show (i : Int) < 11 by omega), obs, Int.toNat_natCast, setc_upm]
    rw [w32_in (by omega) (by omega)]
    have e : ∀ v : Int, v = (if i = 0 then 1 else 0) → up1 (ch0 (τ 126) i) i v = ch0 (τ 126) (i + 1) := by
      intro v hv
      funext j
      unfold up1 ch0
      by_cases q : j = i
      · rw [if_pos q, if_pos (by omega), hv, q]
      · rw [if_neg q]
        by_cases r : j < i
        · rw [if_pos r, if_pos (c := j < i + 1) (by omega)]
        · rw [if_neg r, if_neg (by omega)]
    by_cases z : i = 0
    · rw [if_pos (by omega), e 1 (by rw [if_pos z])]
      exact ih
    · rw [if_neg (by omega), e 0 (by rw [if_neg z])]
      exact ih
theorem ok_couples {k : Int} (h : Rel σ) : Ok (f_X11_couples 0 k) (f_X12_couples 113 k) σ := by
  have hx := h.xh
  have hB := hx.2.2.nP_le
  have h2 := hx.2.2.2.2.1.1
  by_cases hy : 0 ≤ k ∧ k ≤ 10
  · obtain ⟨j, rfl⟩ := nat_of hy.1
    obtain ⟨o, ho⟩ := nat_of h2.1
    have l1 := sz_le (aS (σ 118))
    have l2 := p16 l1
    have l3 := @su_bd (sz (aS (σ 118))) o j 11 l1 (by omega) (Nat.le_refl _)
    have l4 : 0 < 16 ^ sz (aS (σ 118)) := Nat.pow_pos (by omega)
    refine Ok.mkf h (r := 1) (t := su (cc o (16 - o) (sz (aS (σ 118)))) j 11 / Nat.gcd (su (cc o (16 - o) (sz (aS (σ 118)))) j 11) (16 ^ sz (aS (σ 118)))) (b := 16 ^ sz (aS (σ 118)) / Nat.gcd (su (cc o (16 - o) (sz (aS (σ 118)))) j 11) (16 ^ sz (aS (σ 118)))) ?_ fun τ ht _ => ⟨setc (rf2 τ) 126 (chR (rf2 τ 126) o (sz (aS (σ 118))) 11), ?_, ?_, ?_⟩
    · unfold f_X11_couples f_X11_couples_b0 f_X11_couples_b16
      simp only [oX, if_true]
      rw [if_neg (by omega), if_pos (by omega)]
      simp only [s_ref0, obs, if_true, gX, hx.st.1.at 0 15 59 rfl, hx.st.1.at 0 3 5 rfl, w_g, w_stoneCount hx.st, hx.st.2.1.1.2.2.2.1, ho]
      rw [x_tellAtLeast l1 (by omega), x_tell (by omega) (by omega) l4, obs]
    · unfold f_X12_couples f_X12_couples_b0
      simp only [oM, if_true, pM, obs, rf2_e, s_isIn]
      rw [if_pos hy, if_neg (by decide), m_cp_0 ht.rf ho (by omega) (by omega), m_fraction (by omega) (by omega) l4, obs, bz1, obs]
    · exact Fr.trans fr_rf (fr_setcA fun j _ => by rw [gid126]; decide)
    · rw [setc_ne (by decide)]; rfl
  · refine Ok.mk (r := 0) (y := 5) h (XO.mk ?_) fun τ ht _ => MO.mkr ?_
    · unfold f_X11_couples f_X11_couples_b0 f_X11_couples_b11 f_X11_couples_b16
      simp only [oX, if_true, s_refn (show ¬ (5 : Int) = 0 by decide), obs, s_ref0, Int.one_ne_zero, if_false]
      grind
    · unfold f_X12_couples f_X12_couples_b0
      simp only [oM, if_true, pM, obs, rf2_e, s_isIn, s_no, bz0]
      rw [if_neg hy]
      rfl
end
