/-! ===== mean ===== -/
section
variable {σ0 σ σ1 σ' τ : Mem} {L aw : Nat} {B0 B B' D V V' : Nat → Int} {fx fm : Mem → Option (Int × Mem)}
theorem mm_mm : mm (mm τ B V) B' V' = mm τ B' V' := by
  unfold mm
  funext b j
  unfold setc
  by_cases h1 : b = 113
  · simp [h1]
  · by_cases h2 : b = 118
    · simp [h2]
    · simp [h1, h2]
theorem al119 {i : Nat} (h : i < 55) : al Sh σ 20 119 (i : Int) = some (σ 119 i) := by
  have : isA Sh 20 119 (i : Int) = true := isA_at (a := 119) (n := 55) rfl (by omega) (by omega)
  rw [al_at this, Int.toNat_natCast]
  rfl
theorem st119 {i : Nat} {v : Int} (h : i < 55) : st_ Sh σ 20 119 (i : Int) v = some (upm σ 119 i v) := by
  have : isA Sh 20 119 (i : Int) = true := isA_at (a := 119) (n := 55) rfl (by omega) (by omega)
  rw [st_at this, Int.toNat_natCast]
  rfl
/-- the first n cells saved -/
def sv (σ : Mem) (n : Nat) : Mem := setc σ 119 fun j => if j < n then σ 118 j else σ 119 j
theorem sv_0 : sv σ 0 = σ := by
  unfold sv
  funext b
  by_cases h : b = 119
  · rw [h, setc_same]; rfl
  · rw [setc_ne h]
theorem sv_s {n : Nat} : upm (sv σ n) 119 n (σ 118 n) = sv σ (n + 1) := by
  unfold sv
  rw [setc_upm]
  congr 1
  funext j
  unfold up1
  grind
theorem sv_118 {n : Nat} : sv σ n 118 = σ 118 := by unfold sv; rw [setc_ne (by decide)]
theorem sv_113 {n : Nat} : sv σ n 113 = σ 113 := by unfold sv; rw [setc_ne (by decide)]
theorem m_save {a b : Int} (hR : Ref τ) : f_X12_mean_h62 FU 113 a b 0 τ = f_X12_mean_h91 FU 113 a b 0 0 (sv τ 55) := by
  have := up_all (Q := fun m i => f_X12_mean_h62 m 113 a b i (sv τ i) = f_X12_mean_h91 FU 113 a b 0 0 (sv τ 55)) 55 (fun m => ?_) (fun m i hi ih => ?_) (by unfold FU; omega)
  · rw [sv_0] at this
    exact this
  · rw [hs_X12_mean_h62]
    unfold f_X12_mean_b62
    rw [if_pos (by omega)]
  · rw [hs_X12_mean_h62]
    unfold f_X12_mean_b62
    rw [if_neg (by omega), gM, obs, gM, obs, sv_113, hR.at 113 20 118 rfl, hR.at 113 21 119 rfl, alC (by omega) (by omega), obs, st119 hi, obs, sv_118, Int.toNat_natCast, sv_s, wkk1 (by omega)]
    exact ih
/-- restored -/
def rs (B0 B : Nat → Int) (n : Nat) : Nat → Int := fun j => if j < n then B0 j else B j
theorem m_rest {k91 : Int → Int → Int → Int → Int → Mem → Option (Int × Mem)} {a b c : Int} {i : Nat} (hi : i < 1000) (hR : Ref (mm τ B V)) (h9 : ∀ j, j < 55 → τ 119 j = B0 j) (h55 : ∀ j, 55 ≤ j → B j = B0 j) : f_X12_mean_h119 k91 FU 113 a b c i 0 (mm τ B V) = k91 113 a b c ((i + 1 : Nat) : Int) (mm τ B0 V) := by
  have e9 : ∀ {B V : Nat → Int}, mm τ B V 119 = τ 119 := fun {B V} => by unfold mm; rw [setc_ne (by decide), setc_ne (by decide)]
  have := up_all (Q := fun m j => f_X12_mean_h119 k91 m 113 a b c i j (mm τ (rs B0 B j) V) = k91 113 a b c ((i + 1 : Nat) : Int) (mm τ B0 V)) 55 (fun m => ?_) (fun m j hj ih => ?_) (by unfold FU; omega)
  · exact this
  · rw [hs_X12_mean_h119]
    unfold f_X12_mean_b119
    rw [if_pos (by omega), wkk1 hi]
    congr 2
    funext j
    unfold rs
    split
    · rfl
    · exact h55 j (by omega)
  · have e20 : mm τ (rs B0 B j) V 113 20 = 118 := by rw [mm_v]; exact mm_v.symm.trans (hR.at 113 20 118 rfl)
    have e21 : mm τ (rs B0 B j) V 113 21 = 119 := by rw [mm_v]; exact mm_v.symm.trans (hR.at 113 21 119 rfl)
    rw [hs_X12_mean_h119]
    unfold f_X12_mean_b119
    rw [if_neg (by omega), gM, obs, gM, obs, e20, e21, al119 hj, obs, e9, h9 j hj, stC (by omega) (by omega), obs, Int.toNat_natCast, upm_setc, mm_118, wkk1 (by omega), mm_b]
    have : up1 (rs B0 B j) j (B0 j) = rs B0 B (j + 1) := by
      funext q
      unfold up1 rs
      grind
    rw [this]
    exact ih
/-- one round of the mean -/
theorem rnd_mean {z : Nat} (h : XH σ B0 D) (h3 : B0 3 ≤ 9999) (t : TR σ 14 B0) (hz : z ≤ 65535) : ∃ (c : Nat) (σ1 σ2 : Mem), c ≤ 10 ∧ f_X9_copyFrom 42 5 σ = some σ1 ∧ Fr [0] σ σ1 ∧ f_X4_run 51 z σ1 = some σ2 ∧ Fr [0] σ σ2 ∧ f_X9_stoneCount 42 σ2 = some (c : Int) ∧ ∀ τ, MH τ B0 → ∃ B' V', f_X12_runsTerms 113 z τ = some (mm τ B' V') ∧ MH (mm τ B' V') B' ∧ (∀ j, 55 ≤ j → B' j = B0 j) ∧ (∀ j, ¬ (37 ≤ j ∧ j ≤ 44) → V' j = τ 113 j) ∧ sz (aS B') = c := by
  have hl : ll 51 42 := .inr ⟨rfl, rfl⟩
  have w42 : wl 42 := .inr (.inr (.inl rfl))
  obtain ⟨σ1, c1, c2, c3⟩ := x_copyFrom (a := 42) (c := 5) w42 (.inl rfl) (by omega) h.1 h.2.1 h.2.2
  have fr1 : Fr [0] σ σ1 := Fp.mono c3 fun b j q => by unfold gs; rw [gid_wS42 q]; decide
  have t1 : TR σ1 14 B0 := TR.o t fun b j q1 q2 => c3 b j fun r => by obtain ⟨r1, r2, _⟩ := r; omega
  have lf := fun τ hm => life (τ := τ) (z := z) hl (c3.refW h.1) c2 h.2.2 h3 t1 hm hz
  obtain ⟨σ2, B2, V2, l1, l2, l3, l4, l5⟩ := lf (setc σ 118 B0) ⟨h.1.cell fun e he => by rw [setc_ne (fun q => rf113 e he (.inl q))], setc_same, h.2.2⟩
  refine ⟨sz (aS B2), σ1, σ2, sz_le _, c1, fr1, l1, Fr.trans fr1 (Fp.mono l3.1 fun b j q => by unfold gs; rw [gid_l51 q]; decide), x_stoneCount (a := 42) w42 l3.2.2.1 l3.2.2.2.1, fun τ hm => ?_⟩
  obtain ⟨σ3, B3, V3, k1, k2, k3, k4, k5⟩ := lf τ hm
  have es : σ3 = σ2 := by rw [l1] at k1; exact (Option.some.inj k1).symm
  subst es
  have e1 := x_stoneCount (a := 42) w42 l3.2.2.1 l3.2.2.2.1
  rw [x_stoneCount (a := 42) w42 k3.2.2.1 k3.2.2.2.1] at e1
  have e2 := Option.some.inj e1
  refine ⟨B3, V3, k2, ⟨(fr_mm hm k3.2.2.2.2.2.2.2.1 k4).ref (by decide) hm.1, mm_b, k3.2.2.2.1⟩, k3.2.2.2.2.2.2.2.1, k4, by omega⟩
theorem gid14 {b j : Nat} (h1 : 14 ≤ b) (h2 : b ≤ 19) : ¬ gid b j = 0 := by
  unfold gid
  grind
theorem all_mean {z n : Nat} (hn : 1 ≤ n) (hn2 : n ≤ 20) (hz : z ≤ 10000) (h3 : B0 3 ≤ 9999) : ∀ (k i a F : Nat) (σ : Mem), i + k = n → a ≤ 10 * i → k < F → XH σ B0 D → TR σ 14 B0 → ∃ (t : Nat) (σ' : Mem), t ≤ 10 * n ∧ Fr [0] σ σ' ∧ f_X11_mean_h20 F 0 z n a i σ = some (1, upm (upm σ' 59 0 ((t / Nat.gcd t n : Nat) : Int)) 59 1 ((n / Nat.gcd t n : Nat) : Int)) ∧ ∀ τ V, (∀ j, j < 55 → τ 119 j = B0 j) → MH (mm τ B0 V) B0 → ∃ V', (∀ j, ¬ (37 ≤ j ∧ j ≤ 44) → V' j = V j) ∧ f_X12_mean_h91 F 113 z n a i (mm τ B0 V) = some (1, upm (upm (mm τ B0 V') 113 2 ((t / Nat.gcd t n : Nat) : Int)) 113 3 ((n / Nat.gcd t n : Nat) : Int)) := by
  intro k
  induction k with
  | zero =>
    intro i a F σ hi ha hF hx t
    obtain ⟨F, rfl⟩ : ∃ G, F = G + 1 := ⟨F - 1, by omega⟩
    refine ⟨a, σ, by omega, Fr.refl, ?_, fun τ V _ hm => ⟨V, fun _ _ => rfl, ?_⟩⟩
    · rw [hs_X11_mean_h20]
      unfold f_X11_mean_b20
      rw [if_pos (by omega), gX, obs, hx.1.at 0 15 59 rfl, x_tell (by omega) (by omega) (by omega), obs]
    · rw [hs_X12_mean_h91]
      unfold f_X12_mean_b91
      rw [if_pos (by omega), m_fraction (by omega) (by omega) (by omega), obs, bz1, obs]
  | succ k ih =>
    intro i a F σ hi ha hF hx t
    obtain ⟨F, rfl⟩ : ∃ G, F = G + 1 := ⟨F - 1, by omega⟩
    obtain ⟨c, σ1, σ2, r1, r2, r3, r4, r5, r6, r7⟩ := rnd_mean (z := z + i) hx h3 t (by omega)
    have hx2 := hx.fr0 r5
    have t2 : TR σ2 14 B0 := TR.o t fun b j q1 q2 => r5 b j fun r => by unfold gs at r; exact gid14 (j := j) q1 (by omega) (by simpa using r)
    have ew : w32 ((z : Int) + i) = ((z + i : Nat) : Int) := by rw [w32_in (by omega) (by omega)]; omega
    obtain ⟨tt, σ', p1, p2, p3, p4⟩ := ih (i + 1) (a + c) F σ2 (by omega) (by omega) (by omega) hx2 t2
    refine ⟨tt, σ', p1, r5.trans p2, ?_, fun τ V h9 hm => ?_⟩
    · rw [hs_X11_mean_h20]
      unfold f_X11_mean_b20
      rw [if_neg (by omega), gX, obs, gX, obs, hx.1.at 0 10 42 rfl, hx.1.at 0 3 5 rfl, r2, obs, gX, obs, (r3.ref (by decide) hx.1).at 0 11 51 rfl, ew, r4, obs, gX, obs, hx2.1.at 0 10 42 rfl, r6, obs, wkk1 (by omega), w32_in (by omega) (by omega)]
      exact p3
    · obtain ⟨B1, V1, q1, q2, q3, q4, q5⟩ := r7 _ hm
      rw [mm_mm] at q1 q2
      have hm2 : MH (mm τ B0 V1) B0 := by
        have := fr_mm (B' := B0) hm (fun _ _ => rfl) q4
        rw [mm_mm] at this
        exact ⟨this.ref (by decide) hm.1, mm_b, hm.2.2⟩
      obtain ⟨V2, y1, y2⟩ := p4 τ V1 h9 hm2
      refine ⟨V2, fun j hj => by rw [y1 j hj, q4 j hj, mm_v], ?_⟩
      rw [hs_X12_mean_h91]
      unfold f_X12_mean_b91
      rw [if_neg (by omega), ew, q1, obs, m_stones q2.1 q2.2.1 q2.2.2, obs, s_sizeOf (aS_lt q2.2.2), obs, q5, w64_in (by omega) (by omega), m_rest (by omega) q2.1 h9 q3]
      exact y2
theorem Ok.mkg {r : Int} {t b : Nat} {ρ : Mem} (h : Rel σ) (fρ : Fr [0, 1] σ ρ) (hρ : ρ 0 19 = 0) (hx : fx σ = some (r, upm (upm ρ 59 0 t) 59 1 b)) (hm : ∀ τ, MH τ (σ 118) → (∀ c, 113 ≤ c → τ c = σ c) → ∃ τ1, fm τ = some (r, upm (upm τ1 113 2 t) 113 3 b) ∧ Fr [11, 20] τ τ1 ∧ τ1 113 0 = 0) : Ok fx fm σ := by
  have f1 : Fr [0, 1, 2] σ (upm (upm ρ 59 0 t) 59 1 b) := ((fρ.mono (by decide)).then (show gid 59 0 ∈ [0, 1, 2] by decide)).then (by decide)
  have hi := f1.hi (by decide)
  obtain ⟨τ1, e2, f2, s2⟩ := hm _ ⟨f1.ref (by decide) h.1, hi 118 (by omega), h.xh.2.2⟩ hi
  have f3 : Fr [11, 12, 20] _ (upm (upm τ1 113 2 t) 113 3 b) := ((f2.mono (by decide)).then (show gid 113 2 ∈ [11, 12, 20] by decide)).then (by decide)
  have lo := f3.lo (by decide)
  refine ⟨r, _, _, hx, e2, h.step [0, 1, 2, 11, 12, 20] ((f1.mono (by decide)).trans (f3.mono (by decide))) (by decide) ?_ (fun _ => ?_) (fun q => absurd q (by decide)) (fun q => absurd q (by decide)) (fun q => absurd q (by decide)) (fun q => absurd q (by decide)) (fun q => absurd q (by decide)) (fun q => absurd q (by decide)) (fun q => absurd q (by decide))⟩
  · rw [lo 0 (by omega), upm_app, if_neg (by omega), upm_app, if_neg (by omega), hρ, upm_app, if_neg (by omega), upm_app, if_neg (by omega), s2]
  · unfold R2
    rw [lo 59 (by omega), upm_same, upm_same, upm_app, if_neg (by omega), upm_same, upm_app, if_neg (by omega), upm_same]
    exact ⟨rfl, rfl⟩
theorem ok_mean {v n : Int} (h : Rel σ) (hv : R32 v) (hnr : R32 n) : Ok (f_X11_mean 0 v n) (f_X12_mean 113 v n) σ := by
  have hs := x_seeds (v := v) (n := n) h (by omega)
  have hx := h.xh.st (v := 0)
  by_cases c1 : 0 ≤ v ∧ (1 ≤ n ∧ n ≤ 20) ∧ v ≤ 10000 - n
  · rw [if_neg (by omega)] at hs
    by_cases c2 : σ 118 55 = 0
    · refine Ok.mk (r := 0) (y := 8) h (XO.mk ?_) fun τ ht hg => MO.mkr ?_
      · unfold f_X11_mean f_X11_mean_b0
        rw [if_pos oX, hs, obs, if_pos c2, s_refn (by decide), obs]
        rfl
      · unfold f_X12_mean f_X12_mean_b0
        simp only [oM, if_true, gM, pM, obs, rf2_e, s_isIn, ht.rf.1.at 113 20 118 rfl, s_no]
        rw [if_pos c1.2.1, if_neg (by decide), w32_in (by omega) (by omega), if_pos (show 0 ≤ v ∧ v ≤ 10000 - n from ⟨c1.1, c1.2.2⟩), if_neg (by decide), alC (by omega) (by omega), obs, ht.rf.2.1, if_pos (show σ 118 (Int.toNat 55) = 0 from c2)]
        rfl
    · rw [if_neg c2] at hs
      obtain ⟨z, rfl⟩ := nat_of c1.1
      obtain ⟨m, rfl⟩ := nat_of (show 0 ≤ n by omega)
      have t7 : TR (upm σ 0 19 0) 14 (σ 118) := TR.o h.r7 fun b j q1 q2 => upm_o (by omega)
      obtain ⟨t, σ', p1, p2, p3, p4⟩ := all_mean (z := z) (n := m) (by omega) (by omega) (by omega) h.r6.2.2 m 0 0 FU (upm σ 0 19 0) (by omega) (by omega) (by unfold FU; omega) hx t7
      refine Ok.mkg (r := 1) (ρ := σ') h (Fr.trans (Fr.up (show gid 0 19 ∈ _ by decide)) (p2.mono (by decide))) ?_ (t := t / Nat.gcd t m) (b := m / Nat.gcd t m) ?_ fun τ ht hg => ?_
      · rw [p2 0 19 (by unfold gs; decide), upm_same]
      · unfold f_X11_mean f_X11_mean_b0
        rw [if_pos oX, hs, obs, s_ref0, obs]
        dsimp only
        rw [if_pos rfl]
        exact p3
      · have es : sv (rf2 τ) 55 = mm (sv (rf2 τ) 55) (σ 118) (rf2 τ 113) := by
          funext b
          unfold mm
          by_cases q1 : b = 113
          · rw [q1, setc_same, sv_113]
          · rw [setc_ne q1]
            by_cases q2 : b = 118
            · rw [q2, setc_same, sv_118, ht.rf.2.1]
            · rw [setc_ne q2]
        have f9 : Fr [20] (rf2 τ) (sv (rf2 τ) 55) := fr_setcA (a := 119) fun j _ => by
          rw [show gid 119 j = 20 by unfold gid; rw [show isRf 119 j = false from isRf_cell rfl]; rfl]; decide
        have hm9 : MH (mm (sv (rf2 τ) 55) (σ 118) (rf2 τ 113)) (σ 118) := by
          rw [← es]
          exact ⟨f9.ref (by decide) ht.rf.1, by rw [sv_118]; exact ht.rf.2.1, ht.2.2⟩
        obtain ⟨V', y1, y2⟩ := p4 (sv (rf2 τ) 55) (rf2 τ 113) (fun j hj => by unfold sv; rw [setc_same, if_pos hj, ht.rf.2.1]) hm9
        have fm9 := fr_mm (B' := σ 118) (V' := V') hm9 (fun _ _ => rfl) (fun j hj => by rw [y1 j hj, mm_v])
        rw [mm_mm] at fm9
        refine ⟨mm (sv (rf2 τ) 55) (σ 118) V', ?_, ?_, ?_⟩
        · unfold f_X12_mean f_X12_mean_b0
          simp only [oM, if_true, gM, pM, obs, rf2_e, s_isIn, ht.rf.1.at 113 20 118 rfl]
          rw [if_pos c1.2.1, if_neg (by decide), w32_in (by omega) (by omega), if_pos (show 0 ≤ (z : Int) ∧ (z : Int) ≤ 10000 - (m : Int) from ⟨c1.1, c1.2.2⟩), if_neg (by decide), alC (by omega) (by omega), obs, ht.rf.2.1, if_neg (show ¬ σ 118 (Int.toNat 55) = 0 from c2), m_save ht.rf.1]
          rw [← es] at y2
          exact y2
        · refine Fr.trans (fr_rf (v := 0)) (Fr.trans (Fr.mono f9 (by decide)) ?_)
          have f8 := fr_setcA (G := [11, 20]) (σ := sv (rf2 τ) 55) (a := 113) (f := V') fun j hj => by
            by_cases q : 37 ≤ j ∧ j ≤ 44
            · rw [gid113 q]; decide
            · exact absurd (by rw [y1 j q, sv_113]) hj
          have e8 : mm (sv (rf2 τ) 55) (σ 118) V' = setc (sv (rf2 τ) 55) 113 V' := by
            unfold mm
            congr 1
            funext b
            by_cases q2 : b = 118
            · rw [q2, setc_same, sv_118, ht.rf.2.1]
            · rw [setc_ne q2]
          rw [e8]
          exact f8
        · rw [mm_v, y1 0 (by omega)]
          rfl
  · rw [if_pos (by omega)] at hs
    refine Ok.mk (r := 0) (y := 5) h (XO.mk ?_) fun τ ht hg => MO.mkr ?_
    · unfold f_X11_mean f_X11_mean_b0
      rw [if_pos oX, hs, obs, s_refn (by decide), obs]
      rfl
    · unfold f_X12_mean f_X12_mean_b0 f_X12_mean_b37
      simp only [oM, if_true, gM, pM, obs, rf2_e, s_isIn, s_no, bz0]
      by_cases q : 1 ≤ n ∧ n ≤ 20
      · rw [if_pos q, if_neg (by decide), w32_in (by omega) (by omega), if_neg (show ¬ (0 ≤ v ∧ v ≤ 10000 - n) by omega), if_pos rfl]
        rfl
      · rw [if_neg q, if_pos rfl]
        rfl
end
