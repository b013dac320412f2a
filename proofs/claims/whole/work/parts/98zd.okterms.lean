/-! ===== terms ===== -/
section
variable {σ σ' τ τ' s : Mem} {t : Nat → Int} {N : Nat}
/-- the steps as they will stand in the reference's first block -/
def Bf (τ : Mem) (S : Nat) : Nat → Int := fun j => if j = 55 then 1 else if j = 56 then (S : Int) else Bt τ j
theorem mkT {S k m : Nat} (d : Dt σ τ S k 0) (c : Cd σ 31 (Bt τ) m 3 0 S 0 k) (h0 : σ 31 0 = 1) (hs : ∀ b j, 31 ≤ b → b ≤ 36 → σ' b j = σ b j) : TR σ' 31 (Bf τ S) := by
  obtain ⟨hu, ⟨d1, d2, d3⟩, ⟨d4, d5⟩, d6, d7⟩ := d
  unfold TR
  rw [hs 31 0 (by omega) (by omega), hs 31 1 (by omega) (by omega), hs 31 2 (by omega) (by omega), h0, d1, d4, show Bf τ S 55 = 1 from rfl, show Bf τ S 56 = S from rfl]
  refine ⟨rfl, .inr rfl, rfl, ⟨by omega, by omega⟩, ⟨by omega, by omega⟩, m, ?_⟩
  rw [Int.toNat_natCast, Int.toNat_natCast]
  refine Cd.mv (B := Bt τ) (B' := Bf τ S) (N := S) (M := k) (fun i j q1 q2 _ => hs _ _ (by omega) (by omega)) rfl rfl (fun j q1 _ => ?_) _ _ _ _ _ _ (Nat.le_refl _) (Nat.le_refl _) c
  unfold Bf
  rw [if_neg (by omega), if_neg (by omega)]
theorem ok_terms {v : Int} (h : Rel σ) : Ok (f_X11_terms 0 v) (f_X12_terms 113 v) σ := by
  obtain ⟨⟨g1, g2, g3⟩, g4⟩ := h.2.2.2.2.1
  obtain ⟨r61, r62, r63⟩ := h.2.2.2.2.2.2.1
  by_cases q : 0 ≤ v ∧ v ≤ σ 113 8 ∧ v ≤ 300
  · obtain ⟨n, rfl⟩ := nat_of q.1
    have fs : Fr [0, 1, 4] σ (upm (upm σ 0 19 0) 0 16 0) := (Fr.up (show gid 0 19 ∈ _ by decide)).then (by decide)
    have Rs := fs.ref (by decide) h.1
    generalize hS : upm (upm σ 0 19 0) 0 16 0 = s at *
    have s_o : ∀ b, ¬ b = 0 → s b = σ b := fun b hb => by rw [← hS, upm_ne hb, upm_ne hb]
    have s19 : s 0 19 = 0 := by rw [← hS, upm_app, if_neg (by decide), upm_same]
    have s16 : s 0 16 = 0 := by rw [← hS, upm_same]
    have h4 : s 4 = SG 4 := by rw [s_o 4 (by decide)]; exact h.2.2.2.2.2.2.2.2.2.2
    have hb0 : ∀ i, i < 900 → s 2 i = σ 117 i ∧ -128 ≤ σ 117 i ∧ σ 117 i ≤ 127 := fun i hi => by rw [s_o 2 (by decide)]; exact g4 i hi
    have hw : WR s 5 (σ 118) (σ 120) := r61.cg (fun b j q1 q2 => by rw [s_o b (by omega)]) (fun _ _ => rfl) (fun _ _ => rfl) r62
    have ex : ∀ r σ', (f_X7_begin 3 n s).bind (f_X6_reads 30) = some (r, σ') → Ref σ' → f_X11_terms 0 n σ = if r = 0 then f_X11_terms_b63 0 10 0 σ' else f_X11_terms_b63 0 0 0 σ' := by
      intro r σ' he hR
      unfold f_X11_terms f_X11_terms_b0 f_X11_terms_b25
      rw [if_pos oX, if_neg (by omega), gX, obs, g1, if_neg (by omega), if_pos (by omega), s_ref0, obs]
      dsimp only
      rw [if_pos rfl, pX, obs, hS, gX, obs, Rs.at 0 2 3 rfl]
      cases qb : f_X7_begin 3 n s with
      | none => rw [qb] at he; cases he
      | some r6 =>
        rw [qb, obs] at he
        rw [obs, gX, obs]
        have : r6 0 6 = 30 := by
          obtain ⟨V, W, a1, _, _, a4, _⟩ := j_start (v := n) Rs h.1 h4 hb0 (by omega)
          rw [qb] at a1
          rw [Option.some.inj a1]
          exact ((fr_x3 a4).ref (by decide) Rs).at 0 6 30 rfl
        rw [this, he, obs]
    have em : ∀ τ : Mem, τ 113 = σ 113 → f_X12_terms 113 n τ = mTerms (rf2 τ) n := by
      intro τ ht
      have e8 : rf2 τ 113 8 = σ 113 8 := by unfold rf2; rw [upm_app, if_neg (by decide), upm_app, if_neg (by decide), ht]
      unfold f_X12_terms f_X12_terms_b0 f_X12_starts f_X12_starts_b0 mTerms
      simp only [oM, if_true, gM, pM, obs, rf2_e, e8]
      rw [if_neg (by omega), if_neg (by omega), if_pos (by omega)]
      unfold st4
      cases f_X12_advance 113 (upm (upm (upm (upm (rf2 τ) 113 9 n) 113 8 0) 113 16 0) 113 12 0) with
      | none => rfl
      | some r => rfl
    have b2 : ∀ σ', Fr [0, 5] s σ' → Fr [0, 1, 4, 5, 7] σ σ' := fun σ' f => (fs.mono (by decide)).trans (f.mono (by decide))
    rcases j_terms (n := n) Rs h.1 h4 hb0 (by omega) hw r62 with ⟨σ', τd, Sd, kd, md, a1, _, _, ad, ac, a0, a5, _, _⟩ | ⟨σ', τd, a1, _, _, a5, _, _⟩
    · have R' := a5.ref (by decide) Rs
      have R2 : Ref (upm σ' 0 19 0) := R'.up rfl
      have hs31 : ∀ b j, 31 ≤ b → b ≤ 36 → upm σ' 0 19 0 b j = σ' b j := fun b j q1 q2 => upm_o (by omega)
      obtain ⟨σ4, c1, _, c3⟩ := x_tcopy (a := 14) (c := 31) t14 t31 (by omega) R2 (mkT ad ac a0 hs31)
      have f4 : Fr [0, 1, 4, 5, 7] σ σ4 := by
        refine Fr.trans ((b2 _ a5).then (show gid 0 19 ∈ _ by decide)) (Fp.mono c3 fun b j r => ?_)
        unfold gs; rw [gid_tS r]; decide
      have R4 := f4.ref (by decide) h.1
      have hi := f4.hi (by decide)
      have f4o : ∀ b j, ¬ (14 ≤ b ∧ b ≤ 19) → σ4 b j = upm σ' 0 19 0 b j := fun b j hb => c3 b j (fun r => by obtain ⟨r1, r2, _⟩ := r; omega)
      have exf : f_X11_terms 0 n σ = some (σ4 14 1, σ4) := by
        rw [ex 1 σ' a1 R', if_neg (by decide)]
        unfold f_X11_terms_b63
        rw [s_ref0, obs]
        dsimp only
        rw [if_pos rfl, gX, obs, gX, obs, R2.at 0 4 14 rfl, R2.at 0 6 30 rfl, gTr, obs, R2.at 30 2 31 rfl, show f_X5_copyFrom 14 31 (upm σ' 0 19 0) = some σ4 from c1, obs, gX, obs, R4.at 0 4 14 rfl, show gf Sh σ4 5 14 1 = some (σ4 14 1) from gTm t14, obs]
      have Rr : Ref (rf2 σ4) := (R4.up rfl).up rfl
      have rr : ∀ b, ¬ b = 113 → rf2 σ4 b = σ4 b := fun b hb => by unfold rf2; rw [upm_ne hb, upm_ne hb]
      have hr8 : rf2 σ4 118 = σ 118 := by rw [rr 118 (by decide), hi 118 (by omega)]
      have hr0 : rf2 σ4 120 = σ 120 := by rw [rr 120 (by decide), hi 120 (by omega)]
      rcases j_terms (s := s) (τ := rf2 σ4) (n := n) Rs Rr h4 (fun i hi2 => by rw [rr 117 (by decide), hi 117 (by omega)]; exact hb0 i hi2) (by omega) (by rw [hr8, hr0]; exact hw) (by rw [hr8]; exact r62) with ⟨σx, τ', S, k, m, d1, d2, d3, d4, dc, dz, _, d6, d7⟩ | ⟨σx, τ', d1, _⟩
      · have es : σx = σ' := by rw [a1] at d1; exact (Prod.mk.inj (Option.some.inj d1)).2.symm
        subst es
        obtain ⟨σy, y1, y2, _⟩ := x_tcopy (a := 14) (c := 31) t14 t31 (by omega) R2 (mkT d4 dc dz hs31)
        have ey : σy = σ4 := by rw [c1] at y1; exact (Option.some.inj y1).symm
        subst ey
        have S30 := d4.2.1.2.2
        have t25 : τ' 113 25 = S := d4.2.1.2.1
        have Rt : Ref τ' := d4.1.2.1
        have Rw : Ref (upm (upm (upm (upm τ' 113 10 0) 113 11 (-1)) 118 55 1) 118 56 (S : Int)) := (((Rt.up rfl).up rfl).up (isRf_cell rfl)).up (isRf_cell rfl)
        have w25 : upm (upm (upm (upm τ' 113 10 0) 113 11 (-1)) 118 55 1) 118 56 (S : Int) 113 25 = S := by
          rw [upm_o (by decide), upm_o (by decide), upm_app, if_neg (by decide), upm_app, if_neg (by decide), t25]
        have e := m_tcopy Rw w25 S30
        have w8 : ∀ j, upm (upm (upm (upm τ' 113 10 0) 113 11 (-1)) 118 55 1) 118 56 (S : Int) 118 j = if j = 56 then (S : Int) else if j = 55 then 1 else τ' 118 j := fun j => by
          rw [upm_app, upm_app, upm_o (by decide), upm_o (by decide)]
          simp only [true_and]
        have f5 : Fr [11, 14, 15, 17, 20] σy (upm (upm (upm (upm τ' 113 10 0) 113 11 (-1)) 118 55 1) 118 56 (S : Int)) := ((((Fr.trans (Fr.mono (fr_rf (v := 0)) (by decide)) (d6.mono (by decide))).then (show gid 113 10 ∈ _ by decide)).then (by decide)).then (by decide)).then (by decide)
        generalize hW : upm (upm (upm (upm τ' 113 10 0) 113 11 (-1)) 118 55 1) 118 56 (S : Int) = τw at *
        generalize hZ : setc τw 118 (cpT (τw 118) (9 * S)) = σz at *
        have z8 : ∀ j, σz 118 j = if 57 ≤ j ∧ j < 57 + 9 * S then τw 118 (1308 + j) else τw 118 j := fun j => by rw [← hZ, setc_same]; rfl
        have z_o : ∀ b, ¬ b = 118 → σz b = τw b := fun b hb => by rw [← hZ, setc_ne hb]
        have z113 : ∀ j, σz 113 j = upm (upm τ' 113 10 0) 113 11 (-1) 113 j := fun j => by rw [z_o 113 (by decide), ← hW, upm_o (by decide), upm_o (by decide)]
        have f6 : Fr [11, 14, 15, 17, 20] σy σz := by
          rw [← hZ]
          refine f5.trans (fr_setcA (a := 118) fun j hj => ?_)
          unfold cpT at hj
          rw [gid118]
          by_cases r : 57 ≤ j ∧ j < 57 + 9 * S
          · rw [if_neg (by omega), if_pos (by omega)]; decide
          · rw [if_neg r] at hj; exact absurd rfl hj
        have Rz := f6.ref (by decide) R4
        have lo := f6.lo (by decide)
        have hx3 : ∀ j, σy 3 j = σx 3 j := fun j => by rw [f4o 3 j (by omega), upm_o (by decide)]
        have h00 : ∀ j, ¬ j = 19 → σy 0 j = σx 0 j := fun j hj => by rw [f4o 0 j (by omega), upm_app, if_neg (by omega)]
        have x16 : σx 0 16 = 0 := by rw [a5 0 16 (by unfold gs; decide), s16]
        have x19 : σy 0 19 = 0 := by rw [f4o 0 19 (by omega), upm_same]
        have ret : σy 14 1 = S := by rw [y2.2.2.1]; rfl
        refine ⟨_, σy, σz, exf, ?_, h.step [0, 1, 4, 5, 7, 11, 14, 15, 17, 20] ((f4.mono (by decide)).trans (f6.mono (by decide))) (by decide) ?_ (fun q => absurd q (by decide)) (fun q => absurd q (by decide)) (fun _ => ?_) (fun _ => ?_) (fun q => absurd q (by decide)) (fun _ => ?_) (fun q => absurd q (by decide)) (fun q => absurd q (by decide))⟩
        · rw [em σy (hi 113 (by omega)), d2]
          unfold f_X12_terms_b50
          have Rv : Ref (upm (upm τ' 113 10 0) 113 11 (-1)) := (Rt.up rfl).up rfl
          have Ru : Ref (upm (upm (upm τ' 113 10 0) 113 11 (-1)) 118 55 1) := Rv.up (isRf_cell rfl)
          have u25 : upm (upm (upm τ' 113 10 0) 113 11 (-1)) 118 55 1 113 25 = S := by
            rw [upm_o (by decide), upm_app, if_neg (by decide), upm_app, if_neg (by decide), t25]
          rw [m_isWell0 d3.2.2, obs]
          dsimp only
          rw [if_neg (by decide), gM, obs, Rv.at 113 20 118 rfl, stC (by omega) (by omega), obs, gM, obs, gM, obs, show Int.toNat 55 = 55 from rfl, Ru.at 113 20 118 rfl, u25, stC (by omega) (by omega), obs, show Int.toNat 56 = 56 from rfl, hW, e, ret]
        · rw [lo 0 (by omega), x19, z113, upm_app, if_neg (by decide), upm_app, if_neg (by decide), d6 113 0 (by unfold gs; decide)]
          rfl
        · have z8' : σz 113 8 = 0 := by rw [z113, upm_app, if_neg (by decide), upm_app, if_neg (by decide), d7.1]
          refine ⟨⟨by rw [lo 0 (by omega), h00 16 (by decide), x16, z8'], by rw [z8']; decide, by rw [z8']; decide⟩, fun k hk => ?_⟩
          obtain ⟨w1, w2⟩ := d3.1.2.2.2.2 k hk
          have z7 : σz 117 k = τ' 117 k := by rw [z_o 117 (by decide), ← hW, upm_o (by decide), upm_o (by decide), upm_o (by decide), upm_o (by decide)]
          have z2 : σz 2 k = s 2 k := by rw [lo 2 (by omega), f4o 2 k (by omega), upm_o (by decide), a5 2 k (by unfold gs; rw [show gid 2 k = 4 by unfold gid; rw [show isRf 2 k = false from isRf_cell rfl]; rfl]; decide)]
          rw [z7, z2, w1]
          exact ⟨rfl, w2⟩
        · obtain ⟨u1, u2⟩ := d3.1.1.2.2.2.2.2.2
          refine ⟨?_, ?_⟩
          · rw [lo 3 (by omega), hx3, u1, z113, upm_app, if_neg (by decide), upm_same]
          · rw [lo 3 (by omega), hx3, u2, z113, upm_same]
        · obtain ⟨t1, t2, t3, t4, t5, mm, t6⟩ := y2
          have b55 : σz 118 55 = 1 := by rw [z8, if_neg (by omega), w8]; rfl
          have b56 : σz 118 56 = S := by rw [z8, if_neg (by omega), w8]; rfl
          have bl : ∀ j, j < 55 → σz 118 j = τ' 118 j := fun j hj => by rw [z8, if_neg (by omega), w8, if_neg (by omega), if_neg (by omega)]
          refine ⟨by rw [lo 14 (by omega), b55]; exact t1, .inr b55, by rw [lo 14 (by omega), b56]; exact t3, by rw [b56]; omega, by rw [lo 14 (by omega)]; exact t5, mm, ?_⟩
          rw [b56, lo 14 (by omega), Int.toNat_natCast]
          have t6 : Cd σy 14 (Bf τ' S) mm 3 0 S 0 (σy 14 2).toNat := t6
          refine Cd.mv (N := S) (M := (σy 14 2).toNat) (fun i j q1 q2 _ => by rw [lo _ (by omega)]) ?_ ?_ (fun j q1 q2 => ?_) _ _ _ _ _ _ (Nat.le_refl _) (Nat.le_refl _) t6
          · rw [bl 0 (by omega)]; rfl
          · rw [bl 1 (by omega)]; rfl
          · rw [z8, if_pos ⟨q1, q2⟩, w8, if_neg (by omega), if_neg (by omega)]
            unfold Bf Bt blk
            rw [if_neg (by omega), if_neg (by omega), if_neg (by omega)]
      · rw [a1] at d1; cases (Prod.mk.inj (Option.some.inj d1)).1
    · have R' := a5.ref (by decide) Rs
      have f4 : Fr [0, 1, 4, 5, 7] σ (upm σ' 0 19 10) := (b2 _ a5).then (show gid 0 19 ∈ _ by decide)
      have R4 := f4.ref (by decide) h.1
      have hi := f4.hi (by decide)
      have exf : f_X11_terms 0 n σ = some (-1, upm σ' 0 19 10) := by
        rw [ex 0 σ' a1 R', if_pos rfl]
        unfold f_X11_terms_b63
        rw [s_refn (by decide), obs]
        rfl
      have Rr : Ref (rf2 (upm σ' 0 19 10)) := (R4.up rfl).up rfl
      have rr : ∀ b, ¬ b = 113 → rf2 (upm σ' 0 19 10) b = upm σ' 0 19 10 b := fun b hb => by unfold rf2; rw [upm_ne hb, upm_ne hb]
      have hr8 : rf2 (upm σ' 0 19 10) 118 = σ 118 := by rw [rr 118 (by decide), hi 118 (by omega)]
      have hr0 : rf2 (upm σ' 0 19 10) 120 = σ 120 := by rw [rr 120 (by decide), hi 120 (by omega)]
      rcases j_terms (s := s) (τ := rf2 (upm σ' 0 19 10)) (n := n) Rs Rr h4 (fun i hi2 => by rw [rr 117 (by decide), hi 117 (by omega)]; exact hb0 i hi2) (by omega) (by rw [hr8, hr0]; exact hw) (by rw [hr8]; exact r62) with ⟨σx, τ', _, _, _, d1, _⟩ | ⟨σx, τ', d1, d2, d3, d5, d6, d7⟩
      · rw [a1] at d1; cases (Prod.mk.inj (Option.some.inj d1)).1
      · have es : σx = σ' := by rw [a1] at d1; exact (Prod.mk.inj (Option.some.inj d1)).2.symm
        subst es
        have f0 : Fr [0, 1, 4, 5] σ (upm σx 0 19 10) := ((fs.mono (by decide)).trans (a5.mono (by decide))).then (by decide)
        have f6 : Fr [11, 14, 15, 20] (upm σx 0 19 10) (upm (upm (upm τ' 113 10 (τ' 113 12)) 113 11 (τ' 113 13)) 113 0 10) := (((Fr.trans (Fr.mono (fr_rf (v := 0)) (by decide)) (d6.mono (by decide))).then (show gid 113 10 ∈ _ by decide)).then (by decide)).then (by decide)
        have lo := f6.lo (by decide)
        generalize hZ : upm (upm (upm τ' 113 10 (τ' 113 12)) 113 11 (τ' 113 13)) 113 0 10 = σz at *
        refine ⟨_, upm σx 0 19 10, σz, exf, ?_, h.step [0, 1, 4, 5, 11, 14, 15, 20] ((f0.mono (by decide)).trans (f6.mono (by decide))) (by decide) ?_ (fun q => absurd q (by decide)) (fun q => absurd q (by decide)) (fun _ => ?_) (fun _ => ?_) (fun q => absurd q (by decide)) (fun q => absurd q (by decide)) (fun q => absurd q (by decide)) (fun q => absurd q (by decide))⟩
        · rw [em _ (hi 113 (by omega)), d2]
          unfold f_X12_terms_b50
          rw [m_isWell1 d3.2.2, obs, hZ]
          rfl
        · rw [lo 0 (by omega), upm_same, ← hZ, upm_same]
        · have z8 : σz 113 8 = 0 := by rw [← hZ, upm_app, if_neg (by decide), upm_app, if_neg (by decide), upm_app, if_neg (by decide), d7.1]
          refine ⟨⟨by rw [lo 0 (by omega), upm_app, if_neg (by decide), a5 0 16 (by unfold gs; decide), s16, z8], by rw [z8]; decide, by rw [z8]; decide⟩, fun k hk => ?_⟩
          have z7 : σz 117 k = σ 117 k := by rw [← hZ, upm_o (by decide), upm_o (by decide), upm_o (by decide), d7.2, rr 117 (by decide), hi 117 (by omega)]
          have z2 : σz 2 k = s 2 k := by rw [lo 2 (by omega), upm_o (by decide), a5 2 k (by unfold gs; rw [show gid 2 k = 4 by unfold gid; rw [show isRf 2 k = false from isRf_cell rfl]; rfl]; decide)]
          rw [z7, z2]
          exact hb0 k hk
        · refine ⟨?_, ?_⟩
          · rw [lo 3 (by omega), upm_o (by decide), d3.1, ← hZ, upm_app, if_neg (by decide), upm_app, if_neg (by decide), upm_same]
          · rw [lo 3 (by omega), upm_o (by decide), d3.2.1, ← hZ, upm_app, if_neg (by decide), upm_same]
  · refine Ok.mk (r := -1) (y := 5) h (XO.mk ?_) fun τ ht hg => MO.mkr ?_
    · have e20 : f_X11_terms_b25 0 v 5 0 σ = some (-1, upm σ 0 19 5) := by
        unfold f_X11_terms_b25
        rw [s_refn (by decide), obs]
        rfl
      unfold f_X11_terms f_X11_terms_b0 f_X11_terms_b20
      rw [if_pos oX, e20, gX, obs, g1]
      by_cases z : v < 0
      · rw [if_pos z]
      · rw [if_neg z]
        by_cases z2 : σ 113 8 < v
        · rw [if_pos z2]
        · rw [if_neg z2, if_neg (by omega)]
    · have e8 : rf2 τ 113 8 = σ 113 8 := by unfold rf2; rw [upm_app, if_neg (by decide), upm_app, if_neg (by decide), hg 113 (by omega)]
      have e17 : f_X12_starts_b17 113 (rf2 τ) = some (0, upm (rf2 τ) 113 0 5) := by
        unfold f_X12_starts_b17
        rw [s_no, obs]
        rfl
      unfold f_X12_terms f_X12_terms_b0 f_X12_starts f_X12_starts_b0
      simp only [oM, if_true, gM, pM, obs, rf2_e, e8, e17]
      by_cases z : v < 0
      · rw [if_pos z, obs]; rfl
      · rw [if_neg z]
        by_cases z2 : σ 113 8 < v
        · rw [if_pos z2, obs]; rfl
        · rw [if_neg z2, if_neg (by omega), obs]; rfl
end
