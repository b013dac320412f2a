/-! ===== TERMS lived: STEPS and TESTS, both sides ===== -/
section
variable {σ0 σ σ' τ : Mem} {L aw : Nat} {B0 B B' D V V' : Nat → Int}
theorem Dn.skip {fx fm : Mem → Option (Int × Mem)} (x : XA σ0 σ L aw B0 D B) (v : VA σ L τ B0 B V) (e1 : fx σ = some (0, σ)) (e2 : fm (mm τ B V) = some (0, mm τ B V)) : Dn σ0 σ L aw B0 D τ B V fx fm := ⟨0, σ, B, V, e1, e2, .inl rfl, x, v, fun _ _ _ => rfl, fun _ => rfl⟩
theorem Dn.of {fx fm gx gm : Mem → Option (Int × Mem)} (d : Dn σ0 σ L aw B0 D τ B V fx fm) (e1 : gx σ = fx σ) (e2 : gm (mm τ B V) = fm (mm τ B V)) : Dn σ0 σ L aw B0 D τ B V gx gm := by
  obtain ⟨ok, σ', B', V', h1, h2, h3⟩ := d
  exact ⟨ok, σ', B', V', by rw [e1, h1], by rw [e2, h2], h3⟩
theorem D_cut {p : Nat} {l : Int} (h : ll L aw) (hR : Ref τ) (x : XA σ0 σ L aw B0 D B) (v : VA σ L τ B0 B V) (hp : p < nP B) (hl : 0 ≤ l ∧ l ≤ 30) : Dn σ0 σ L aw B0 D τ B V (f_X4_reshapes L p l) (f_X12_isCut 113 p l) := by
  have hB := x.2.2.2.1
  have hn := hB.nP_le
  have hm := mm_MH hR hB v.1
  obtain ⟨r0, r1, r2⟩ := rLL x.2.1 h
  have rw1 := rW x.2.1 h.wl
  by_cases s : stn B p = true
  · have w1 := x.2.2.1.arr (k := 1) (v := l) hB (by omega) hp s
    have hB1 : BV (up1 B (7 + 10 * 1 + p) l) := BV_ar (k := 1) hB (by omega) (by omega) hl (by omega) (by omega)
    have s1 : stn (up1 B (7 + 10 * 1 + p) l) p = true := by rw [stn_up (by omega)]; exact s
    have w2 := w1.arr (k := 2) (v := 0) hB1 (by omega) (by rw [nP_up (by omega)]; exact hp) s1
    have hB2 : BV (up1 (up1 B (7 + 10 * 1 + p) l) (7 + 10 * 2 + p) 0) := BV_ar (k := 2) hB1 (by omega) (by omega) (by omega) (by omega) (by omega)
    have f1 : Fp (wS aw) σ (upm σ (aw + 1) p l) := wfp h.wl (by omega) (by omega)
    have hR1 := f1.refW x.2.1
    obtain ⟨q0, q1, q2⟩ := rLL hR1 h
    refine Dn.wall (ok := 1) (B' := up1 (up1 B (7 + 10 * 1 + p) l) (7 + 10 * 2 + p) 0) (σ' := upm (upm σ (aw + 1) p l) (aw + 2) p 0) h x v ?_ ?_ (.inr rfl) (f1.trans (wfp h.wl (by omega) (by omega))) w2 hB2 (by rw [up1_ne (by omega), up1_ne (by omega)]) (by rw [up1_ne (by omega), up1_ne (by omega)]) (by rw [up1_ne (by omega), up1_ne (by omega)]) (fun j hj => by rw [up1_ne (by omega), up1_ne (by omega)])
    · unfold f_X4_reshapes f_X4_reshapes_b0
      simp only [oLL h, if_true, gLL h, obs, r1, x_isStone' h.wl x.2.2.1 hB hp, s, Int.one_ne_zero, if_false, gW h.wl, rw1.1]
      rw [stW1 h.wl (by omega) (by omega)]
      simp only [obs, Int.toNat_natCast, gLL h, q1, gW h.wl, (rW hR1 h.wl).2.1]
      rw [stW2 h.wl (by omega) (by omega)]
      simp only [obs, Int.toNat_natCast]
    · unfold f_X12_isCut f_X12_isCut_b0
      simp only [oM, if_true, m_stone' hm (show p < 1000 by omega), obs, s, Int.one_ne_zero, if_false, gM, hm.1.at 113 20 118 rfl]
      rw [w32_in (by omega) (by omega), stC (by omega) (by omega), obs, show upm (mm τ B V) 118 (17 + (p : Int)).toNat l = mm τ (up1 B (17 + p) l) V by rw [upm_setc, mm_b, mm_118, show (17 + (p : Int)).toNat = 17 + p by omega]]
      have hm1 : MH (mm τ (up1 B (17 + p) l) V) (up1 B (17 + p) l) := mm_MH hR (by rw [show 17 + p = 7 + 10 * 1 + p by omega]; exact hB1) v.1
      rw [hm1.1.at 113 20 118 rfl, w32_in (by omega) (by omega), stC (by omega) (by omega), obs, upm_setc, mm_b, mm_118, show (27 + (p : Int)).toNat = 27 + p by omega, show 7 + 10 * 1 + p = 17 + p by omega, show 7 + 10 * 2 + p = 27 + p by omega]
  · refine Dn.skip x v ?_ ?_
    · unfold f_X4_reshapes f_X4_reshapes_b0
      simp only [oLL h, if_true, gLL h, obs, r1, x_isStone' h.wl x.2.2.1 hB hp, s, if_false, Bool.false_eq_true]
    · unfold f_X12_isCut f_X12_isCut_b0
      simp only [oM, if_true, m_stone' hm (show p < 1000 by omega), obs, s, if_false, Bool.false_eq_true]
theorem D_clear {p : Nat} (h : ll L aw) (hR : Ref τ) (x : XA σ0 σ L aw B0 D B) (v : VA σ L τ B0 B V) (hp : p < nP B) : Dn σ0 σ L aw B0 D τ B V (f_X4_clears L p) (f_X12_clears 113 p) := by
  have hB := x.2.2.2.1
  have hn := hB.nP_le
  have hm := mm_MH hR hB v.1
  obtain ⟨r0, r1, r2⟩ := rLL x.2.1 h
  have rw1 := rW x.2.1 h.wl
  have me := m_clears hm (show p < 10 by omega)
  by_cases s : stn B p = true
  · have e27 : σ (aw + 2) p = B (27 + p) := ((x.2.2.1.2.1 p hp).1 s).2.1
    by_cases z : B (27 + p) = 0
    · refine Dn.skip x v ?_ (by rw [me, if_neg (fun q => q.2 z)])
      unfold f_X4_clears f_X4_clears_b0
      simp only [oLL h, if_true, gLL h, obs, r1, x_isStone' h.wl x.2.2.1 hB hp, s, Int.one_ne_zero, if_false, gW h.wl, rw1.2.1]
      rw [alW2 h.wl (by omega) (by omega), obs, Int.toNat_natCast, e27, if_pos z]
    · have w1 := x.2.2.1.arr (k := 2) (v := 0) hB (by omega) hp s
      have hB1 : BV (up1 B (7 + 10 * 2 + p) 0) := BV_ar (k := 2) hB (by omega) (by omega) (by omega) (by omega) (by omega)
      refine Dn.wall (ok := 1) (B' := up1 B (7 + 10 * 2 + p) 0) (σ' := upm σ (aw + 2) p 0) h x v ?_ ?_ (.inr rfl) (wfp h.wl (by omega) (by omega)) w1 hB1 (by rw [up1_ne (by omega)]) (by rw [up1_ne (by omega)]) (by rw [up1_ne (by omega)]) (fun j hj => by rw [up1_ne (by omega)])
      · unfold f_X4_clears f_X4_clears_b0
        simp only [oLL h, if_true, gLL h, obs, r1, x_isStone' h.wl x.2.2.1 hB hp, s, Int.one_ne_zero, if_false, gW h.wl, rw1.2.1]
        rw [alW2 h.wl (by omega) (by omega), obs, Int.toNat_natCast, e27, if_neg z, stW2 h.wl (by omega) (by omega), obs, Int.toNat_natCast]
      · rw [me, if_pos ⟨s, z⟩, mm_118, show 7 + 10 * 2 + p = 27 + p by omega]
  · refine Dn.skip x v ?_ (by rw [me, if_neg (fun q => s q.1)])
    unfold f_X4_clears f_X4_clears_b0
    simp only [oLL h, if_true, gLL h, obs, r1, x_isStone' h.wl x.2.2.1 hB hp, s, if_false, Bool.false_eq_true]
theorem D_fly {w p : Nat} (h : ll L aw) (hR : Ref τ) (x : XA σ0 σ L aw B0 D B) (v : VA σ L τ B0 B V) (hw : w < nK B) (hp : p < nP B) : Dn σ0 σ L aw B0 D τ B V (f_X4_flies L w p) (f_X12_flies 113 w p) := by
  have hB := x.2.2.2.1
  have hn := hB.nP_le
  have hk := hB.nK_le
  have hm := mm_MH hR hB v.1
  obtain ⟨r0, r1, r2⟩ := rLL x.2.1 h
  have rw1 := rW x.2.1 h.wl
  have me := m_flies hm (show w < 4 by omega) (show p < 10 by omega)
  have e47 : σ (aw + 6) w = B (47 + w) := (x.2.2.1.2.2.1 w hw).1
  have ec : f_X9_isCrow aw w σ = some 1 := by rw [x_isCrow h.wl x.2.2.1, if_pos (by omega)]
  by_cases s : stn B p = true
  · by_cases z : B (47 + w) = p
    · refine Dn.skip x v ?_ (by rw [me, if_neg (fun q => q.2 z)])
      unfold f_X4_flies f_X4_flies_b0
      simp only [oLL h, if_true, gLL h, obs, r1, ec, x_isStone' h.wl x.2.2.1 hB hp, s, Int.one_ne_zero, if_false, gW h.wl, rw1.2.2.2.2.2.1]
      rw [alW6 h.wl (by omega) (by omega), obs, Int.toNat_natCast, e47, if_pos z]
    · obtain ⟨σ1, g1, g2, g3⟩ := x_moveCrow h.wl x.2.1 x.2.2.1 hB hw hp
      refine Dn.wall (ok := 1) (B' := up1 B (47 + w) p) (σ' := σ1) h x v ?_ (by rw [me, if_pos ⟨s, z⟩, mm_118]) (.inr rfl) g3 g2 (BV_on hB hw hp s) (by rw [up1_ne (by omega)]) (by rw [up1_ne (by omega)]) (by rw [up1_ne (by omega)]) (fun j hj => by rw [up1_ne (by omega)])
      unfold f_X4_flies f_X4_flies_b0
      simp only [oLL h, if_true, gLL h, obs, r1, ec, x_isStone' h.wl x.2.2.1 hB hp, s, Int.one_ne_zero, if_false, gW h.wl, rw1.2.2.2.2.2.1]
      rw [alW6 h.wl (by omega) (by omega), obs, Int.toNat_natCast, e47, if_neg z, g1, obs]
  · refine Dn.skip x v ?_ (by rw [me, if_neg (fun q => s q.1)])
    unfold f_X4_flies f_X4_flies_b0
    simp only [oLL h, if_true, gLL h, obs, r1, ec, x_isStone' h.wl x.2.2.1 hB hp, s, if_false, Bool.false_eq_true, Int.one_ne_zero]
theorem XA.nP_pos (x : XA σ0 σ L aw B0 D B) (h0 : ¬ B 0 = 0) : 1 ≤ nP B := by
  have := x.2.2.2.1.nP_le
  omega
theorem D_any (h : ll L aw) (hR : Ref τ) (x : XA σ0 σ L aw B0 D B) (v : VA σ L τ B0 B V) : Dn σ0 σ L aw B0 D τ B V (f_X4_triesAny L) (f_X12_isAny 113) := by
  have hB := x.2.2.2.1
  have hn := hB.nP_le
  have hm := mm_MH hR hB v.1
  obtain ⟨r0, r1, r2⟩ := rLL x.2.1 h
  by_cases z : B 0 = 0
  · refine Dn.skip x v ?_ ?_
    · unfold f_X4_triesAny f_X4_triesAny_b0
      simp only [oLL h, if_true, gLL h, obs, r1, gW h.wl, x.2.2.1.1.1]
      rw [if_pos z]
    · unfold f_X12_isAny f_X12_isAny_b0
      simp only [oM, if_true, gM, obs, hm.1.at 113 20 118 rfl, m_c0 hm]
      rw [if_pos (by omega)]
  · have np := x.nP_pos z
    obtain ⟨d1, z1, l1, a1, b1, c1⟩ := x_draw (n := 16) h (by omega) x v
    have x1 : XA σ0 (upm σ L 3 z1) L aw B0 D B := x.reg h (by omega)
    have v1 := v.draw c1
    obtain ⟨d2, z2, l2, a2, b2, c2⟩ := x_draw (n := 40) h (by omega) x1 v1
    have x2 : XA σ0 (upm (upm σ L 3 z1) L 3 z2) L aw B0 D B := x1.reg h (by omega)
    have v2 := v1.draw c2
    obtain ⟨d3, z3, l3, a3, b3, c3⟩ := x_draw (n := nP B) h (by omega) x2 v2
    have x3 : XA σ0 (upm (upm (upm σ L 3 z1) L 3 z2) L 3 z3) L aw B0 D B := x2.reg h (by omega)
    have v3 := v2.draw c3
    obtain ⟨q0, q1, q2⟩ := rLL x1.2.1 h
    obtain ⟨p0, p1, p2⟩ := rLL x2.2.1 h
    have hm1 := mm_MH hR hB v1.1
    have hm2 := mm_MH hR hB v2.1
    have key : ∀ d : Int, d = 0 ∨ d = 1 → Dn σ0 σ L aw B0 D τ B V (fun _ => f_X4_triesAny_b33 L d (upm σ L 3 z1)) (fun _ => f_X12_isAny_b31 113 d (mm τ B (up1 V 38 z1))) := by
      intro d hd
      obtain ⟨ok, σ', B', V', e1, e2, e3, e4, e5, e6, e7⟩ := D_try (g := (d2 : Int)) (d := d) (p := d3) h hR x3 v3 l3
      refine ⟨ok, σ', B', V', ?_, ?_, e3, e4, e5, fun j h1 h2 => ?_, fun j => ?_⟩
      · unfold f_X4_triesAny_b33
        rw [show f_X4_draw (L : Int) 40 (upm σ L 3 z1) = _ from a2, obs]
        simp only [gLL h, obs, p1, gW h.wl, x2.2.2.1.1.1]
        rw [← hn.2, a3, obs]
        exact e1
      · unfold f_X12_isAny_b31
        rw [show f_X12_draw 113 40 (mm τ B (up1 V 38 z1)) = _ from b2, obs]
        simp only [gM, obs, hm2.1.at 113 20 118 rfl, m_c0 hm2, b3]
        rw [show f_X12_tries 113 (d2 : Int) (d3 : Int) d (mm τ B (up1 (up1 (up1 V 38 z1) 38 z2) 38 z3)) = _ from e2, obs]
        rcases e3 with q | q <;> rw [q] <;> rfl
      · rw [e6 j h1 h2, up1_ne h1, up1_ne h1, up1_ne h1]
      · rw [e7 j, upm_o (by omega), upm_o (by omega), upm_o (by omega)]
    by_cases c : B 2 ≤ d1
    · refine (key 0 (.inl rfl)).of ?_ ?_
      · unfold f_X4_triesAny f_X4_triesAny_b0
        simp only [oLL h, if_true, gLL h, obs, r1, gW h.wl, x.2.2.1.1.1]
        rw [if_neg z, show f_X4_draw (L : Int) 16 σ = _ from a1, obs]
        simp only [gLL h, obs, q1, gW h.wl, x1.2.2.1.1.2.2.2.1]
        rw [if_pos c]
      · unfold f_X12_isAny f_X12_isAny_b0
        simp only [oM, if_true, gM, obs, hm.1.at 113 20 118 rfl, m_c0 hm]
        rw [if_neg (by omega), show f_X12_draw 113 16 (mm τ B V) = _ from b1, obs]
        simp only [gM, obs, hm1.1.at 113 20 118 rfl]
        rw [alC (by omega) (by omega), obs, mm_b, show Int.toNat 2 = 2 from rfl, if_pos c]
    · refine (key 1 (.inr rfl)).of ?_ ?_
      · unfold f_X4_triesAny f_X4_triesAny_b0
        simp only [oLL h, if_true, gLL h, obs, r1, gW h.wl, x.2.2.1.1.1]
        rw [if_neg z, show f_X4_draw (L : Int) 16 σ = _ from a1, obs]
        simp only [gLL h, obs, q1, gW h.wl, x1.2.2.1.1.2.2.2.1]
        rw [if_neg c]
      · unfold f_X12_isAny f_X12_isAny_b0
        simp only [oM, if_true, gM, obs, hm.1.at 113 20 118 rfl, m_c0 hm]
        rw [if_neg (by omega), show f_X12_draw 113 16 (mm τ B V) = _ from b1, obs]
        simp only [gM, obs, hm1.1.at 113 20 118 rfl]
        rw [alC (by omega) (by omega), obs, mm_b, show Int.toNat 2 = 2 from rfl, if_neg c]
/-- the code read -/
theorem x_cdO {k f m : Nat} {kk : Int → Option (Int × Mem)} (h : ll L aw) (x : XA σ0 σ L aw B0 D B) (hk : k < 60) (h0 : 1 ≤ m) (h1 : m ≤ 5) (hf : f = m + 2) : ((gf Sh σ 4 L 0).bind fun a => (gf Sh σ 5 a f).bind fun b => (al Sh σ 20 b k).bind kk) = kk (σ0 (14 + m) k) := by
  obtain ⟨r0, r1, r2⟩ := rLL x.2.1 h
  obtain ⟨t3, t4, t5, t6, t7⟩ := rTm x.2.1 t14
  have e : σ 14 f = ((14 + m : Nat) : Int) := by
    rcases (show m = 1 ∨ m = 2 ∨ m = 3 ∨ m = 4 ∨ m = 5 by omega) with rfl | rfl | rfl | rfl | rfl <;> subst hf
    · exact t3
    · exact t4
    · exact t5
    · exact t6
    · exact t7
  rw [gLL h, obs, r0, show gf Sh σ 5 14 f = some (σ 14 f) from gTm t14, obs, e, alTm t14 h0 h1 hk, obs, cdL h x h0 h1]
theorem x_cdI {k f m : Nat} {kk : Int → Option Int} (h : ll L aw) (x : XA σ0 σ L aw B0 D B) (hk : k < 60) (h0 : 1 ≤ m) (h1 : m ≤ 5) (hf : f = m + 2) : ((gf Sh σ 4 L 0).bind fun a => (gf Sh σ 5 a f).bind fun b => (al Sh σ 20 b k).bind kk) = kk (σ0 (14 + m) k) := by
  obtain ⟨r0, r1, r2⟩ := rLL x.2.1 h
  obtain ⟨t3, t4, t5, t6, t7⟩ := rTm x.2.1 t14
  have e : σ 14 f = ((14 + m : Nat) : Int) := by
    rcases (show m = 1 ∨ m = 2 ∨ m = 3 ∨ m = 4 ∨ m = 5 by omega) with rfl | rfl | rfl | rfl | rfl <;> subst hf
    · exact t3
    · exact t4
    · exact t5
    · exact t6
    · exact t7
  rw [gLL h, obs, r0, show gf Sh σ 5 14 f = some (σ 14 f) from gTm t14, obs, e, alTm t14 h0 h1 hk, obs, cdL h x h0 h1]
theorem m_cd {i s : Nat} (x : XA σ0 σ L aw B0 D B) (hs : s < 30) (hi : i ≤ 8) : al Sh (mm τ B V) 20 118 ((57 + 9 * s + i : Nat) : Int) = some (B0 (57 + 9 * s + i)) := by
  rw [alC (by omega) (by omega), Int.toNat_natCast, mm_b, x.2.2.2.2.2.2.2.1 _ (by omega)]
theorem bz_ok {ok : Int} (h : ok = 0 ∨ ok = 1) : bz ok = some ok := by rcases h with rfl | rfl <;> rfl
theorem Dn.bzz {fx fm gx gm : Mem → Option (Int × Mem)} (d : Dn σ0 σ L aw B0 D τ B V fx fm) (e1 : gx σ = (fx σ).bind fun r => (bz r.1).bind fun _ => some (r.1, r.2)) (e2 : gm (mm τ B V) = (fm (mm τ B V)).bind fun r => (bz r.1).bind fun _ => some (r.1, r.2)) : Dn σ0 σ L aw B0 D τ B V gx gm := by
  obtain ⟨ok, σ', B', V', h1, h2, h3, h4⟩ := d
  refine ⟨ok, σ', B', V', ?_, ?_, h3, h4⟩
  · rw [e1, h1, obs]; dsimp only; rw [bz_ok h3, obs]
  · rw [e2, h2, obs]; dsimp only; rw [bz_ok h3, obs]
theorem Dn.bm {fx fm gx gm : Mem → Option (Int × Mem)} (d : Dn σ0 σ L aw B0 D τ B V fx fm) (e1 : gx σ = fx σ) (e2 : gm (mm τ B V) = (fm (mm τ B V)).bind fun r => (bz r.1).bind fun _ => some (r.1, r.2)) : Dn σ0 σ L aw B0 D τ B V gx gm := by
  obtain ⟨ok, σ', B', V', h1, h2, h3, h4⟩ := d
  refine ⟨ok, σ', B', V', by rw [e1, h1], ?_, h3, h4⟩
  rw [e2, h2, obs]; dsimp only; rw [bz_ok h3, obs]
end
