/-! ===== live ===== -/
section
variable {σ0 σ σ1 σ' τ : Mem} {L aw : Nat} {B0 B B' D V V' : Nat → Int}
theorem x_seeds {v n : Int} (h : Rel σ) (hn : 1 ≤ n ∧ n ≤ 20 ∨ ¬ (1 ≤ n ∧ n ≤ 20)) : f_X11_seedsWhy 0 v n σ = some (if ¬ (0 ≤ v ∧ (1 ≤ n ∧ n ≤ 20) ∧ v ≤ 10000 - n) then 5 else if σ 118 55 = 0 then 8 else 0) := by
  have e : σ 14 0 = σ 118 55 := h.r7.1
  unfold f_X11_seedsWhy f_X11_seedsWhy_b0
  simp only [oX, if_true, gX, obs, h.1.at 0 4 14 rfl, show gf Sh σ 5 14 0 = some (σ 14 0) from gTm t14, e]
  rcases hn with hn | hn
  · rw [w32_in (z := 9999 - n) (by omega) (by omega), w32_in (by omega) (by omega)]
    grind
  · grind
theorem gid_lS {b j : Nat} (h : lS 40 5 b j) : gid b j ∈ [0, 1, 6, 9] := by
  rcases h with h | ⟨rfl, h1, h2⟩ | rfl
  · rw [gid_wS h]; decide
  · rcases (show j = 3 ∨ j = 4 ∨ j = 5 ∨ j = 6 ∨ j = 7 ∨ j = 8 ∨ j = 9 by omega) with rfl | rfl | rfl | rfl | rfl | rfl | rfl <;> decide
  · rw [show gid (40 + 1) j = 0 by unfold gid; rw [show isRf (40 + 1) j = false from isRf_cell rfl]; rfl]
    decide
theorem gid_l51 {b j : Nat} (h : lS 51 42 b j) : gid b j = 0 := by
  rcases h with h | ⟨rfl, h1, h2⟩ | rfl
  · exact gid_wS42 h
  · rcases (show j = 3 ∨ j = 4 ∨ j = 5 ∨ j = 6 ∨ j = 7 ∨ j = 8 ∨ j = 9 by omega) with rfl | rfl | rfl | rfl | rfl | rfl | rfl <;> rfl
  · unfold gid
    rw [show isRf 52 j = false from isRf_cell rfl]
    rfl
theorem gid113 {j : Nat} (h : 37 ≤ j ∧ j ≤ 44) : gid 113 j = 20 := by
  rcases (show j = 37 ∨ j = 38 ∨ j = 39 ∨ j = 40 ∨ j = 41 ∨ j = 42 ∨ j = 43 ∨ j = 44 by omega) with rfl | rfl | rfl | rfl | rfl | rfl | rfl | rfl <;> rfl
theorem fr_mm (h : MH τ B0) (h55 : ∀ j, 55 ≤ j → B' j = B0 j) (hV : ∀ j, ¬ (37 ≤ j ∧ j ≤ 44) → V' j = τ 113 j) : Fr [16, 20] τ (mm τ B' V') := by
  refine Fr.trans (fr_setcA (a := 118) fun j hj => ?_) (fr_setcA (a := 113) fun j hj => ?_)
  · rw [gid118]
    by_cases q : j < 55
    · rw [if_pos q]; decide
    · exact absurd (by rw [h55 j (by omega), h.2.1]) hj
  · rw [setc_ne (by decide)] at hj
    by_cases q : 37 ≤ j ∧ j ≤ 44
    · rw [gid113 q]; decide
    · exact absurd (hV j q) hj
theorem st127 {i : Nat} {v : Int} (h : i < 5) : st_ Sh σ 20 127 (i : Int) v = some (upm σ 127 i v) := by
  have : isA Sh 20 127 (i : Int) = true := isA_at (a := 127) rfl (by omega) (by omega)
  rw [st_at this, Int.toNat_natCast]
  rfl
/-- what the reference keeps of a life -/
def rec5 (σ : Mem) (B V : Nat → Int) : Mem := upm (upm (upm (upm (upm (upm σ 127 0 (V 40)) 127 1 (V 41)) 127 2 (w32 (B 5 - V 42))) 127 3 (w32 (B 6 - V 43))) 127 4 (V 44)) 113 36 1
theorem m_keep (hR : Ref τ) (hB : τ 118 = B) : ((gf Sh τ 12 113 35).bind fun x13 => (gf Sh τ 12 113 40).bind fun x14 => (st_ Sh τ 20 x13 0 x14).bind fun σ15 => (gf Sh σ15 12 113 35).bind fun x16 => (gf Sh σ15 12 113 41).bind fun x17 => (st_ Sh σ15 20 x16 1 x17).bind fun σ18 => (gf Sh σ18 12 113 35).bind fun x19 => (gf Sh σ18 12 113 20).bind fun x20 => (al Sh σ18 20 x20 5).bind fun x21 => (gf Sh σ18 12 113 42).bind fun x22 => (st_ Sh σ18 20 x19 2 (w32 (x21 - x22))).bind fun σ23 => (gf Sh σ23 12 113 35).bind fun x24 => (gf Sh σ23 12 113 20).bind fun x25 => (al Sh σ23 20 x25 6).bind fun x26 => (gf Sh σ23 12 113 43).bind fun x27 => (st_ Sh σ23 20 x24 3 (w32 (x26 - x27))).bind fun σ28 => (gf Sh σ28 12 113 35).bind fun x29 => (gf Sh σ28 12 113 44).bind fun x30 => (st_ Sh σ28 20 x29 4 x30).bind fun σ31 => (pf Sh σ31 12 113 36 1).bind fun σ32 => (gf Sh σ32 12 113 39).bind fun x33 => some (x33, σ32)) = some (τ 113 39, rec5 τ B (τ 113)) := by
  have e35 : τ 113 35 = 127 := hR.at 113 35 127 rfl
  have e20 : τ 113 20 = 118 := hR.at 113 20 118 rfl
  have s0 : ∀ {σ : Mem} {v : Int}, st_ Sh σ 20 127 0 v = some (upm σ 127 0 v) := st127 (i := 0) (by omega)
  have s1 : ∀ {σ : Mem} {v : Int}, st_ Sh σ 20 127 1 v = some (upm σ 127 1 v) := st127 (i := 1) (by omega)
  have s2 : ∀ {σ : Mem} {v : Int}, st_ Sh σ 20 127 2 v = some (upm σ 127 2 v) := st127 (i := 2) (by omega)
  have s3 : ∀ {σ : Mem} {v : Int}, st_ Sh σ 20 127 3 v = some (upm σ 127 3 v) := st127 (i := 3) (by omega)
  have s4 : ∀ {σ : Mem} {v : Int}, st_ Sh σ 20 127 4 v = some (upm σ 127 4 v) := st127 (i := 4) (by omega)
  have o : ∀ {σ : Mem} {i j : Nat} {v : Int}, upm σ 127 i v 113 j = σ 113 j := upm_o (by decide)
  have a5 : ∀ {σ : Mem}, al Sh σ 20 118 5 = some (σ 118 5) := alC (by omega) (by omega)
  have a6 : ∀ {σ : Mem}, al Sh σ 20 118 6 = some (σ 118 6) := alC (by omega) (by omega)
  have ob : ∀ {σ : Mem} {i j : Nat} {v : Int}, upm σ 127 i v 118 j = σ 118 j := upm_o (by decide)
  simp only [gM, pM, obs, e35, e20, s0, s1, s2, s3, s4, o, a5, a6, ob]
  rw [upm_app, if_neg (by omega), o, o, o, o, o, hB]
  rfl
theorem Rel.r9 (h : Rel σ) : R9 σ := h.2.2.2.2.2.2.2.2.2.1
theorem ok_live {v : Int} (h : Rel σ) : Ok (f_X11_live 0 v) (f_X12_live 113 v) σ := by
  have hs := x_seeds (v := v) (n := 1) h (by omega)
  by_cases c1 : 0 ≤ v ∧ v ≤ 9999
  · obtain ⟨z, rfl⟩ := nat_of c1.1
    rw [if_neg (by omega)] at hs
    by_cases c2 : σ 118 55 = 0
    · refine Ok.mk (r := -1) (y := 8) h (XO.mk ?_) fun τ ht hg => MO.mkr ?_
      · unfold f_X11_live f_X11_live_b0
        rw [if_pos oX, hs, obs, if_pos c2, s_refn (by decide), obs]
        rfl
      · unfold f_X12_live f_X12_live_b0
        simp only [oM, if_true, gM, pM, obs, rf2_e, s_isIn, c1, and_self, Int.one_ne_zero, if_false, ht.rf.1.at 113 20 118 rfl, s_refuse]
        rw [alC (by omega) (by omega), obs, ht.rf.2.1, if_pos (show σ 118 (Int.toNat 55) = 0 from c2)]
        rfl
    · rw [if_neg c2] at hs
      have hx := h.xh.st (v := 0)
      have t7 : TR (upm σ 0 19 0) 14 (σ 118) := TR.o h.r7 fun b j q1 q2 => upm_o (by omega)
      have frx0 : Fr [0, 1, 6, 9] σ (upm σ 0 19 0) := Fr.up (show gid 0 19 ∈ _ by decide)
      have hl : ll 40 5 := .inl ⟨rfl, rfl⟩
      obtain ⟨σd, Bd, Vd, l1, _, l3, _, _⟩ := life (τ := upm (rf2 (upm σ 0 19 0)) 0 18 0) (z := z) hl hx.1 hx.2.1 hx.2.2 h.r6.2.2 t7 ⟨(show Ref (rf2 (upm σ 0 19 0)) from (hx.1.up rfl).up rfl).up rfl, rfl, hx.2.2⟩ (by omega)
      have f1 : Fr [0, 1, 6, 9] σ (upm σd 0 18 1) := Fr.then (Fr.trans frx0 (Fp.mono l3.1 fun b j q => gid_lS q)) (by decide)
      have hi := f1.hi (by decide)
      have ht : MH (rf2 (upm σd 0 18 1)) (σ 118) := MH.rf ⟨f1.ref (by decide) h.1, hi 118 (by omega), h.xh.2.2⟩
      obtain ⟨σ1, B1, V1, k1, k2, k3, k4, k5⟩ := life (τ := rf2 (upm σd 0 18 1)) (z := z) hl hx.1 hx.2.1 hx.2.2 h.r6.2.2 t7 ht (by omega)
      have es : σ1 = σd := by rw [l1] at k1; exact (Option.some.inj k1).symm
      subst es
      obtain ⟨x1, x2, x3, x4, x5, x6, x7, x8, x9⟩ := k3
      have f2 : Fr [16, 20] (rf2 (upm σ1 0 18 1)) (mm (rf2 (upm σ1 0 18 1)) B1 V1) := fr_mm ht x8 k4
      have hR2 : Ref (mm (rf2 (upm σ1 0 18 1)) B1 V1) := f2.ref (by decide) ht.1
      have hmv : mm (rf2 (upm σ1 0 18 1)) B1 V1 113 = V1 := by funext j; exact mm_v
      have key := m_keep hR2 (mm_b (τ := rf2 (upm σ1 0 18 1)) (B := B1) (V := V1))
      rw [hmv] at key
      have f3 : Fr [11, 16, 19, 20] (upm σ1 0 18 1) (rec5 (mm (rf2 (upm σ1 0 18 1)) B1 V1) B1 V1) := by
        refine Fr.trans (Fr.mono (fr_rf (v := 0)) (by decide)) (Fr.trans (Fr.mono f2 (by decide)) ?_)
        unfold rec5
        exact (((((Fr.up (show gid 127 0 ∈ _ by decide)).then (by decide)).then (by decide)).then (by decide)).then (by decide)).then (by decide)
      have lo := f3.lo (by decide)
      have e118 : rec5 (mm (rf2 (upm σ1 0 18 1)) B1 V1) B1 V1 118 = B1 := by
        unfold rec5
        rw [upm_ne (by decide), upm_ne (by decide), upm_ne (by decide), upm_ne (by decide), upm_ne (by decide), upm_ne (by decide), mm_b]
      have e120 : rec5 (mm (rf2 (upm σ1 0 18 1)) B1 V1) B1 V1 120 = σ 120 := by
        rw [← hi 120 (by omega)]
        unfold rec5 mm rf2
        rw [upm_ne (by decide), upm_ne (by decide), upm_ne (by decide), upm_ne (by decide), upm_ne (by decide), upm_ne (by decide), setc_ne (by decide), setc_ne (by decide), upm_ne (by decide), upm_ne (by decide)]
      have r0 : rec5 (mm (rf2 (upm σ1 0 18 1)) B1 V1) B1 V1 113 0 = 0 := by
        unfold rec5
        rw [upm_app, if_neg (by decide), upm_o (by decide), upm_o (by decide), upm_o (by decide), upm_o (by decide), upm_o (by decide), mm_v, k4 0 (by omega)]
        rfl
      have o40 : ∀ j, upm σ1 0 18 1 40 j = σ1 40 j := fun j => upm_o (by decide)
      refine ⟨V1 39, upm σ1 0 18 1, rec5 (mm (rf2 (upm σ1 0 18 1)) B1 V1) B1 V1, ?_, ?_, h.step [0, 1, 6, 9, 11, 16, 19, 20] ((f1.mono (by decide)).trans (f3.mono (by decide))) (by decide) ?_ (fun q => absurd q (by decide)) (fun q => absurd q (by decide)) (fun q => absurd q (by decide)) (fun q => absurd q (by decide)) (fun _ => .inl ⟨⟨?_, ?_, ?_⟩, ?_, ?_⟩) (fun q => absurd q (by decide)) (fun q => absurd q (by decide)) (fun _ => ?_)⟩
      · unfold f_X11_live f_X11_live_b0
        rw [if_pos oX, hs, obs, s_ref0, obs]
        dsimp only
        rw [if_pos rfl, gX, obs, hx.1.at 0 9 40 rfl, show f_X4_run 40 (z : Int) (upm σ 0 19 0) = some σ1 from l1, obs, pX, obs, gX, obs, (f1.ref (by decide) h.1).at 0 9 40 rfl, show gf Sh (upm σ1 0 18 1) 4 40 4 = some (upm σ1 0 18 1 40 4) from gLL hl, obs, o40, k5.1]
      · unfold f_X12_live f_X12_live_b0
        simp only [oM, if_true, gM, pM, obs, rf2_e, s_isIn, c1, and_self, Int.one_ne_zero, if_false, ht.1.at 113 20 118 rfl]
        simp only [gM, pM, obs] at key
        rw [alC (by omega) (by omega), obs, ht.2.1, if_neg (show ¬ σ 118 (Int.toNat 55) = 0 from c2), k2, obs]
        exact key
      · rw [r0, lo 0 (by omega), upm_app, if_neg (by decide), x1 0 19 (fun q => by rcases q with ⟨q, _⟩ | ⟨q, _⟩ | q <;> omega), upm_same]
      · rw [e118, e120]
        exact x3.cg (fun b j q1 q2 => by rw [lo b (by omega), upm_o (by omega)]) (fun _ _ => rfl) (fun _ _ => rfl) x4
      · rw [e118]; exact x4
      · rw [e118]; exact x5
      · rw [e118]; exact x6
      · rw [e118, x7]; exact Int.le_refl _
      · obtain ⟨y1, y2, y3, y4, y5, y6, y7⟩ := k5
        have e36 : rec5 (mm (rf2 (upm σ1 0 18 1)) B1 V1) B1 V1 113 36 = 1 := by unfold rec5; rw [upm_same]
        have e127 : ∀ j, rec5 (mm (rf2 (upm σ1 0 18 1)) B1 V1) B1 V1 127 j = if j = 4 then V1 44 else if j = 3 then w32 (B1 6 - V1 43) else if j = 2 then w32 (B1 5 - V1 42) else if j = 1 then V1 41 else if j = 0 then V1 40 else mm (rf2 (upm σ1 0 18 1)) B1 V1 127 j := by
          intro j
          unfold rec5
          rw [upm_o (by decide)]
          simp only [upm_app, true_and]
        refine ⟨⟨by rw [e36, lo 0 (by omega), upm_same], .inr e36⟩, fun _ => ⟨fun k hk => ?_, by rw [e127, if_pos rfl]; exact y7⟩⟩
        rw [e127, lo 40 (by omega), o40]
        rcases (show k = 0 ∨ k = 1 ∨ k = 2 ∨ k = 3 ∨ k = 4 by omega) with rfl | rfl | rfl | rfl | rfl
        · exact y2
        · exact y3
        · exact y4
        · exact y5
        · exact y6
  · rw [if_pos (by omega)] at hs
    refine Ok.mk (r := -1) (y := 5) h (XO.mk ?_) fun τ ht hg => MO.mkr ?_
    · unfold f_X11_live f_X11_live_b0
      rw [if_pos oX, hs, obs, s_refn (by decide), obs]
      rfl
    · unfold f_X12_live f_X12_live_b0
      simp only [oM, if_true, gM, pM, obs, rf2_e, s_isIn, c1, if_false, s_refuse]
      rfl
end
