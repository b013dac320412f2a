/-! ===== TERMS lived: a STEP's doing, a TEST ===== -/
section
variable {σ0 σ σ' τ : Mem} {L aw : Nat} {B0 B B' D V V' : Nat → Int}
theorem x_isDone_e {k : Nat} (h : ll L aw) (x : XA σ0 σ L aw B0 D B) (hk : k < 60) : f_X4_isDone L k σ = f_X4_isDone_b38 L k (σ0 16 k) (σ0 17 k) (if σ0 18 k = 1 then 1 else 0) σ := by
  unfold f_X4_isDone f_X4_isDone_b0
  rw [if_pos (oLL h), x_cdO h x hk (m := 2) (by omega) (by omega) rfl, x_cdO h x hk (m := 3) (by omega) (by omega) rfl, x_cdO h x hk (m := 4) (by omega) (by omega) rfl]
  split <;> rfl
theorem w9 {s i : Nat} (hs : s < 30) (hi : i ≤ 8) : w32 (((57 + 9 * s : Nat) : Int) + (i : Int)) = ((57 + 9 * s + i : Nat) : Int) := by rw [w32_in (by omega) (by omega)]; omega
theorem D_step {k s : Nat} (h : ll L aw) (hR : Ref τ) (x : XA σ0 σ L aw B0 D B) (v : VA σ L τ B0 B V) (hk : k < 60) (hs : s < 30) (c : Sm σ0 14 k B0 s) (hc : ¬ B0 (57 + 9 * s) = 9) : Dn σ0 σ L aw B0 D τ B V (f_X4_isDone L k) (f_X12_does 113 ((57 + 9 * s : Nat) : Int)) := by
  have hB := x.2.2.2.1
  have hn := hB.nP_le
  have hkk := hB.nK_le
  have hm := mm_MH hR hB v.1
  have x0 := x.2.2.2.2.2.1
  have x1 := x.2.2.2.2.2.2.1
  obtain ⟨r0, r1, r2⟩ := rLL x.2.1 h
  have a0 : al Sh (mm τ B V) 20 118 ((57 + 9 * s : Nat) : Int) = some (B0 (57 + 9 * s)) := m_cd (i := 0) x hs (by omega)
  have a1 := m_cd (τ := τ) (V := V) (i := 1) x hs (by omega)
  have a2 := m_cd (τ := τ) (V := V) (i := 2) x hs (by omega)
  have a3 := m_cd (τ := τ) (V := V) (i := 3) x hs (by omega)
  have em : f_X12_does 113 ((57 + 9 * s : Nat) : Int) (mm τ B V) = (if B0 (57 + 9 * s) = 0 then (f_X12_anyYears 113 (B0 (57 + 9 * s + 1)) (mm τ B V)).bind fun r => (bz r.1).bind fun _ => some (r.1, r.2) else if B0 (57 + 9 * s) = 1 then (if B0 (57 + 9 * s + 3) = 1 then f_X12_does_b58 1 (B0 (57 + 9 * s + 2)) (B0 (57 + 9 * s + 1)) 113 (mm τ B V) else f_X12_does_b58 0 (B0 (57 + 9 * s + 2)) (B0 (57 + 9 * s + 1)) 113 (mm τ B V)) else if B0 (57 + 9 * s) = 2 then f_X12_does_b72 113 (B0 (57 + 9 * s)) (B0 (57 + 9 * s + 1)) (mm τ B V) else if B0 (57 + 9 * s) = 3 then f_X12_does_b72 113 (B0 (57 + 9 * s)) (B0 (57 + 9 * s + 1)) (mm τ B V) else if B0 (57 + 9 * s) = 4 then (f_X12_clears 113 (B0 (57 + 9 * s + 1)) (mm τ B V)).bind fun r => (bz r.1).bind fun _ => some (r.1, r.2) else if B0 (57 + 9 * s) = 5 then (f_X12_flies 113 (B0 (57 + 9 * s + 1)) (B0 (57 + 9 * s + 2)) (mm τ B V)).bind fun r => (bz r.1).bind fun _ => some (r.1, r.2) else (f_X12_isAny 113 (mm τ B V)).bind fun r => (bz r.1).bind fun _ => some (r.1, r.2)) := by
    have w1 : w32 (((57 + 9 * s : Nat) : Int) + 1) = ((57 + 9 * s + 1 : Nat) : Int) := w9 (i := 1) hs (by omega)
    have w2 : w32 (((57 + 9 * s : Nat) : Int) + 2) = ((57 + 9 * s + 2 : Nat) : Int) := w9 (i := 2) hs (by omega)
    have w3 : w32 (((57 + 9 * s : Nat) : Int) + 3) = ((57 + 9 * s + 3 : Nat) : Int) := w9 (i := 3) hs (by omega)
    unfold f_X12_does f_X12_does_b0
    simp only [oM, if_true, gM, obs, hm.1.at 113 20 118 rfl, w1, w2, w3, a0, a1, a2, a3]
  have ex : ∀ {d : Int}, f_X4_isDone_b38 L k (σ0 16 k) (σ0 17 k) d σ = (if σ0 15 k = 10 then (f_X9_passYears aw (σ0 16 k) σ).bind fun r => (bz r.1).bind fun _ => some (r.1, r.2) else if σ0 15 k = 11 then (f_X9_holdTrial aw (σ0 16 k) (σ0 17 k) d σ).bind fun r => if r.1 = d then some (1, r.2) else some (0, r.2) else if σ0 15 k = 12 then (f_X4_reshapes L (σ0 16 k) 30 σ).bind fun r => (bz r.1).bind fun _ => some (r.1, r.2) else if σ0 15 k = 13 then (f_X4_reshapes L (σ0 16 k) 0 σ).bind fun r => (bz r.1).bind fun _ => some (r.1, r.2) else if σ0 15 k = 14 then (f_X4_clears L (σ0 16 k) σ).bind fun r => (bz r.1).bind fun _ => some (r.1, r.2) else if σ0 15 k = 15 then (f_X4_flies L (σ0 16 k) (σ0 17 k) σ).bind fun r => (bz r.1).bind fun _ => some (r.1, r.2) else if σ0 15 k = 16 then (f_X4_triesAny L σ).bind fun r => (bz r.1).bind fun _ => some (r.1, r.2) else some (1, σ)) := by
    intro d
    unfold f_X4_isDone_b38
    rw [x_cdO h x hk (m := 1) (by omega) (by omega) rfl]
    simp only [gLL h, obs, r1]
  unfold Sm at c
  rcases c with ⟨c1, c2, c3, c4, c5⟩ | ⟨c1, c2, ⟨c3, c4, c5⟩, ⟨c6, c7, c8⟩, c9, c10, c11⟩ | ⟨⟨c1, c2⟩, c3, c4, c5, c6⟩ | ⟨c1, c2, ⟨c3, c4, c5⟩, c6, c7, c8⟩ | ⟨c1, c2⟩ | ⟨c1, c2⟩
  · obtain ⟨n, hn1⟩ := nat_of (show 0 ≤ B0 (57 + 9 * s + 1) by omega)
    refine (D_years (n := n) h hR x v (by omega)).bzz ?_ ?_
    · rw [x_isDone_e h x hk, ex, show σ0 15 k = 10 from c1, if_pos rfl, show σ0 16 k = _ from c3, hn1]
    · rw [em, c2, if_pos rfl, hn1]
  · obtain ⟨g, hg⟩ := nat_of c4
    obtain ⟨p, hp⟩ := nat_of c7
    refine (D_try (g := (g : Int)) (d := B0 (57 + 9 * s + 3)) (p := p) h hR x v (by omega)).bm ?_ ?_
    · rw [x_isDone_e h x hk, ex, show σ0 15 k = 11 from c1, if_neg (by decide), if_pos rfl, show σ0 16 k = _ from c3, show σ0 17 k = _ from c6, show σ0 18 k = _ from c9, hg, hp]
      rcases (show B0 (57 + 9 * s + 3) = 0 ∨ B0 (57 + 9 * s + 3) = 1 by omega) with q | q <;> rw [q] <;> rfl
    · rw [em, c2, if_neg (by decide), if_pos rfl, hg, hp]
      unfold f_X12_does_b58
      rcases (show B0 (57 + 9 * s + 3) = 0 ∨ B0 (57 + 9 * s + 3) = 1 by omega) with q | q <;> rw [q] <;> rfl
  · obtain ⟨p, hp⟩ := nat_of c5
    rcases (show B0 (57 + 9 * s) = 2 ∨ B0 (57 + 9 * s) = 3 ∨ B0 (57 + 9 * s) = 4 by omega) with q | q | q
    · refine (D_cut (l := 30) (p := p) h hR x v (by omega) (by omega)).bzz ?_ ?_
      · rw [x_isDone_e h x hk, ex, show σ0 15 k = 12 by rw [show σ0 15 k = _ from c3, q]; rfl, if_neg (by decide), if_neg (by decide), if_pos rfl, show σ0 16 k = _ from c4, hp]
      · rw [em, q, if_neg (by decide), if_neg (by decide), if_pos rfl, hp]
        rfl
    · refine (D_cut (l := 0) (p := p) h hR x v (by omega) (by omega)).bzz ?_ ?_
      · rw [x_isDone_e h x hk, ex, show σ0 15 k = 13 by rw [show σ0 15 k = _ from c3, q]; rfl, if_neg (by decide), if_neg (by decide), if_neg (by decide), if_pos rfl, show σ0 16 k = _ from c4, hp]
      · rw [em, q, if_neg (by decide), if_neg (by decide), if_neg (by decide), if_pos rfl, hp]
        rfl
    · refine (D_clear (p := p) h hR x v (by omega)).bzz ?_ ?_
      · rw [x_isDone_e h x hk, ex, show σ0 15 k = 14 by rw [show σ0 15 k = _ from c3, q]; rfl, if_neg (by decide), if_neg (by decide), if_neg (by decide), if_neg (by decide), if_pos rfl, show σ0 16 k = _ from c4, hp]
      · rw [em, q, if_neg (by decide), if_neg (by decide), if_neg (by decide), if_neg (by decide), if_pos rfl, hp]
  · obtain ⟨w, hw⟩ := nat_of c4
    obtain ⟨p, hp⟩ := nat_of c7
    refine (D_fly (w := w) (p := p) h hR x v (by omega) (by omega)).bzz ?_ ?_
    · rw [x_isDone_e h x hk, ex, show σ0 15 k = 15 from c1, if_neg (by decide), if_neg (by decide), if_neg (by decide), if_neg (by decide), if_neg (by decide), if_pos rfl, show σ0 16 k = _ from c3, show σ0 17 k = _ from c6, hw, hp]
    · rw [em, c2, if_neg (by decide), if_neg (by decide), if_neg (by decide), if_neg (by decide), if_neg (by decide), if_pos rfl, hw, hp]
  · refine (D_any h hR x v).bzz ?_ ?_
    · rw [x_isDone_e h x hk, ex, show σ0 15 k = 16 from c1, if_neg (by decide), if_neg (by decide), if_neg (by decide), if_neg (by decide), if_neg (by decide), if_neg (by decide), if_pos rfl]
    · rw [em, c2, if_neg (by decide), if_neg (by decide), if_neg (by decide), if_neg (by decide), if_neg (by decide), if_neg (by decide)]
  · exact absurd c2 hc
/-- doing a when, a loop, an end, a stop: nothing -/
theorem x_isDone_n {k : Nat} (h : ll L aw) (x : XA σ0 σ L aw B0 D B) (hk : k < 60) (hc : σ0 15 k < 10 ∨ 16 < σ0 15 k) : f_X4_isDone L k σ = some (1, σ) := by
  rw [x_isDone_e h x hk]
  unfold f_X4_isDone_b38
  rw [x_cdO h x hk (m := 1) (by omega) (by omega) rfl, show σ0 (14 + 1) k = σ0 15 k from rfl, if_neg (by omega), if_neg (by omega), if_neg (by omega), if_neg (by omega), if_neg (by omega), if_neg (by omega), if_neg (by omega)]
theorem D_test {k s : Nat} (h : ll L aw) (hR : Ref τ) (x : XA σ0 σ L aw B0 D B) (v : VA σ L τ B0 B V) (hk : k < 60) (hs : s < 30) (c : Op' σ0 14 k B0 s) (hc : B0 (57 + 9 * s) = 7) : ∃ b : Int, (b = 0 ∨ b = 1) ∧ f_X4_holds L k σ = some b ∧ f_X12_isSo 113 ((57 + 9 * s : Nat) : Int) (mm τ B V) = some b := by
  have hB := x.2.2.2.1
  have hn := hB.nP_le
  have hm := mm_MH hR hB v.1
  have x0 := x.2.2.2.2.2.1
  obtain ⟨r0, r1, r2⟩ := rLL x.2.1 h
  have w1 : w32 (((57 + 9 * s : Nat) : Int) + 1) = ((57 + 9 * s + 1 : Nat) : Int) := w9 (i := 1) hs (by omega)
  have w2 : w32 (((57 + 9 * s : Nat) : Int) + 2) = ((57 + 9 * s + 2 : Nat) : Int) := w9 (i := 2) hs (by omega)
  have w3 : w32 (((57 + 9 * s : Nat) : Int) + 3) = ((57 + 9 * s + 3 : Nat) : Int) := w9 (i := 3) hs (by omega)
  have w5 : w32 (((57 + 9 * s : Nat) : Int) + 5) = ((57 + 9 * s + 5 : Nat) : Int) := w9 (i := 5) hs (by omega)
  have w6 : w32 (((57 + 9 * s : Nat) : Int) + 6) = ((57 + 9 * s + 6 : Nat) : Int) := w9 (i := 6) hs (by omega)
  have w7 : w32 (((57 + 9 * s : Nat) : Int) + 7) = ((57 + 9 * s + 7 : Nat) : Int) := w9 (i := 7) hs (by omega)
  have a1 := m_cd (τ := τ) (V := V) (i := 1) x hs (by omega)
  have a2 := m_cd (τ := τ) (V := V) (i := 2) x hs (by omega)
  have a3 := m_cd (τ := τ) (V := V) (i := 3) x hs (by omega)
  have a5 := m_cd (τ := τ) (V := V) (i := 5) x hs (by omega)
  have a6 := m_cd (τ := τ) (V := V) (i := 6) x hs (by omega)
  have a7 := m_cd (τ := τ) (V := V) (i := 7) x hs (by omega)
  unfold Op' at c
  rcases c with ⟨c1, c2, _⟩ | ⟨_, ⟨c2, c3, c4⟩, c5⟩
  · omega
  · obtain ⟨p, hp⟩ := nat_of c3
    have hp1 : p < nP B := by omega
    have ep : f_X9_isPlace aw p σ = some 1 := by rw [x_isPlace h.wl x.2.2.1, if_pos (by omega)]
    have es := x_isStone' h.wl x.2.2.1 hB hp1
    have ex : f_X4_holds L k σ = (if σ0 15 k = 18 then (f_X9_isStone aw p σ).bind fun r12 => if r12 = 0 then some 0 else (f_X9_mercyFor aw p (σ0 17 k) 0 σ).bind fun r21 => if σ0 18 k ≤ r21 then some 0 else some 1 else if σ0 15 k = 19 then (f_X9_isStone aw p σ).bind fun r25 => (bz r25).bind fun _ => some r25 else (al Sh σ 20 ((aw + 2 : Nat) : Int) p).bind fun x30 => (f_X4_compares x30 (σ0 17 k) (σ0 18 k) σ).bind fun r37 => (bz r37).bind fun _ => some r37) := by
      unfold f_X4_holds f_X4_holds_b0
      rw [if_pos (oLL h), x_cdI h x hk (m := 2) (by omega) (by omega) rfl, show σ0 (14 + 2) k = _ from c2, hp, gLL h, obs, r1, ep, obs, if_neg (by decide), x_cdI h x hk (m := 1) (by omega) (by omega) rfl]
      simp only [gLL h, obs, r1, gW h.wl, (rW x.2.1 h.wl).2.1]
      have e2 : ∀ {kk : Int → Option Int}, ((gf Sh σ 5 (σ L 0) 6).bind fun b => (al Sh σ 20 b k).bind kk) = kk (σ0 18 k) := fun {kk} => by
        have := x_cdI (kk := kk) h x hk (m := 4) (f := 6) (by omega) (by omega) rfl
        rw [gLL h, obs] at this
        exact this
      have e3 : ∀ {kk : Int → Option Int}, ((gf Sh σ 5 (σ L 0) 5).bind fun b => (al Sh σ 20 b k).bind kk) = kk (σ0 17 k) := fun {kk} => by
        have := x_cdI (kk := kk) h x hk (m := 3) (f := 5) (by omega) (by omega) rfl
        rw [gLL h, obs] at this
        exact this
      simp only [e2, e3]
    have emb : ∀ t : Int, f_X12_isSo_b92 113 ((57 + 9 * s : Nat) : Int) t (mm τ B V) = some (if B0 (57 + 9 * s + 7) = 60 then (if B0 (57 + 9 * s + 6) ≤ t then 0 else 1) else if B0 (57 + 9 * s + 7) = 62 then (if t ≤ B0 (57 + 9 * s + 6) then 0 else 1) else if t = B0 (57 + 9 * s + 6) then 1 else 0) := by
      intro t
      unfold f_X12_isSo_b92
      simp only [gM, obs, hm.1.at 113 20 118 rfl, w6, w7, a6, a7]
      grind
    have em : f_X12_isSo 113 ((57 + 9 * s : Nat) : Int) (mm τ B V) = (if B0 (57 + 9 * s + 5) = 0 then (if stn B p = true then (f_X12_turns 113 (B0 (57 + 9 * s + 3)) (B0 (57 + 9 * s + 2)) p (mm τ B V)).bind fun r => if r = 0 then some 0 else some 1 else some 0) else if B0 (57 + 9 * s + 5) = 1 then some (if stn B p = true then 1 else 0) else f_X12_isSo_b92 113 ((57 + 9 * s : Nat) : Int) (if stn B p = true then B (27 + p) else 0) (mm τ B V)) := by
      unfold f_X12_isSo f_X12_isSo_b0
      simp only [oM, if_true, gM, obs, hm.1.at 113 20 118 rfl, w1, w2, w3, w5, a1, a2, a3, a5, hp, m_stone' hm (show p < 1000 by omega)]
      rw [w32_in (z := 27 + (p : Int)) (by omega) (by omega), alC (by omega) (by omega), obs, mm_b, show (27 + (p : Int)).toNat = 27 + p by omega]
      by_cases z : stn B p = true
      · simp only [z, if_true, Int.one_ne_zero, if_false, bz1, obs]
      · simp only [z, if_false, if_true, Bool.false_eq_true, bz0, obs]
    rcases c5 with ⟨d1, d2, ⟨d3, d4, d5⟩, d6, d7, d8⟩ | ⟨d1, d2⟩ | ⟨d1, d2, ⟨d3, d4, d5⟩, d6, d7, d8⟩
    · obtain ⟨q, hq⟩ := nat_of d4
      refine ⟨if stn B p = true ∧ mc B p q < B0 (57 + 9 * s + 3) then 1 else 0, by split <;> simp, ?_, ?_⟩
      · rw [ex, show σ0 15 k = 18 from d1, if_pos rfl, es, obs, show σ0 17 k = _ from d3, show σ0 18 k = _ from d6, hq]
        by_cases z : stn B p = true
        · have hmf := @x_mercyFor σ aw B D p (q : Int) 0 h.wl x.2.1 x.2.2.1 hB hp1 z (by omega) (by omega)
          rw [agd0 hB] at hmf
          rw [if_pos z, if_neg (by decide), hmf, obs]
          by_cases z2 : mc B p q < B0 (57 + 9 * s + 3)
          · rw [if_neg (by omega), if_pos ⟨z, z2⟩]
          · rw [if_pos (by omega), if_neg (fun w => z2 w.2)]
        · rw [if_neg z, if_pos rfl, if_neg (fun w => z w.1)]
      · rw [em, d2, if_pos rfl, hq]
        by_cases z : stn B p = true
        · rw [if_pos z, m_turns hm (by omega) (by omega), obs]
          by_cases z2 : mc B p q < B0 (57 + 9 * s + 3)
          · rw [if_pos z2, if_neg (by decide), if_pos ⟨z, z2⟩]
          · rw [if_neg z2, if_pos rfl, if_neg (fun w => z2 w.2)]
        · rw [if_neg z, if_neg (fun w => z w.1)]
    · refine ⟨if stn B p = true then 1 else 0, by split <;> simp, ?_, ?_⟩
      · rw [ex, show σ0 15 k = 19 from d1, if_neg (by decide), if_pos rfl, es, obs]
        split <;> rfl
      · rw [em, d2, if_neg (by decide), if_pos rfl]
    · have et : σ (aw + 2) p = if stn B p = true then B (27 + p) else 0 := by
        obtain ⟨q1, q2, q3⟩ := x.2.2.1.2.1 p hp1
        by_cases z : stn B p = true
        · rw [if_pos z, (q1 z).2.1]
        · rw [if_neg z, q2 (by simpa using z)]
      refine ⟨if B0 (57 + 9 * s + 7) = 60 then (if B0 (57 + 9 * s + 6) ≤ σ (aw + 2) p then 0 else 1) else if B0 (57 + 9 * s + 7) = 62 then (if σ (aw + 2) p ≤ B0 (57 + 9 * s + 6) then 0 else 1) else if σ (aw + 2) p = B0 (57 + 9 * s + 6) then 1 else 0, by grind, ?_, ?_⟩
      · rw [ex, show σ0 15 k = 3 from d1, if_neg (by decide), if_neg (by decide), alW2 h.wl (by omega) (by omega), obs, Int.toNat_natCast, show σ0 17 k = _ from d3, show σ0 18 k = _ from d6]
        unfold f_X4_compares f_X4_compares_b0
        generalize σ (aw + 2) p = t
        split
        · split <;> rfl
        · split
          · split <;> rfl
          · split <;> rfl
      · rw [em, d2, if_neg (by decide), if_neg (by decide), emb, ← et]
end
