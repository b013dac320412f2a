/-! ===== TERMS lived: pieces ===== -/
section
variable {σ0 σ σ1 σ' τ : Mem} {L aw : Nat} {B0 B B' D V V' : Nat → Int} {r : Int → Int → Int → Mem → Option Mem}
theorem Sm.op {k s : Nat} (c : Sm σ0 14 k B0 s) : (¬ B0 (57 + 9 * s) = 9 ∧ B0 (57 + 9 * s) < 7 ∧ 10 ≤ σ0 15 k ∧ σ0 15 k ≤ 16) ∨ (σ0 15 k = 22 ∧ B0 (57 + 9 * s) = 9) := by
  unfold Sm at c
  simp only [show 14 + 1 = 15 from rfl] at c
  omega
theorem Op'.op {k s : Nat} (c : Op' σ0 14 k B0 s) : (σ0 15 k = 20 ∧ B0 (57 + 9 * s) = 8 ∧ σ0 16 k = B0 (57 + 9 * s + 1) ∧ 1 ≤ B0 (57 + 9 * s + 1) ∧ B0 (57 + 9 * s + 1) ≤ 99) ∨ (B0 (57 + 9 * s) = 7 ∧ (σ0 15 k = 18 ∨ σ0 15 k = 19 ∨ σ0 15 k = 3)) := by
  unfold Op' at c
  simp only [show 14 + 1 = 15 from rfl, show 14 + 2 = 16 from rfl] at c
  omega
theorem wkk1 {k : Nat} (hk : k < 1000) : w32 ((k : Int) + 1) = ((k + 1 : Nat) : Int) := by rw [w32_in (by omega) (by omega)]; omega
/-- a STEP without a block -/
theorem O_simple {k s d : Nat} (h : ll L aw) (hR : Ref τ) (q : St L aw σ0 B0 D τ σ B V) (hk : k < 60) (hz : (k : Int) < σ0 14 2) (hs : s < 30) (c : Sm σ0 14 k B0 s) : Out L aw σ0 B0 D τ σ V k k (k + 1) d (f_X12_doOne r 113 (s : Int) (mm τ B V)) := by
  have co := c.op
  by_cases hV : V 39 = 300
  · exact O_full h q hk hz (by omega) hV
  obtain ⟨x, v, b, z1, z2⟩ := q
  have v' := v
  obtain ⟨v1, ⟨v2, v3, v4, v5, _⟩, v6, _⟩ := v'
  have e39 : w32 (V 39 + 1) = V 39 + 1 := w32_in (by omega) (by omega)
  have x1 : XA σ0 (upm σ L 4 (V 39 + 1)) L aw B0 D B := x.reg h (by omega)
  have u1 : VA (upm σ L 4 (V 39 + 1)) L τ B0 B (up1 V 39 (V 39 + 1)) := v.tick (by omega)
  rw [one_lt hR x v hs hV, e39]
  rcases co with ⟨c1, c2, c3, c4⟩ | ⟨c1, c2⟩
  · obtain ⟨ok, σ2, B2, V2, d1, d2, d3, d4, d5, d6, d7⟩ := D_step h hR x1 u1 hk hs c c1
    have f39 : V2 39 = V 39 + 1 := by rw [d6 _ (by omega) (by omega), up1_eq]
    have f40 : V2 40 = V 40 := by rw [d6 _ (by omega) (by omega), up1_ne (by omega)]
    have f37 : V2 37 = V 37 := by rw [d6 _ (by omega) (by omega), up1_ne (by omega)]
    have f44 : V2 44 = V 44 := by rw [d6 _ (by omega) (by omega), up1_ne (by omega)]
    have e40 : w32 (V 40 + if ok = 0 then 1 else 0) = V 40 + if ok = 0 then 1 else 0 := w32_in (by split <;> omega) (by split <;> omega)
    refine ⟨upm σ2 L 5 (V 40 + if ok = 0 then 1 else 0), B2, up1 V2 40 (V 40 + if ok = 0 then 1 else 0), k + 1, 1, ?_, d4.reg h (by omega), d5.miss, ?_, ?_, ?_, ?_, ?_, .inl ⟨?_, ?_, rfl, fun _ => ?_⟩⟩
    · rw [if_neg (by omega), d2, obs]
      dsimp only
      rw [e40, mm_113]
    · rw [up1_eq, up1_ne (by omega), f39]; split <;> omega
    · refine tk_step h x hk hz (by omega) (by omega) (by omega) (ok := ok) (σ2 := σ2) (by rw [v3, e39]; exact d1) ?_
      rw [v4, e40, wn_0 h (d4.reg h (by omega)) hk, if_neg (by omega), if_neg (by omega), if_neg (by omega), if_neg (by omega), if_neg (by omega), if_neg (by omega), wkk1 (by omega)]
    · rw [up1_ne (by omega), f39]; omega
    · rw [up1_ne (by omega), up1_ne (by omega), f39, f44, show V 39 + 1 - V 39 = 1 by omega]; omega
    · intro j _
      rw [upm_o (by omega), d7, upm_o (by omega)]
    · rw [up1_ne (by omega), f37, z1]
    · rw [up1_ne (by omega), f44, z2]
    · rw [up1_ne (by omega), f39]; omega
  · obtain ⟨zz, hzz⟩ := nat_of (show 0 ≤ σ0 14 2 by omega)
    refine ⟨upm σ L 4 (V 39 + 1), B, up1 (up1 V 39 (V 39 + 1)) 37 1, zz, 1, ?_, x1, u1.over (.inr rfl), ?_, ?_, ?_, ?_, fun j _ => upm_o (by omega), .inr ⟨up1_eq, .inr hzz.symm⟩⟩
    · rw [if_pos (by omega), if_neg (by omega)]
      unfold f_X12_doOne_b110
      rw [if_neg (by omega), if_neg (by omega), pM, obs, mm_113]
    · rw [up1_ne (by omega), up1_ne (by omega), up1_ne (by omega), up1_eq]; omega
    · refine go_op h x hk hz (by omega) (by omega) (by omega) (by omega) (by omega) ?_
      rw [v3, e39, wn_0 h x1 hk, if_neg (by omega), if_neg (by omega), if_neg (by omega), if_neg (by omega), if_neg (by omega), if_pos c1, hzz]
    · rw [up1_ne (by omega), up1_eq]; omega
    · rw [up1_ne (by omega), up1_eq, up1_ne (by omega), up1_ne (by omega), z2, show V 39 + 1 - V 39 = 1 by omega]; omega
/-- the END of a when -/
theorem go_endw {k m : Nat} (h : ll L aw) (q : St L aw σ0 B0 D τ σ B V) (hm : m < 60) (hz : (m : Int) < σ0 14 2) (hkm : k < m) (h21 : σ0 15 m = 21) (h19 : σ0 19 m = k) (hc : ¬ σ0 15 k = 20) : Go L m σ (m + 1) σ 1 := by
  obtain ⟨x, v, b, z1, z2⟩ := q
  have v' := v
  obtain ⟨v1, ⟨v2, v3, v4, v5, _⟩, v6, _⟩ := v'
  refine tk_end h x hm hz (by omega) h21 (by omega) (by omega) ?_
  rw [wn_0 h x hm, if_neg (by omega), if_neg (by omega), if_neg (by omega), if_neg (by omega), if_pos h21, h19, x_round h x (by omega) (by omega), if_neg hc, obs]
  dsimp only
  rw [if_pos rfl, wkk1 (by omega)]
theorem O_when {k s d m e : Nat} (h : ll L aw) (hR : Ref τ) (q : St L aw σ0 B0 D τ σ B V) (hd : d ≤ 2) (hm : m < 60) (hz : (m : Int) < σ0 14 2) (hkm : k < m) (hs : s < 30) (c : Op' σ0 14 k B0 s) (c7 : B0 (57 + 9 * s) = 7) (he : B0 (57 + 9 * s + 8) = e) (h21 : σ0 15 m = 21) (h19 : σ0 19 m = k) (h20 : σ0 19 k = m + 1) (ih : ∀ σ B V, St L aw σ0 B0 D τ σ B V → Out L aw σ0 B0 D τ σ V (k + 1) (k + 1) m d (r 113 ((s + 1 : Nat) : Int) e (mm τ B V))) : Out L aw σ0 B0 D τ σ V k k (m + 1) (d + 1) (f_X12_doOne r 113 (s : Int) (mm τ B V)) := by
  have co := c.op
  by_cases hV : V 39 = 300
  · exact O_full h q (by omega) (by omega) (by omega) hV
  obtain ⟨x, v, b, z1, z2⟩ := q
  have v' := v
  obtain ⟨v1, ⟨v2, v3, v4, v5, _⟩, v6, _⟩ := v'
  have e39 : w32 (V 39 + 1) = V 39 + 1 := w32_in (by omega) (by omega)
  have x1 : XA σ0 (upm σ L 4 (V 39 + 1)) L aw B0 D B := x.reg h (by omega)
  have u1 : VA (upm σ L 4 (V 39 + 1)) L τ B0 B (up1 V 39 (V 39 + 1)) := v.tick (by omega)
  obtain ⟨t, t1, t2, t3⟩ := D_test h hR x1 u1 (by omega) hs c c7
  have wn : f_X4_whereNext L k (upm σ L 4 (V 39 + 1)) = some (if t = 0 then ((m + 1 : Nat) : Int) else ((k + 1 : Nat) : Int), upm σ L 4 (V 39 + 1)) := by
    have : f_X4_whereNext L k (upm σ L 4 (V 39 + 1)) = f_X4_whereNext_b151 L k (σ0 19 k) (upm σ L 4 (V 39 + 1)) := by
      rw [wn_0 h x1 (by omega)]
      rcases (show σ0 15 k = 18 ∨ σ0 15 k = 19 ∨ σ0 15 k = 3 by omega) with w | w | w <;> rw [w] <;> rfl
    rw [this]
    unfold f_X4_whereNext_b151
    rw [t2, obs, h20, wkk1 (by omega)]
    split <;> rfl
  have go : ∀ k' : Nat, (k' : Int) = (if t = 0 then ((m + 1 : Nat) : Int) else ((k + 1 : Nat) : Int)) → Go L k σ k' (upm σ L 4 (V 39 + 1)) 1 := by
    intro k' hk'
    refine go_op h x (by omega) (by omega) (by omega) (by omega) (by omega) (by omega) (by omega) ?_
    rw [v3, e39, wn, hk']
  have s1 : St L aw σ0 B0 D τ (upm σ L 4 (V 39 + 1)) B (up1 V 39 (V 39 + 1)) := ⟨x1, u1, by rw [up1_ne (by omega), up1_eq]; omega, by rw [up1_ne (by omega)]; exact z1, by rw [up1_ne (by omega)]; exact z2⟩
  rw [one_lt hR x v hs hV, e39, if_pos (by omega), if_pos c7, t3, obs]
  by_cases ht : t = 0
  · rw [if_pos ht]
    unfold f_X12_doOne_b110
    rw [if_neg (by omega), if_pos (by omega)]
    refine ⟨upm σ L 4 (V 39 + 1), B, up1 V 39 (V 39 + 1), m + 1, 1, rfl, x1, u1, s1.2.2.1, go _ (by rw [if_pos ht]), by rw [up1_eq]; omega, ?_, fun j _ => upm_o (by omega), .inl ⟨s1.2.2.2.1, s1.2.2.2.2, rfl, fun _ => by rw [up1_eq]; omega⟩⟩
    rw [up1_eq, s1.2.2.2.2, show V 39 + 1 - V 39 = 1 by omega]; omega
  · rw [if_neg ht, he]
    obtain ⟨σ2, B2, V2, k2, n2, g1, g2, g3, g4, g5, g6, g7, g8, g9⟩ := ih _ _ _ s1
    rw [up1_eq] at g6 g7
    have fr : ∀ j, j < k ∨ m + 1 ≤ j → σ2 (L + 1) j = σ (L + 1) j := fun j hj => by rw [g8 j (by omega), upm_o (by omega)]
    rcases g9 with ⟨y1, y2, rfl, y4⟩ | ⟨y1, y2⟩
    · refine ⟨σ2, B2, V2, k2 + 1, 1 + (n2 + 1), g1, g2, g3, g4, (go (k + 1) (by rw [if_neg ht])).trans (g5.trans (go_endw h ⟨g2, g3, g4, y1, y2⟩ hm hz hkm h21 h19 (by omega))), by omega, ?_, fr, .inl ⟨y1, y2, rfl, fun _ => by omega⟩⟩
      rcases (show d = 0 ∨ d = 1 ∨ d = 2 by omega) with rfl | rfl | rfl <;> omega
    · refine ⟨σ2, B2, V2, k2, 1 + n2, g1, g2, g3, g4, (go (k + 1) (by rw [if_neg ht])).trans g5, by omega, ?_, fr, .inr ⟨y1, y2⟩⟩
      rcases (show d = 0 ∨ d = 1 ∨ d = 2 by omega) with rfl | rfl | rfl <;> omega
end
