/-! ===== TERMS lived: a loop, the whole ===== -/
section
variable {σ0 σ σ1 σ' τ : Mem} {L aw : Nat} {B0 B B' D V V' : Nat → Int} {r : Int → Int → Int → Mem → Option Mem}
/-- the END of a loop -/
theorem go_endl {k m j : Nat} (h : ll L aw) (q : St L aw σ0 B0 D τ σ B V) (hm : m < 60) (hz : (m : Int) < σ0 14 2) (hkm : k < m) (h21 : σ0 15 m = 21) (h19 : σ0 19 m = k) (hc : σ0 15 k = 20) (hj : σ (L + 1) k = ((j + 1 : Nat) : Int)) (hj2 : j < 100) : Go L m σ (if j = 0 then m + 1 else k + 1) (upm σ (L + 1) k j) 1 := by
  obtain ⟨x, v, b, z1, z2⟩ := q
  have v' := v
  obtain ⟨v1, ⟨v2, v3, v4, v5, _⟩, v6, _⟩ := v'
  have ej : w32 (((j + 1 : Nat) : Int) - 1) = (j : Int) := by rw [w32_in (by omega) (by omega)]; omega
  refine tk_end h x hm hz (by omega) h21 (by omega) (by omega) ?_
  rw [wn_0 h x hm, if_neg (by omega), if_neg (by omega), if_neg (by omega), if_neg (by omega), if_pos h21, h19, x_round h x (by omega) (by omega), if_pos hc, obs, hj, ej]
  dsimp only
  by_cases z : j = 0
  · rw [if_pos (show (j : Int) ≤ 0 by omega), if_pos rfl, if_pos z, wkk1 (by omega)]
  · rw [if_neg (show ¬ (j : Int) ≤ 0 by omega), if_neg (by decide), if_neg z, wkk1 (by omega)]
/-- the rounds of a loop whose block is not empty -/
theorem O_rounds {k s d m e n : Nat} (h : ll L aw) (hR : Ref τ) (hd : d ≤ 2) (hm : m < 60) (hz : (m : Int) < σ0 14 2) (hkm : k + 1 < m) (hs : s < 30) (c8 : σ0 15 k = 20) (hn : B0 (57 + 9 * s + 1) = n) (hn2 : n ≤ 99) (he : B0 (57 + 9 * s + 8) = e) (h21 : σ0 15 m = 21) (h19 : σ0 19 m = k) (ih : ∀ σ B V, St L aw σ0 B0 D τ σ B V → Out L aw σ0 B0 D τ σ V (k + 1) (k + 1) m d (r 113 ((s + 1 : Nat) : Int) e (mm τ B V))) : ∀ (j i F : Nat) (σ : Mem) (B V : Nat → Int), i + (j + 1) = n → j + 2 ≤ F → σ (L + 1) k = ((j + 1 : Nat) : Int) → St L aw σ0 B0 D τ σ B V → Out L aw σ0 B0 D τ σ V (k + 1) k (m + 1) (d + 1) (f_X12_doOne_h119 r F 113 s ((57 + 9 * s : Nat) : Int) i (mm τ B V)) := by
  have w1 : w32 ((s : Int) + 1) = ((s + 1 : Nat) : Int) := wkk1 (by omega)
  have w8 : w32 (((57 + 9 * s : Nat) : Int) + 8) = ((57 + 9 * s + 8 : Nat) : Int) := w9 (i := 8) hs (by omega)
  have wo : w32 (((57 + 9 * s : Nat) : Int) + 1) = ((57 + 9 * s + 1 : Nat) : Int) := w9 (i := 1) hs (by omega)
  have b119 : ∀ {σ : Mem} {B V : Nat → Int} {i F : Nat}, XA σ0 σ L aw B0 D B → VA σ L τ B0 B V → i < 100 → f_X12_doOne_h119 r (F + 1) 113 s ((57 + 9 * s : Nat) : Int) i (mm τ B V) = if n ≤ i then some (mm τ B V) else if V 37 = 0 then (r 113 ((s + 1 : Nat) : Int) e (mm τ B V)).bind fun r24 => f_X12_doOne_h119 r F 113 s ((57 + 9 * s : Nat) : Int) ((i + 1 : Nat) : Int) r24 else some (mm τ B V) := by
    intro σ B V i F x v hi
    have hmm := mm_MH hR x.2.2.2.1 v.1
    have a1 := m_cd (τ := τ) (V := V) (i := 1) x hs (by omega)
    have a8 := m_cd (τ := τ) (V := V) (i := 8) x hs (by omega)
    rw [hs_X12_doOne_h119]
    unfold f_X12_doOne_b119 f_X12_doOne_b161
    simp only [gM, obs, hmm.1.at 113 20 118 rfl, wo, w8, w1, a1, a8, hn, he]
    rw [wkk1 (k := i) (by omega), mm_v]
    by_cases z : n ≤ i
    · rw [if_pos z, if_pos (by omega)]
    · rw [if_neg z, if_neg (by omega)]
  intro j
  induction j with
  | zero =>
    intro i F σ B V hi hF hr q
    obtain ⟨F, rfl⟩ : ∃ G, F = G + 2 := ⟨F - 2, by omega⟩
    rw [show F + 2 = (F + 1) + 1 from rfl, b119 q.1 q.2.1 (by omega), if_neg (by omega), if_pos q.2.2.2.1]
    obtain ⟨σ2, B2, V2, k2, n2, g1, g2, g3, g4, g5, g6, g7, g8, g9⟩ := ih _ _ _ q
    rw [g1, obs, b119 g2 g3 (by omega), if_pos (by omega)]
    rcases g9 with ⟨y1, y2, rfl, y4⟩ | ⟨y1, y2⟩
    · have y5 := y4 (by omega)
      have ge := go_endl (j := 0) h ⟨g2, g3, g4, y1, y2⟩ hm hz (by omega) h21 h19 c8 (by rw [g8 k (by omega)]; exact hr) (by omega)
      rw [if_pos rfl] at ge
      refine ⟨_, B2, V2, k2 + 1, n2 + 1, rfl, g2.rnd h, g3.rnd, g4, g5.trans ge, by omega, ?_, ?_, .inl ⟨y1, y2, rfl, fun _ => by omega⟩⟩
      · rcases (show d = 0 ∨ d = 1 ∨ d = 2 by omega) with rfl | rfl | rfl <;> omega
      · intro jj hj
        rw [upm_app, if_neg (by omega), g8 jj (by omega)]
    · refine ⟨σ2, B2, V2, k2, n2, rfl, g2, g3, g4, g5, by omega, ?_, fun j hj => g8 j (by omega), .inr ⟨y1, y2⟩⟩
      rcases (show d = 0 ∨ d = 1 ∨ d = 2 by omega) with rfl | rfl | rfl <;> omega
  | succ j ij =>
    intro i F σ B V hi hF hr q
    obtain ⟨F, rfl⟩ : ∃ G, F = G + 2 := ⟨F - 2, by omega⟩
    rw [show F + 2 = (F + 1) + 1 from rfl, b119 q.1 q.2.1 (by omega), if_neg (by omega), if_pos q.2.2.2.1]
    obtain ⟨σ2, B2, V2, k2, n2, g1, g2, g3, g4, g5, g6, g7, g8, g9⟩ := ih _ _ _ q
    rw [g1, obs]
    rcases g9 with ⟨y1, y2, rfl, y4⟩ | ⟨y1, y2⟩
    · have y5 := y4 (by omega)
      have ge := go_endl (j := j + 1) h ⟨g2, g3, g4, y1, y2⟩ hm hz (by omega) h21 h19 c8 (by rw [g8 k (by omega)]; exact hr) (by omega)
      rw [if_neg (by omega)] at ge
      obtain ⟨σ3, B3, V3, k3, n3, p1, p2, p3, p4, p5, p6, p7, p8, p9⟩ := ij (i + 1) (F + 1) (upm σ2 (L + 1) k ((j + 1 : Nat) : Int)) B2 V2 (by omega) (by omega) upm_same ⟨g2.rnd h, g3.rnd, g4, y1, y2⟩
      refine ⟨σ3, B3, V3, k3, n2 + (1 + n3), p1, p2, p3, p4, g5.trans (ge.trans p5), by omega, ?_, ?_, ?_⟩
      · rcases (show d = 0 ∨ d = 1 ∨ d = 2 by omega) with rfl | rfl | rfl <;> omega
      · intro jj hj
        rw [p8 jj (by omega), upm_app, if_neg (by omega), g8 jj (by omega)]
      · rcases p9 with ⟨p9, p10, p11, p12⟩ | p9
        · exact .inl ⟨p9, p10, p11, fun _ => by omega⟩
        · exact .inr p9
    · rw [b119 g2 g3 (by omega), if_neg (by omega), if_neg (by omega)]
      refine ⟨σ2, B2, V2, k2, n2, rfl, g2, g3, g4, g5, by omega, ?_, fun j hj => g8 j (by omega), .inr ⟨y1, y2⟩⟩
      rcases (show d = 0 ∨ d = 1 ∨ d = 2 by omega) with rfl | rfl | rfl <;> omega
/-- rounds of nothing -/
theorem m_rounds0 {s n : Nat} (hR : Ref τ) (hs : s < 30) (hn : B0 (57 + 9 * s + 1) = n) (hn2 : n ≤ 99) (he : B0 (57 + 9 * s + 8) = ((s + 1 : Nat) : Int)) (x : XA σ0 σ L aw B0 D B) (v : VA σ L τ B0 B V) (h37 : V 37 = 0) (ih : r 113 ((s + 1 : Nat) : Int) ((s + 1 : Nat) : Int) (mm τ B V) = some (mm τ B V)) : f_X12_doOne_h119 r FU 113 s ((57 + 9 * s : Nat) : Int) 0 (mm τ B V) = some (mm τ B V) := by
  have w1 : w32 ((s : Int) + 1) = ((s + 1 : Nat) : Int) := wkk1 (by omega)
  have w8 : w32 (((57 + 9 * s : Nat) : Int) + 8) = ((57 + 9 * s + 8 : Nat) : Int) := w9 (i := 8) hs (by omega)
  have wo : w32 (((57 + 9 * s : Nat) : Int) + 1) = ((57 + 9 * s + 1 : Nat) : Int) := w9 (i := 1) hs (by omega)
  have hmm := mm_MH hR x.2.2.2.1 v.1
  have a1 := m_cd (τ := τ) (V := V) (i := 1) x hs (by omega)
  have a8 := m_cd (τ := τ) (V := V) (i := 8) x hs (by omega)
  refine up_all (Q := fun m i => f_X12_doOne_h119 r m 113 s ((57 + 9 * s : Nat) : Int) i (mm τ B V) = some (mm τ B V)) n (fun m => ?_) (fun m i hi ih2 => ?_) (by unfold FU; omega)
  · rw [hs_X12_doOne_h119]
    unfold f_X12_doOne_b119 f_X12_doOne_b161
    simp only [gM, obs, hmm.1.at 113 20 118 rfl, wo, a1, hn]
    rw [if_pos (by omega)]
  · rw [hs_X12_doOne_h119]
    unfold f_X12_doOne_b119 f_X12_doOne_b161
    simp only [gM, obs, hmm.1.at 113 20 118 rfl, wo, w8, w1, a1, a8, hn, he]
    rw [mm_v, if_neg (by omega), if_pos h37, ih, obs, wkk1 (k := i) (by omega)]
    exact ih2
theorem O_loop {k s d m e : Nat} (h : ll L aw) (hR : Ref τ) (q : St L aw σ0 B0 D τ σ B V) (hd : d ≤ 2) (hm : m < 60) (hz : (m : Int) < σ0 14 2) (hkm : k < m) (hs : s < 30) (c : Op' σ0 14 k B0 s) (c8 : B0 (57 + 9 * s) = 8) (he : B0 (57 + 9 * s + 8) = e) (h21 : σ0 15 m = 21) (h19 : σ0 19 m = k) (h20 : σ0 19 k = m + 1) (hne : k + 1 < m → ¬ σ0 15 (k + 1) = 21) (hem : k + 1 = m → e = s + 1 ∧ ∀ σ, r 113 ((s + 1 : Nat) : Int) ((s + 1 : Nat) : Int) σ = some σ) (ih : ∀ σ B V, St L aw σ0 B0 D τ σ B V → Out L aw σ0 B0 D τ σ V (k + 1) (k + 1) m d (r 113 ((s + 1 : Nat) : Int) e (mm τ B V))) : Out L aw σ0 B0 D τ σ V k k (m + 1) (d + 1) (f_X12_doOne r 113 (s : Int) (mm τ B V)) := by
  have co := c.op
  by_cases hV : V 39 = 300
  · exact O_full h q (by omega) (by omega) (by omega) hV
  obtain ⟨x, v, b, z1, z2⟩ := q
  have v' := v
  obtain ⟨v1, ⟨v2, v3, v4, v5, _⟩, v6, _⟩ := v'
  obtain ⟨c1, c2, c3, c4, c5⟩ := co.resolve_right (by omega)
  obtain ⟨n, hn⟩ := nat_of (show 0 ≤ B0 (57 + 9 * s + 1) by omega)
  have e39 : w32 (V 39 + 1) = V 39 + 1 := w32_in (by omega) (by omega)
  have x1 : XA σ0 (upm σ L 4 (V 39 + 1)) L aw B0 D B := x.reg h (by omega)
  have u1 : VA (upm σ L 4 (V 39 + 1)) L τ B0 B (up1 V 39 (V 39 + 1)) := v.tick (by omega)
  have x2 : XA σ0 (upm (upm σ L 4 (V 39 + 1)) (L + 1) k n) L aw B0 D B := x1.rnd h
  have u2 : VA (upm (upm σ L 4 (V 39 + 1)) (L + 1) k n) L τ B0 B (up1 V 39 (V 39 + 1)) := u1.rnd
  have wn : f_X4_whereNext L k (upm σ L 4 (V 39 + 1)) = some (if k + 1 = m then ((m + 1 : Nat) : Int) else ((k + 1 : Nat) : Int), upm (upm σ L 4 (V 39 + 1)) (L + 1) k n) := by
    rw [wn_0 h x1 (by omega), if_neg (by omega), if_neg (by omega), if_neg (by omega), if_pos c1, c3, hn, x_empty h x2 (by omega) (by omega), obs, wkk1 (by omega), h20]
    by_cases z : k + 1 = m
    · rw [if_pos (show σ0 15 (k + 1) = 21 by rw [z]; exact h21), if_neg (by decide), if_pos z]
      rfl
    · rw [if_neg (hne (by omega)), if_pos rfl, if_neg z]
  have go : ∀ k' : Nat, (k' : Int) = (if k + 1 = m then ((m + 1 : Nat) : Int) else ((k + 1 : Nat) : Int)) → Go L k σ k' (upm (upm σ L 4 (V 39 + 1)) (L + 1) k n) 1 := by
    intro k' hk'
    refine go_op h x (by omega) (by omega) (by omega) (by omega) (by omega) (by omega) (by omega) ?_
    rw [v3, e39, wn, hk']
  have s1 : St L aw σ0 B0 D τ (upm (upm σ L 4 (V 39 + 1)) (L + 1) k n) B (up1 V 39 (V 39 + 1)) := ⟨x2, u2, by rw [up1_ne (by omega), up1_eq]; omega, by rw [up1_ne (by omega)]; exact z1, by rw [up1_ne (by omega)]; exact z2⟩
  have fr0 : ∀ j, j < k ∨ m + 1 ≤ j → upm (upm σ L 4 (V 39 + 1)) (L + 1) k n (L + 1) j = σ (L + 1) j := fun j hj => by rw [upm_app, if_neg (by omega), upm_o (by omega)]
  rw [one_lt hR x v hs hV, e39, if_pos (by omega), if_neg (by omega)]
  unfold f_X12_doOne_b110
  rw [if_pos c8]
  by_cases z : k + 1 = m
  · obtain ⟨q1, q2⟩ := hem z
    rw [m_rounds0 hR hs hn (by omega) (by rw [he, q1]) x2 u2 s1.2.2.2.1 (q2 _)]
    refine ⟨_, B, up1 V 39 (V 39 + 1), m + 1, 1, rfl, x2, u2, s1.2.2.1, go _ (by rw [if_pos z]), by rw [up1_eq]; omega, ?_, fr0, .inl ⟨s1.2.2.2.1, s1.2.2.2.2, rfl, fun _ => by rw [up1_eq]; omega⟩⟩
    rw [up1_eq, s1.2.2.2.2, show V 39 + 1 - V 39 = 1 by omega]; omega
  · obtain ⟨j, rfl⟩ : ∃ j, n = j + 1 := ⟨n - 1, by omega⟩
    obtain ⟨σ2, B2, V2, k2, n2, g1, g2, g3, g4, g5, g6, g7, g8, g9⟩ := O_rounds h hR hd hm hz (by omega) hs c1 hn (by omega) he h21 h19 ih j 0 FU _ _ _ (by omega) (by unfold FU; omega) upm_same s1
    rw [up1_eq] at g6 g7 g9
    refine ⟨σ2, B2, V2, k2, 1 + n2, g1, g2, g3, g4, (go (k + 1) (by rw [if_neg z])).trans g5, by omega, ?_, fun j hj => by rw [g8 j hj, fr0 j hj], ?_⟩
    · rcases (show d = 0 ∨ d = 1 ∨ d = 2 by omega) with rfl | rfl | rfl <;> omega
    · rcases g9 with ⟨y1, y2, y3, y4⟩ | y
      · exact .inl ⟨y1, y2, y3, fun _ => by omega⟩
      · exact .inr y
theorem Cd.ne : ∀ (n d lo hi k k1 : Nat), Cd σ0 14 B0 n d lo hi k k1 → (k < k1 → ¬ σ0 15 k = 21) ∧ (k = k1 → lo = hi) := by
  intro n d lo hi k k1 c
  cases n with
  | zero => exact ⟨fun q => by have := c.2; omega, fun _ => c.1⟩
  | succ n =>
    rcases c with ⟨c1, c2⟩ | ⟨c1, c2, c3⟩ | ⟨d1, m, e, c1, c2, c3, c4, c5, c6, c7, c8⟩
    · exact ⟨fun q => by omega, fun _ => c1⟩
    · have l := Cd.lim _ _ _ _ _ _ c3
      exact ⟨fun _ => by have := c1.op; omega, fun q => by omega⟩
    · have l := Cd.lim _ _ _ _ _ _ c4
      have l2 := Cd.lim _ _ _ _ _ _ c8
      exact ⟨fun _ => by have := c2.op; omega, fun q => by omega⟩
theorem O_nil {k d : Nat} (q : St L aw σ0 B0 D τ σ B V) : Out L aw σ0 B0 D τ σ V k k k d (some (mm τ B V)) := by
  obtain ⟨x, v, b, z1, z2⟩ := q
  refine ⟨σ, B, V, k, 0, rfl, x, v, b, Go.refl, by omega, ?_, fun _ _ => rfl, .inl ⟨z1, z2, rfl, fun q => by omega⟩⟩
  rw [Int.sub_self, Int.mul_zero]; omega
/-- all of it -/
theorem O_all (h : ll L aw) (hR : Ref τ) (hz : σ0 14 2 ≤ 60) : ∀ (n d lo hi k k1 R F : Nat) (σ : Mem) (B V : Nat → Int), Cd σ0 14 B0 n d lo hi k k1 → d ≤ 3 → d ≤ R → hi < lo + F → hi ≤ 30 → (k1 : Int) ≤ σ0 14 2 → St L aw σ0 B0 D τ σ B V → Out L aw σ0 B0 D τ σ V k k k1 d (f_X12_doAll_h2 (f_X12_doAll R) F 113 hi lo (mm τ B V)) := by
  have nil : ∀ {R F hi k d : Nat} {σ : Mem} {B V : Nat → Int}, hi < hi + F → St L aw σ0 B0 D τ σ B V → Out L aw σ0 B0 D τ σ V k k k d (f_X12_doAll_h2 (f_X12_doAll R) F 113 hi hi (mm τ B V)) := by
    intro R F hi k d σ B V hF q
    obtain ⟨F, rfl⟩ : ∃ G, F = G + 1 := ⟨F - 1, by omega⟩
    rw [hs_X12_doAll_h2]
    unfold f_X12_doAll_b2
    rw [if_pos (by omega)]
    exact O_nil q
  have st : ∀ {R F hi lo e k k2 k1 d : Nat} {σ : Mem} {B V : Nat → Int}, d ≤ 3 → lo < hi → hi ≤ 30 → B0 (57 + 9 * lo + 8) = e → k ≤ k2 → k2 ≤ k1 → St L aw σ0 B0 D τ σ B V → Out L aw σ0 B0 D τ σ V k k k2 d (f_X12_doOne (f_X12_doAll R) 113 lo (mm τ B V)) → 1 ≤ F → (∀ σ B V, St L aw σ0 B0 D τ σ B V → Out L aw σ0 B0 D τ σ V k2 k2 k1 d (f_X12_doAll_h2 (f_X12_doAll R) F 113 hi e (mm τ B V))) → Out L aw σ0 B0 D τ σ V k k k1 d (f_X12_doAll_h2 (f_X12_doAll R) (F + 1) 113 hi lo (mm τ B V)) := by
    intro R F hi lo e k k2 k1 d σ B V hd hl hh he hk hk2 q o hF nx
    rw [hs_X12_doAll_h2]
    unfold f_X12_doAll_b2
    rw [if_neg (by omega), gM, obs, mm_v, if_pos q.2.2.2.1]
    have w0 : w32 (57 + w32 (9 * (lo : Int))) = ((57 + 9 * lo : Nat) : Int) := by rw [w32_in (z := 9 * (lo : Int)) (by omega) (by omega), w32_in (by omega) (by omega)]; omega
    have w8 : w32 (((57 + 9 * lo : Nat) : Int) + 8) = ((57 + 9 * lo + 8 : Nat) : Int) := w9 (i := 8) (by omega) (by omega)
    have key : ∀ {σ : Mem} {B V : Nat → Int}, XA σ0 σ L aw B0 D B → VA σ L τ B0 B V → ((gf Sh (mm τ B V) 12 113 20).bind fun x4 => (al Sh (mm τ B V) 20 x4 (w32 (w32 (57 + w32 (9 * (lo : Int))) + 8))).bind fun x5 => f_X12_doAll_h2 (f_X12_doAll R) F 113 hi x5 (mm τ B V)) = f_X12_doAll_h2 (f_X12_doAll R) F 113 hi e (mm τ B V) := by
      intro σ B V x v
      have hmm := mm_MH hR x.2.2.2.1 v.1
      rw [gM, obs, hmm.1.at 113 20 118 rfl, w0, w8, m_cd (i := 8) x (by omega) (by omega), obs, he]
    obtain ⟨σ2, B2, V2, k3, n2, g1, g2, g3, g4, g5, g6, g7, g8, g9⟩ := o
    rw [g1, obs, key g2 g3]
    refine (Out.seq (o := some (mm τ B2 V2)) (g := fun σ => f_X12_doAll_h2 (f_X12_doAll R) F 113 hi e σ) hd ⟨σ2, B2, V2, k3, n2, rfl, g2, g3, g4, g5, g6, g7, g8, g9⟩ hk hk2 nx ?_)
    intro B V h37
    obtain ⟨F, rfl⟩ : ∃ G, F = G + 1 := ⟨F - 1, by omega⟩
    show f_X12_doAll_h2 (f_X12_doAll R) (F + 1) 113 hi e (mm τ B V) = _
    rw [hs_X12_doAll_h2]
    unfold f_X12_doAll_b2
    rw [gM, obs, mm_v, h37, if_neg (show ¬ (1 : Int) = 0 by decide), ite_self]
  intro n
  induction n with
  | zero =>
    intro d lo hi k k1 R F σ B V c hd hdr hF hh hk q
    obtain ⟨rfl, rfl⟩ := c
    exact nil hF q
  | succ n ih =>
    intro d lo hi k k1 R F σ B V c hd hdr hF hh hk q
    rcases c with ⟨rfl, rfl⟩ | ⟨c1, c2, c3⟩ | ⟨d1, m, e, rfl, c2, c3, c4, c5, c6, c7, c8⟩
    · exact nil hF q
    · have l := Cd.lim _ _ _ _ _ _ c3
      obtain ⟨F, rfl⟩ : ∃ G, F = G + 1 := ⟨F - 1, by omega⟩
      exact st (e := lo + 1) (k2 := k + 1) hd (by omega) hh (by rw [c2]; omega) (by omega) (by omega) q (O_simple h hR q (by omega) (by omega) (by omega) c1) (by omega) fun σ B V q2 => ih d (lo + 1) hi (k + 1) k1 R F σ B V c3 hd hdr (by omega) hh hk q2
    · have l := Cd.lim _ _ _ _ _ _ c4
      have l2 := Cd.lim _ _ _ _ _ _ c8
      obtain ⟨F, rfl⟩ : ∃ G, F = G + 1 := ⟨F - 1, by omega⟩
      obtain ⟨R, rfl⟩ : ∃ G, R = G + 1 := ⟨R - 1, by omega⟩
      have eb : ∀ {a b : Int} {σ : Mem}, f_X12_doAll (R + 1) 113 a b σ = f_X12_doAll_h2 (f_X12_doAll R) FU 113 b a σ := by
        intro a b σ
        rw [hs_X12_doAll]
        unfold f_X12_doAll_body f_X12_doAll_b0
        rw [if_pos oM]
      have body : ∀ σ B V, St L aw σ0 B0 D τ σ B V → Out L aw σ0 B0 D τ σ V (k + 1) (k + 1) m d1 (f_X12_doAll (R + 1) 113 ((lo + 1 : Nat) : Int) e (mm τ B V)) := fun σ B V q2 => by
        rw [eb]
        exact ih d1 (lo + 1) e (k + 1) m R FU σ B V c4 (by omega) (by omega) (by unfold FU; omega) (by omega) (by omega) q2
      refine st (e := e) (k2 := m + 1) hd (by omega) hh c3 (by omega) (by omega) q ?_ (by omega) fun σ B V q2 => ih (d1 + 1) e hi (m + 1) k1 (R + 1) F σ B V c8 hd hdr (by omega) hh hk q2
      have co := c2.op
      have ne := Cd.ne _ _ _ _ _ _ c4
      rcases co with ⟨o1, o2, _⟩ | ⟨o1, _⟩
      · refine O_loop h hR q (by omega) (by omega) (by omega) (by omega) (by omega) c2 o2 c3 c5 c6 c7 ne.1 (fun z => ⟨(ne.2 z).symm, fun σ => ?_⟩) body
        rw [eb, show FU = 199999 + 1 from rfl, hs_X12_doAll_h2]
        unfold f_X12_doAll_b2
        rw [if_pos (by omega)]
      · exact O_when h hR q (by omega) (by omega) (by omega) (by omega) (by omega) c2 o1 c3 c5 c6 c7 body
end
