/-! ===== TERMS lived: the two lives together ===== -/
section
variable {σ0 σ σ1 σ' τ : Mem} {L aw : Nat} {B0 B B' D V V' : Nat → Int}
theorem upm_me {b j : Nat} {v : Int} (h : σ b j = v) : upm σ b j v = σ := by
  funext c i
  rw [upm_app]
  split
  · next q => rw [q.1, q.2, h]
  · rfl
theorem o_eta {α : Type} (o : Option α) : (o.bind fun r => some r) = o := by cases o <;> rfl
theorem VA.tick {v : Int} (q : VA σ L τ B0 B V) (h : 0 ≤ v ∧ v ≤ 300) : VA (upm σ L 4 v) L τ B0 B (up1 V 39 v) := by
  obtain ⟨v1, ⟨v2, v3, v4, v5, v6, v7, v8⟩, v9, v10, v11, v12, v13⟩ := q
  refine ⟨v1.up (by omega), ⟨?_, by rw [upm_same, up1_eq], ?_, ?_, ?_, ?_, ?_⟩, ?_, ?_, ?_, ?_, ?_⟩
  all_goals (try rw [upm_app, if_neg (by omega)])
  all_goals (try rw [up1_ne (by omega)])
  · exact v2
  · exact v4
  · exact v5
  · exact v6
  · exact v7
  · exact v8
  · rw [up1_eq]; exact h
  · exact v10
  · exact v11
  · exact v12
  · exact v13
theorem VA.miss {v : Int} (q : VA σ L τ B0 B V) : VA (upm σ L 5 v) L τ B0 B (up1 V 40 v) := by
  obtain ⟨v1, ⟨v2, v3, v4, v5, v6, v7, v8⟩, v9, v10, v11, v12, v13⟩ := q
  refine ⟨v1.up (by omega), ⟨?_, ?_, by rw [upm_same, up1_eq], ?_, ?_, ?_, ?_⟩, ?_, ?_, ?_, ?_, ?_⟩
  all_goals (try rw [upm_app, if_neg (by omega)])
  all_goals (try rw [up1_ne (by omega)])
  · exact v2
  · exact v3
  · exact v5
  · exact v6
  · exact v7
  · exact v8
  · exact v9
  · exact v10
  · exact v11
  · exact v12
  · exact v13
theorem VA.over {v : Int} (q : VA σ L τ B0 B V) (h : v = 0 ∨ v = 1) : VA σ L τ B0 B (up1 V 37 v) := by
  obtain ⟨v1, ⟨v2, v3, v4, v5, v6, v7, v8⟩, v9, v10, v11, v12, v13⟩ := q
  refine ⟨v1.up (by omega), ⟨?_, ?_, ?_, ?_, v6, v7, v8⟩, ?_, ?_, ?_, ?_, ?_⟩
  all_goals (try rw [up1_ne (by omega)])
  · exact v2
  · exact v3
  · exact v4
  · exact v5
  · exact v9
  · exact v10
  · rw [up1_eq]; exact h
  · exact v12
  · exact v13
theorem VA.left {v : Int} (q : VA σ L τ B0 B V) (h : v = 0 ∨ v = 1) : VA (upm σ L 9 v) L τ B0 B (up1 V 44 v) := by
  obtain ⟨v1, ⟨v2, v3, v4, v5, v6, v7, v8⟩, v9, v10, v11, v12, v13⟩ := q
  refine ⟨v1.up (by omega), ⟨?_, ?_, ?_, by rw [upm_same, up1_eq], ?_, ?_, ?_⟩, ?_, ?_, ?_, ?_, ?_⟩
  all_goals (try rw [upm_app, if_neg (by omega)])
  all_goals (try rw [up1_ne (by omega)])
  · exact v2
  · exact v3
  · exact v4
  · exact v6
  · exact v7
  · exact v8
  · exact v9
  · exact v10
  · exact v11
  · rw [up1_eq]; exact h
  · exact v13
/-- what a piece of the terms makes of both lives -/
def Out (L aw : Nat) (σ0 : Mem) (B0 D : Nat → Int) (τ σ : Mem) (V : Nat → Int) (k ka k1 d : Nat) (o : Option Mem) : Prop :=
  ∃ (σ' : Mem) (B' V' : Nat → Int) (k' t : Nat), o = some (mm τ B' V') ∧ XA σ0 σ' L aw B0 D B' ∧ VA σ' L τ B0 B' V' ∧ (0 ≤ V' 40 ∧ V' 40 ≤ V' 39) ∧ Go L k σ k' σ' t ∧ V 39 ≤ V' 39 ∧ (t : Int) ≤ ((d + 1 : Nat) : Int) * (V' 39 - V 39) + V' 44 ∧ (∀ j, j < ka ∨ k1 ≤ j → σ' (L + 1) j = σ (L + 1) j) ∧ ((V' 37 = 0 ∧ V' 44 = 0 ∧ k' = k1 ∧ (k < k1 → V 39 + 1 ≤ V' 39)) ∨ (V' 37 = 1 ∧ (V' 44 = 1 ∨ (k' : Int) = σ0 14 2)))
/-- both at the start of a piece -/
def St (L aw : Nat) (σ0 : Mem) (B0 D : Nat → Int) (τ σ : Mem) (B V : Nat → Int) : Prop := XA σ0 σ L aw B0 D B ∧ VA σ L τ B0 B V ∧ (0 ≤ V 40 ∧ V 40 ≤ V 39) ∧ V 37 = 0 ∧ V 44 = 0
theorem Out.seq {k ka k2 k1 d : Nat} {o : Option Mem} {g : Mem → Option Mem} (hd : d ≤ 3) (h : Out L aw σ0 B0 D τ σ V k ka k2 d o) (hk : ka ≤ k2) (hk1 : k2 ≤ k1) (h1 : ∀ σ B V, St L aw σ0 B0 D τ σ B V → Out L aw σ0 B0 D τ σ V k2 k2 k1 d (g (mm τ B V))) (h2 : ∀ B V, V 37 = 1 → g (mm τ B V) = some (mm τ B V)) : Out L aw σ0 B0 D τ σ V k ka k1 d (o.bind g) := by
  obtain ⟨σ', B', V', k', t, e, x, v, b, go, l1, l2, fr, z⟩ := h
  rw [e, obs]
  rcases z with ⟨z1, z2, rfl, z4⟩ | ⟨z1, z2⟩
  · obtain ⟨σ2, B2, V2, k3, t2, e2, x2, v2, b2, go2, m1, m2, fr2, y⟩ := h1 _ _ _ ⟨x, v, b, z1, z2⟩
    refine ⟨σ2, B2, V2, k3, t + t2, e2, x2, v2, b2, go.trans go2, by omega, ?_, fun j hj => by rw [fr2 j (by omega), fr j (by omega)], ?_⟩
    · rcases (show d = 0 ∨ d = 1 ∨ d = 2 ∨ d = 3 by omega) with rfl | rfl | rfl | rfl <;> omega
    · rcases y with ⟨y1, y2, y3, y4⟩ | y
      · exact .inl ⟨y1, y2, y3, fun q => by omega⟩
      · exact .inr y
  · exact ⟨σ', B', V', k', t, by rw [h2 _ _ z1], x, v, b, go, l1, l2, fun j hj => fr j (by omega), .inr ⟨z1, z2⟩⟩
theorem one_300 {r : Int → Int → Int → Mem → Option Mem} {s : Int} (h : V 39 = 300) : f_X12_doOne r 113 s (mm τ B V) = some (mm τ B (up1 (up1 V 37 1) 44 1)) := by
  unfold f_X12_doOne f_X12_doOne_b0
  rw [if_pos oM, gM, obs, mm_v, if_pos h, pM, obs, pM, obs, mm_113, mm_113]
theorem one_lt {r : Int → Int → Int → Mem → Option Mem} {s : Nat} (hR : Ref τ) (x : XA σ0 σ L aw B0 D B) (v : VA σ L τ B0 B V) (hs : s < 30) (h : ¬ V 39 = 300) : f_X12_doOne r 113 (s : Int) (mm τ B V) = (if 7 ≤ B0 (57 + 9 * s) then if B0 (57 + 9 * s) = 7 then (f_X12_isSo 113 ((57 + 9 * s : Nat) : Int) (mm τ B (up1 V 39 (w32 (V 39 + 1))))).bind fun r8 => if r8 = 0 then f_X12_doOne_b110 r 113 s ((57 + 9 * s : Nat) : Int) (B0 (57 + 9 * s)) (mm τ B (up1 V 39 (w32 (V 39 + 1)))) else r 113 ((s + 1 : Nat) : Int) (B0 (57 + 9 * s + 8)) (mm τ B (up1 V 39 (w32 (V 39 + 1)))) else f_X12_doOne_b110 r 113 s ((57 + 9 * s : Nat) : Int) (B0 (57 + 9 * s)) (mm τ B (up1 V 39 (w32 (V 39 + 1)))) else (f_X12_does 113 ((57 + 9 * s : Nat) : Int) (mm τ B (up1 V 39 (w32 (V 39 + 1))))).bind fun r => some (upm r.2 113 40 (w32 (V 40 + if r.1 = 0 then 1 else 0)))) := by
  have hm := mm_MH (V := up1 V 39 (w32 (V 39 + 1))) hR x.2.2.2.1 (v.1.up (by omega))
  have a0 : al Sh (mm τ B (up1 V 39 (w32 (V 39 + 1)))) 20 118 ((57 + 9 * s : Nat) : Int) = some (B0 (57 + 9 * s)) := m_cd (i := 0) x hs (by omega)
  have a8 := m_cd (τ := τ) (V := up1 V 39 (w32 (V 39 + 1))) (i := 8) x hs (by omega)
  have w0 : w32 (57 + w32 (9 * (s : Int))) = ((57 + 9 * s : Nat) : Int) := by rw [w32_in (z := 9 * (s : Int)) (by omega) (by omega), w32_in (by omega) (by omega)]; omega
  have w1 : w32 ((s : Int) + 1) = ((s + 1 : Nat) : Int) := by rw [w32_in (by omega) (by omega)]; omega
  have w8 : w32 (((57 + 9 * s : Nat) : Int) + 8) = ((57 + 9 * s + 8 : Nat) : Int) := w9 (i := 8) hs (by omega)
  have e40 : up1 V 39 (w32 (V 39 + 1)) 40 = V 40 := up1_ne (by decide)
  have e20 : up1 V 39 (w32 (V 39 + 1)) 20 = 118 := mm_v.symm.trans (hm.1.at 113 20 118 rfl)
  unfold f_X12_doOne f_X12_doOne_b0
  simp only [oM, if_true, gM, pM, obs, mm_v, if_neg h, mm_113, e20, w0, w1, w8, a0, a8, o_eta, e40]
  unfold f_X12_doOne_b70
  simp only [pM, obs]
  by_cases z : 7 ≤ B0 (57 + 9 * s)
  · rw [if_pos z, if_pos z]
  · rw [if_neg z, if_neg z]
    cases f_X12_does 113 ((57 + 9 * s : Nat) : Int) (mm τ B (up1 V 39 (w32 (V 39 + 1)))) with
    | none => rfl
    | some r =>
      rw [obs, obs]
      split <;> rfl
theorem go_op {k k' : Nat} {σ4 : Mem} (h : ll L aw) (x : XA σ0 σ L aw B0 D B) (hk : k < 60) (hz : (k : Int) < σ0 14 2) (h9 : σ L 9 = 0) (hop : ¬ σ0 15 k = 21) (hc : σ0 15 k < 10 ∨ 16 < σ0 15 k) (h4 : σ L 4 < 300) (h5 : 0 ≤ σ L 5 ∧ σ L 5 ≤ 300) (hw : f_X4_whereNext L k (upm σ L 4 (w32 (σ L 4 + 1))) = some ((k' : Int), σ4)) : Go L k σ k' σ4 1 := by
  refine tk_step h x hk hz h9 hop h4 (x_isDone_n h (x.reg h (by omega)) hk hc) ?_
  rw [if_neg (by decide), upm_me (by rw [upm_app, if_neg (by omega), w32_in (by omega) (by omega), Int.add_zero])]
  exact hw
/-- one too many -/
theorem O_full {r : Int → Int → Int → Mem → Option Mem} {s : Int} {k ka k1 d : Nat} (h : ll L aw) (q : St L aw σ0 B0 D τ σ B V) (hk : k < 60) (hz : (k : Int) < σ0 14 2) (hop : ¬ σ0 15 k = 21) (hV : V 39 = 300) : Out L aw σ0 B0 D τ σ V k ka k1 d (f_X12_doOne r 113 s (mm τ B V)) := by
  obtain ⟨x, v, b, z1, z2⟩ := q
  have v' := v
  obtain ⟨v1, ⟨v2, v3, v4, v5, _⟩, _⟩ := v'
  refine ⟨upm σ L 9 1, B, up1 (up1 V 37 1) 44 1, k, 1, one_300 hV, x.reg h (by omega), (v.over (.inr rfl)).left (.inr rfl), ?_, tk_left h x hk hz (by omega) hop (by omega), ?_, ?_, ?_, .inr ⟨?_, .inl up1_eq⟩⟩
  · rw [up1_ne (by omega), up1_ne (by omega), up1_ne (by omega), up1_ne (by omega)]; exact b
  · rw [up1_ne (by omega), up1_ne (by omega)]; omega
  · rw [up1_ne (by omega), up1_ne (by omega), up1_eq, Int.sub_self, Int.mul_zero]; omega
  · exact fun j _ => upm_o (by omega)
  · rw [up1_ne (by omega), up1_eq]
end
