/-! ===== TERMS lived: one STEP, both sides ===== -/
section
variable {σ0 σ σ' τ : Mem} {L aw : Nat} {B0 B B' D V V' : Nat → Int}
def ll (L aw : Nat) : Prop := (L = 40 ∧ aw = 5) ∨ (L = 51 ∧ aw = 42)
theorem ll.wl (h : ll L aw) : wl aw := by rcases h with ⟨_, rfl⟩ | ⟨_, rfl⟩; exact .inl rfl; exact .inr (.inr (.inl rfl))
theorem oLL (h : ll L aw) : isO Sh 4 (L : Int) = true := by rcases h with ⟨rfl, _⟩ | ⟨rfl, _⟩ <;> rfl
theorem gLL {j : Nat} (h : ll L aw) : gf Sh σ 4 (L : Int) j = some (σ L j) := by rw [gf_at (oLL h), Int.toNat_natCast]
theorem pLL {j : Nat} {v : Int} (h : ll L aw) : pf Sh σ 4 (L : Int) j v = some (upm σ L j v) := by rw [pf_at (oLL h), Int.toNat_natCast]
theorem rLL (hR : Ref σ) (h : ll L aw) : σ L 0 = 14 ∧ σ L 1 = (aw : Int) ∧ σ L 2 = ((L + 1 : Nat) : Int) := by
  rcases h with ⟨rfl, rfl⟩ | ⟨rfl, rfl⟩ <;> exact ⟨hR.at _ _ _ rfl, hR.at _ _ _ rfl, hR.at _ _ _ rfl⟩
theorem shLL (h : ll L aw) : Sh[L + 1]? = some (20, 60) := by rcases h with ⟨rfl, _⟩ | ⟨rfl, _⟩ <;> rfl
theorem alLL {i : Nat} (h : ll L aw) (hi : i < 60) : al Sh σ 20 ((L + 1 : Nat) : Int) i = some (σ (L + 1) i) := by rw [al_at (isA_at (shLL h) (by omega) (by omega)), Int.toNat_natCast, Int.toNat_natCast]
theorem stLL {i : Nat} {v : Int} (h : ll L aw) (hi : i < 60) : st_ Sh σ 20 ((L + 1 : Nat) : Int) i v = some (upm σ (L + 1) i v) := by rw [st_at (isA_at (shLL h) (by omega) (by omega)), Int.toNat_natCast, Int.toNat_natCast]
def lS (L aw b j : Nat) : Prop := wS aw b j ∨ (b = L ∧ 3 ≤ j ∧ j ≤ 9) ∨ b = L + 1
theorem lS_nr {b j : Nat} (h : ll L aw) (hb : lS L aw b j) : isRf b j = false := by
  rcases hb with hb | ⟨rfl, h1, h2⟩ | rfl
  · exact hb.2.2
  · rcases h with ⟨rfl, _⟩ | ⟨rfl, _⟩ <;> rcases (show j = 3 ∨ j = 4 ∨ j = 5 ∨ j = 6 ∨ j = 7 ∨ j = 8 ∨ j = 9 by omega) with rfl | rfl | rfl | rfl | rfl | rfl | rfl <;> rfl
  · rcases h with ⟨rfl, _⟩ | ⟨rfl, _⟩ <;> exact isRf_cell rfl
theorem Fp.refS (h : ll L aw) (f : Fp (lS L aw) σ σ') (hR : Ref σ) : Ref σ' := by
  refine hR.cell fun e he => f _ _ fun q => ?_
  have : isRf e.1 e.2.1 = true := List.any_eq_true.mpr ⟨e, he, by simp⟩
  rw [lS_nr h q] at this
  cases this
/-- the terms' cells stay -/
theorem lS_14 {b j : Nat} (h : ll L aw) (h1 : 14 ≤ b) (h2 : b ≤ 19) : ¬ lS L aw b j := by
  rintro (⟨q1, q2, _⟩ | ⟨rfl, _⟩ | rfl) <;> rcases h with ⟨rfl, rfl⟩ | ⟨rfl, rfl⟩ <;> omega
/-- the reference's memory with another block, another row of its own -/
def mm (τ : Mem) (B V : Nat → Int) : Mem := setc (setc τ 118 B) 113 V
theorem mm_118 : setc (mm τ B V) 118 B' = mm τ B' V := by
  funext b
  unfold mm setc
  by_cases h1 : b = 118
  · subst h1; simp
  · simp [h1]
theorem mm_113 {j : Nat} {v : Int} : upm (mm τ B V) 113 j v = mm τ B (up1 V j v) := by unfold mm; rw [setc_upm]
theorem mm_b : mm τ B V 118 = B := by unfold mm; rw [setc_ne (by decide), setc_same]
theorem mm_v {j : Nat} : mm τ B V 113 j = V j := by unfold mm; rw [setc_same]
def vO (τ : Mem) (V : Nat → Int) : Prop := ∀ j, ¬ (37 ≤ j ∧ j ≤ 41) → ¬ j = 44 → V j = τ 113 j
theorem vO.up {j : Nat} {v : Int} (h : vO τ V) (hj : (37 ≤ j ∧ j ≤ 41) ∨ j = 44) : vO τ (up1 V j v) := fun i h1 h2 => by rw [up1_ne (by omega)]; exact h i h1 h2
theorem rf113b : (rfT.all fun e => !(e.1 == 118) && !(e.1 == 113 && ((decide (37 ≤ e.2.1) && decide (e.2.1 ≤ 41)) || e.2.1 == 44))) = true := by decide +kernel
theorem rf113 (e : Nat × Nat × Int) (he : e ∈ rfT) (h : e.1 = 118 ∨ (e.1 = 113 ∧ ((37 ≤ e.2.1 ∧ e.2.1 ≤ 41) ∨ e.2.1 = 44))) : False := by
  have := List.all_eq_true.mp rf113b e he
  simp at this
  omega
theorem mm_MH (hR : Ref τ) (hB : BV B) (hV : vO τ V) : MH (mm τ B V) B := by
  refine ⟨hR.cell fun e he => ?_, mm_b, hB⟩
  have hn := rf113 e he
  unfold mm setc
  by_cases h1 : e.1 = 113
  · simp only [h1, if_true]
    exact hV _ (fun q => hn (.inr ⟨h1, .inl q⟩)) (fun q => hn (.inr ⟨h1, .inr q⟩))
  · by_cases h2 : e.1 = 118
    · exact absurd (.inl h2) hn
    · simp only [h1, h2, if_false]
/-- the court's side of a life, its frame and its wall -/
def XA (σ0 σ : Mem) (L aw : Nat) (B0 D B : Nat → Int) : Prop := Fp (lS L aw) σ0 σ ∧ Ref σ ∧ WR σ aw B D ∧ BV B ∧ B 3 ≤ 9999 ∧ B 0 = B0 0 ∧ B 1 = B0 1 ∧ (∀ j, 55 ≤ j → B j = B0 j) ∧ 0 ≤ B0 3 ∧ B0 3 ≤ 9999
def VA (σ : Mem) (L : Nat) (τ : Mem) (B0 B V : Nat → Int) : Prop := vO τ V ∧ (σ L 3 = V 38 ∧ σ L 4 = V 39 ∧ σ L 5 = V 40 ∧ σ L 9 = V 44 ∧ σ L 6 = B0 3 ∧ σ L 7 = B0 5 ∧ σ L 8 = B0 6) ∧ (0 ≤ V 39 ∧ V 39 ≤ 300) ∧ V 41 = B 3 - B0 3 ∧ (V 37 = 0 ∨ V 37 = 1) ∧ (V 44 = 0 ∨ V 44 = 1) ∧ 0 ≤ V 38 ∧ V 38 ≤ 65535
theorem nL {b j : Nat} (h : ll L aw) (hb : b = L ∨ b = L + 1) : ¬ wS aw b j := by
  rintro ⟨q1, q2, _⟩
  rcases h with ⟨rfl, rfl⟩ | ⟨rfl, rfl⟩ <;> omega
theorem XA.wall (h : ll L aw) (x : XA σ0 σ L aw B0 D B) (f : Fp (wS aw) σ σ') (w : WR σ' aw B' D) (hB : BV B') (h3 : B' 3 ≤ 9999) (h0 : B' 0 = B 0) (h1 : B' 1 = B 1) (h55 : ∀ j, 55 ≤ j → B' j = B j) : XA σ0 σ' L aw B0 D B' := by
  obtain ⟨x1, x2, x3, x4, x5, x6, x7, x8, x9⟩ := x
  have f' : Fp (lS L aw) σ σ' := Fp.mono f fun b j q => .inl q
  exact ⟨x1.trans f', f.refW x2, w, hB, h3, by rw [h0, x6], by rw [h1, x7], fun j hj => by rw [h55 j hj, x8 j hj], x9⟩
theorem VA.wall (h : ll L aw) (v : VA σ L τ B0 B V) (f : Fp (wS aw) σ σ') (hy : B' 3 = B 3) : VA σ' L τ B0 B' V := by
  obtain ⟨v1, v2, v3, v4, v5⟩ := v
  have e : ∀ j, σ' L j = σ L j := fun j => f L j (nL h (.inl rfl))
  refine ⟨v1, ?_, v3, by rw [hy]; exact v4, v5⟩
  rw [e, e, e, e, e, e, e]
  exact v2
/-- the code at a place -/
theorem cdL {k m : Nat} (h : ll L aw) (x : XA σ0 σ L aw B0 D B) (h0 : 1 ≤ m) (h1 : m ≤ 5) : σ (14 + m) k = σ0 (14 + m) k := x.1 _ _ (lS_14 h (by omega) (by omega))
theorem t14 : tl 14 := .inl rfl
theorem x_draw {n : Nat} (h : ll L aw) (hn : 1 ≤ n ∧ n ≤ 100) (x : XA σ0 σ L aw B0 D B) (v : VA σ L τ B0 B V) : ∃ d z : Nat, d < n ∧ f_X4_draw L n σ = some ((d : Int), upm σ L 3 z) ∧ f_X12_draw 113 n (mm τ B V) = some ((d : Int), mm τ B (up1 V 38 z)) ∧ z ≤ 65535 := by
  obtain ⟨v1, ⟨v2, _⟩, _, _, _, _, v7, v8⟩ := v
  obtain ⟨s, hs⟩ := nat_of v7
  have e1 : w32 (Int.tmod (w32 (w32 ((s : Int) * 2971) + 10903)) 65536) = (((s * 2971 + 10903) % 65536 : Nat) : Int) := by
    rw [w32_in (z := (s : Int) * 2971) (by omega) (by omega), w32_in (z := (s : Int) * 2971 + 10903) (by omega) (by omega), Int.tmod_eq_emod_of_nonneg (by omega), w32_in (by omega) (by omega)]
    omega
  have lz : (s * 2971 + 10903) % 65536 < 65536 := Nat.mod_lt _ (by omega)
  refine ⟨(s * 2971 + 10903) % 65536 / 8 % n, (s * 2971 + 10903) % 65536, Nat.mod_lt _ (by omega), ?_, ?_, by omega⟩
  all_goals generalize hz : (s * 2971 + 10903) % 65536 = z at *
  · have e2 : w32 (Int.tmod (w32 (Int.tdiv (z : Int) 8)) n) = ((z / 8 % n : Nat) : Int) := by
      rw [Int.tdiv_eq_ediv_of_nonneg (by omega), w32_in (z := (z : Int) / 8) (by omega) (by omega), show (z : Int) / 8 = ((z / 8 : Nat) : Int) by omega, Int.tmod_eq_emod_of_nonneg (by omega), ← Int.natCast_emod]
      have := Nat.mod_lt (z / 8) (show 0 < n by omega)
      exact w32_nat (by omega)
    unfold f_X4_draw f_X4_draw_b0
    simp only [oLL h, if_true, gLL h, pLL h, obs, v2, hs, e1, upm_same]
    rw [if_neg (by omega), nzp (by omega), obs, e2]
  · have e2 : w32 (Int.tmod (w32 (Int.tdiv (z : Int) 8)) n) = ((z / 8 % n : Nat) : Int) := by
      rw [Int.tdiv_eq_ediv_of_nonneg (by omega), w32_in (z := (z : Int) / 8) (by omega) (by omega), show (z : Int) / 8 = ((z / 8 : Nat) : Int) by omega, Int.tmod_eq_emod_of_nonneg (by omega), ← Int.natCast_emod]
      have := Nat.mod_lt (z / 8) (show 0 < n by omega)
      exact w32_nat (by omega)
    unfold f_X12_draw f_X12_draw_b0
    simp only [oM, if_true, gM, pM, obs, mm_v, hs, e1, mm_113, up1_eq]
    rw [nzp (by omega), obs, e2]
theorem XA.reg {j : Nat} {v : Int} (h : ll L aw) (x : XA σ0 σ L aw B0 D B) (hj : 3 ≤ j ∧ j ≤ 9) : XA σ0 (upm σ L j v) L aw B0 D B := by
  obtain ⟨x1, x2, x3, x4, x5, x6, x7, x8, x9⟩ := x
  refine ⟨x1.then (.inr (.inl ⟨rfl, hj⟩)), x2.up (lS_nr (aw := aw) h (.inr (.inl ⟨rfl, hj⟩))), x3.cg (fun b i q1 q2 => ?_) (fun _ _ => rfl) (fun _ _ => rfl) x4, x4, x5, x6, x7, x8, x9⟩
  rw [upm_o]
  rintro rfl
  rcases h with ⟨rfl, rfl⟩ | ⟨rfl, rfl⟩ <;> omega
theorem VA.draw {z : Nat} (v : VA σ L τ B0 B V) (hz : z ≤ 65535) : VA (upm σ L 3 z) L τ B0 B (up1 V 38 z) := by
  obtain ⟨v1, ⟨v2, v3, v4, v5, v6, v7, v8⟩, v9, v10, v11, v12, _⟩ := v
  refine ⟨v1.up (by omega), ⟨by rw [upm_same, up1_eq], ?_, ?_, ?_, ?_, ?_, ?_⟩, ?_, ?_, ?_, ?_, ?_⟩
  all_goals (try rw [upm_app, if_neg (by omega)])
  all_goals (try rw [up1_ne (by omega)])
  · exact v3
  · exact v4
  · exact v5
  · exact v6
  · exact v7
  · exact v8
  · exact v9
  · exact v10
  · exact v11
  · exact v12
  · rw [up1_eq]; omega
/-- V' is V but for the draw and the years -/
def vK (V V' : Nat → Int) : Prop := ∀ j, ¬ j = 38 → ¬ j = 41 → V' j = V j
/-- what one STEP does, on both sides -/
def Dn (σ0 σ : Mem) (L aw : Nat) (B0 D : Nat → Int) (τ : Mem) (B V : Nat → Int) (fx fm : Mem → Option (Int × Mem)) : Prop :=
  ∃ ok σ' B' V', fx σ = some (ok, σ') ∧ fm (mm τ B V) = some (ok, mm τ B' V') ∧ (ok = 0 ∨ ok = 1) ∧ XA σ0 σ' L aw B0 D B' ∧ VA σ' L τ B0 B' V' ∧ vK V V' ∧ ∀ j, σ' (L + 1) j = σ (L + 1) j
theorem Dn.wall {fx fm : Mem → Option (Int × Mem)} {ok : Int} (h : ll L aw) (x : XA σ0 σ L aw B0 D B) (v : VA σ L τ B0 B V) (e1 : fx σ = some (ok, σ')) (e2 : fm (mm τ B V) = some (ok, mm τ B' V)) (ho : ok = 0 ∨ ok = 1) (f : Fp (wS aw) σ σ') (w : WR σ' aw B' D) (hB : BV B') (h3 : B' 3 = B 3) (h0 : B' 0 = B 0) (h1 : B' 1 = B 1) (h55 : ∀ j, 55 ≤ j → B' j = B j) : Dn σ0 σ L aw B0 D τ B V fx fm :=
  ⟨ok, σ', B', V, e1, e2, ho, x.wall h f w hB (by rw [h3]; exact x.2.2.2.2.1) h0 h1 h55, v.wall h f h3, fun _ _ _ => rfl, fun j => f _ _ (nL h (.inr rfl))⟩
theorem D_try {g d : Int} {p : Nat} (h : ll L aw) (hR : Ref τ) (x : XA σ0 σ L aw B0 D B) (v : VA σ L τ B0 B V) (hp : p < nP B) : Dn σ0 σ L aw B0 D τ B V (fun σ => (f_X9_holdTrial aw g p d σ).bind fun r => if r.1 = d then some (1, r.2) else some (0, r.2)) (fun τ => f_X12_tries 113 g p d τ) := by
  have hB := x.2.2.2.1
  obtain ⟨σ1, g1, g2, g3⟩ := x_holdTrial (g := g) (d := d) h.wl x.2.1 x.2.2.1 hB hp
  obtain ⟨t1, t2, t3⟩ := @trB_all B g d p hB
  have hn := hB.nP_le
  refine Dn.wall (ok := if trC B g p = d then 1 else 0) (B' := trB B g p d) h x v (σ' := σ1) ?_ ?_ (by split <;> simp) g3 g2 t1 (t2 3 (by omega)) (t2 0 (by omega)) (t2 1 (by omega)) (fun j hj => t2 j (by omega))
  · rw [g1, obs]
    dsimp only
    split <;> rfl
  · rw [m_tries (mm_MH hR hB v.1) (by omega), mm_118]
theorem D_years {n : Nat} (h : ll L aw) (hR : Ref τ) (x : XA σ0 σ L aw B0 D B) (v : VA σ L τ B0 B V) (hn : n ≤ 20) : Dn σ0 σ L aw B0 D τ B V (f_X9_passYears aw n) (f_X12_anyYears 113 n) := by
  obtain ⟨x1, x2, x3, x4, x5, x6, x7, x8, x9⟩ := x
  have b3 := x4.2.2.2.1
  obtain ⟨σ1, g1, g2, g3⟩ := x_passYears (n := n) h.wl x2 x3 x4 (by omega) x5
  have hm := mm_MH hR x4 v.1
  by_cases q : B 3 + n ≤ 9999
  · rw [if_pos q] at g1 g2
    have o : ∀ j, ¬ (27 ≤ j ∧ j < 37) → ¬ j = 3 → ageN B n j = B j := fun j hj h3 => by have := x4.nP_le; unfold ageN; rw [if_neg (by omega), if_neg h3]
    have o3 : ageN B n 3 = B 3 + n := by unfold ageN; rw [if_neg (by omega), if_pos rfl]
    obtain ⟨v1, v2, v3, v4, v5, v6, v7⟩ := v
    refine ⟨1, σ1, ageN B n, up1 V 41 (w32 (V 41 + n)), g1, ?_, .inr rfl, ?_, ?_, fun j _ hj => up1_ne hj, fun j => g3 _ _ (nL h (.inr rfl))⟩
    · unfold f_X12_anyYears f_X12_anyYears_b0
      simp only [oM, if_true, gM, obs, hm.1.at 113 20 118 rfl]
      rw [alC (by omega) (by omega), obs, mm_b, show Int.toNat 3 = 3 from rfl, w32_in (by omega) (by omega), if_pos q]
      have := up_all (Q := fun m i => f_X12_anyYears_h18 m 113 n i (setc (mm τ B V) 118 (ageN B i)) = some (1, mm τ (ageN B n) (up1 V 41 (w32 (V 41 + n))))) n (fun m => ?_) (fun m i hi ih => ?_) (by unfold FU; omega)
      · rw [ageN_0 x4, show setc (mm τ B V) 118 B = mm τ B V from mm_118] at this
        exact this
      · rw [hs_X12_anyYears_h18]
        unfold f_X12_anyYears_b18
        rw [if_pos (by omega), gM, obs, pM, obs, mm_118, mm_v, mm_113]
      · rw [hs_X12_anyYears_h18]
        unfold f_X12_anyYears_b18
        rw [if_neg (by omega), m_agesN hm (by omega), obs, w32_in (by omega) (by omega)]
        exact ih
    · exact XA.wall h ⟨x1, x2, x3, x4, x5, x6, x7, x8, x9⟩ g3 g2 (BV_ageN x4) (by rw [o3]; exact q) (o 0 (by omega) (by omega)) (o 1 (by omega) (by omega)) (fun j hj => o j (by omega) (by omega))
    · have e : ∀ j, σ1 L j = σ L j := fun j => g3 L j (nL h (.inl rfl))
      refine ⟨v1.up (by omega), ?_, ?_, ?_, ?_, ?_, ?_⟩
      · rw [e, e, e, e, e, e, e, up1_ne (by omega), up1_ne (by omega), up1_ne (by omega), up1_ne (by omega)]
        exact v2
      · rw [up1_ne (by omega)]; exact v3
      · rw [up1_eq, o3, v4, w32_in (by omega) (by omega)]
        omega
      · rw [up1_ne (by omega)]; exact v5
      · rw [up1_ne (by omega)]; exact v6
      · rw [up1_ne (by omega)]; exact v7
  · rw [if_neg q] at g1 g2
    refine Dn.wall (ok := 0) (B' := B) h ⟨x1, x2, x3, x4, x5, x6, x7, x8, x9⟩ v g1 ?_ (.inl rfl) g3 g2 x4 rfl rfl rfl (fun _ _ => rfl)
    unfold f_X12_anyYears f_X12_anyYears_b0
    simp only [oM, if_true, gM, obs, hm.1.at 113 20 118 rfl]
    rw [alC (by omega) (by omega), obs, mm_b, show Int.toNat 3 = 3 from rfl, w32_in (by omega) (by omega), if_neg q]
end
