/-! ===== what changes and what stays; the relation between the court's cells and the reference's ===== -/
def Fp (S : Nat → Nat → Prop) (σ σ' : Mem) : Prop := ∀ b j, ¬ S b j → σ' b j = σ b j
theorem Fp.refl {S : Nat → Nat → Prop} {σ : Mem} : Fp S σ σ := fun _ _ _ => rfl
theorem Fp.trans {S : Nat → Nat → Prop} {σ σ1 σ2 : Mem} (h : Fp S σ σ1) (g : Fp S σ1 σ2) : Fp S σ σ2 := fun b j q => (g b j q).trans (h b j q)
theorem Fp.mono {S T : Nat → Nat → Prop} {σ σ1 : Mem} (h : Fp S σ σ1) (hs : ∀ b j, S b j → T b j) : Fp T σ σ1 := fun b j q => h b j (fun r => q (hs b j r))
theorem Fp.up {S : Nat → Nat → Prop} {σ : Mem} {a i : Nat} {v : Int} (h : S a i) : Fp S σ (upm σ a i v) := by
  intro b j q
  rw [upm_app, if_neg]
  rintro ⟨rfl, rfl⟩
  exact q h
theorem Fp.then {S : Nat → Nat → Prop} {σ σ1 : Mem} {a i : Nat} {v : Int} (g : Fp S σ σ1) (h : S a i) : Fp S σ (upm σ1 a i v) := g.trans (Fp.up h)
/-- the group of a slot: 1..9 the court's, 11..19 the reference's, 10 what never changes, 0 and 20 what nobody looks at -/
def gid (a j : Nat) : Nat :=
  if isRf a j = true ∨ a = 4 then 10 else
  if a = 0 then (if j = 19 then 1 else if j = 16 then 4 else if j = 17 then 8 else if j = 18 then 9 else 0) else
  if a = 59 then 2 else if 60 ≤ a ∧ a ≤ 67 then 3 else if a = 2 then 4 else if a = 3 then (if j = 10 ∨ j = 11 then 5 else 0) else
  if 5 ≤ a ∧ a ≤ 13 then 6 else if 14 ≤ a ∧ a ≤ 19 then 7 else if 68 ≤ a ∧ a ≤ 112 then 8 else if a = 40 then (if 5 ≤ j ∧ j ≤ 9 then 9 else 0) else
  if a < 113 then 0 else
  if a = 113 then (if j = 0 then 11 else if j = 2 ∨ j = 3 then 12 else if j = 8 then 14 else if j = 10 ∨ j = 11 then 15 else if j = 23 then 18 else if j = 36 then 19 else 20) else
  if 114 ≤ a ∧ a ≤ 116 then 13 else if a = 117 then 14 else
  if a = 118 then (if j < 55 then 16 else if j < 327 then 17 else if j < 1308 then 18 else 20) else
  if a = 120 then (if j < 14 then 16 else if j < 56 then 18 else 20) else
  if a = 127 then 19 else 20
/-- only the groups of G change -/
def gs (G : List Nat) (b j : Nat) : Prop := gid b j ∈ G
def Fr (G : List Nat) (σ σ' : Mem) : Prop := Fp (gs G) σ σ'
theorem Fr.ref {G : List Nat} {σ σ' : Mem} (h : Fr G σ σ') (hG : 10 ∉ G) (hR : Ref σ) : Ref σ' := by
  refine hR.cell fun e he => h _ _ ?_
  have : isRf e.1 e.2.1 = true := List.any_eq_true.mpr ⟨e, he, by simp⟩
  unfold gs gid
  rw [if_pos (.inl this)]
  exact hG
theorem Fr.up {G : List Nat} {σ : Mem} {a i : Nat} {v : Int} (h : gid a i ∈ G) : Fr G σ (upm σ a i v) := Fp.up h
theorem Fr.then {G : List Nat} {σ σ1 : Mem} {a i : Nat} {v : Int} (g : Fr G σ σ1) (h : gid a i ∈ G) : Fr G σ (upm σ1 a i v) := Fp.trans g (Fp.up h)
theorem Fr.mono {G H : List Nat} {σ σ1 : Mem} (h : Fr G σ σ1) (hs : ∀ g ∈ G, g ∈ H) : Fr H σ σ1 := Fp.mono h fun _ _ q => hs _ q
theorem Fr.refl {G : List Nat} {σ : Mem} : Fr G σ σ := Fp.refl
theorem Fr.trans {G : List Nat} {σ σ1 σ2 : Mem} (h : Fr G σ σ1) (g : Fr G σ1 σ2) : Fr G σ σ2 := Fp.trans h g
/-- what a wall's methods may change -/
def wS (a b j : Nat) : Prop := a ≤ b ∧ b ≤ a + 8 ∧ isRf b j = false
theorem Fp.refW {a : Nat} {σ σ' : Mem} (h : Fp (wS a) σ σ') (hR : Ref σ) : Ref σ' := by
  refine hR.cell fun e he => h _ _ ?_
  have : isRf e.1 e.2.1 = true := List.any_eq_true.mpr ⟨e, he, by simp⟩
  unfold wS
  rw [this]
  simp
theorem gid_wS {b j : Nat} (h : wS 5 b j) : gid b j = 6 := by
  obtain ⟨h1, h2, h3⟩ := h
  unfold gid
  grind
theorem gid_wS42 {b j : Nat} (h : wS 42 b j) : gid b j = 0 := by
  obtain ⟨h1, h2, h3⟩ := h
  unfold gid
  grind
theorem gid_wS21 {b j : Nat} (h : wS 21 b j) : gid b j = 0 := by
  obtain ⟨h1, h2, h3⟩ := h
  unfold gid
  grind
theorem gid_wSm {i b j : Nat} (hi : i < 3) (h : wS (68 + 15 * i) b j) : gid b j = 8 := by
  obtain ⟨h1, h2, h3⟩ := h
  have h4 : 68 ≤ b ∧ b ≤ 112 := by omega
  clear h1 h2
  unfold gid
  grind
/-! TERMS -/
/-- a STEP without a block in the court's code at k is the reference's step s -/
def Sm (σ : Mem) (a k : Nat) (B : Nat → Int) (s : Nat) : Prop :=
  (σ (a + 1) k = 10 ∧ B (57 + 9 * s) = 0 ∧ σ (a + 2) k = B (57 + 9 * s + 1) ∧ 1 ≤ B (57 + 9 * s + 1) ∧ B (57 + 9 * s + 1) ≤ 20) ∨
  (σ (a + 1) k = 11 ∧ B (57 + 9 * s) = 1 ∧ (σ (a + 2) k = B (57 + 9 * s + 1) ∧ 0 ≤ B (57 + 9 * s + 1) ∧ B (57 + 9 * s + 1) ≤ 99) ∧ (σ (a + 3) k = B (57 + 9 * s + 2) ∧ 0 ≤ B (57 + 9 * s + 2) ∧ B (57 + 9 * s + 2) < B 0) ∧ σ (a + 4) k = B (57 + 9 * s + 3) ∧ 0 ≤ B (57 + 9 * s + 3) ∧ B (57 + 9 * s + 3) ≤ 1) ∨
  ((2 ≤ B (57 + 9 * s) ∧ B (57 + 9 * s) ≤ 4) ∧ σ (a + 1) k = 10 + B (57 + 9 * s) ∧ σ (a + 2) k = B (57 + 9 * s + 1) ∧ 0 ≤ B (57 + 9 * s + 1) ∧ B (57 + 9 * s + 1) < B 0) ∨
  (σ (a + 1) k = 15 ∧ B (57 + 9 * s) = 5 ∧ (σ (a + 2) k = B (57 + 9 * s + 1) ∧ 0 ≤ B (57 + 9 * s + 1) ∧ B (57 + 9 * s + 1) < B 1) ∧ σ (a + 3) k = B (57 + 9 * s + 2) ∧ 0 ≤ B (57 + 9 * s + 2) ∧ B (57 + 9 * s + 2) < B 0) ∨
  (σ (a + 1) k = 16 ∧ B (57 + 9 * s) = 6) ∨ (σ (a + 1) k = 22 ∧ B (57 + 9 * s) = 9)
/-- one with a block -/
def Op' (σ : Mem) (a k : Nat) (B : Nat → Int) (s : Nat) : Prop :=
  (σ (a + 1) k = 20 ∧ B (57 + 9 * s) = 8 ∧ σ (a + 2) k = B (57 + 9 * s + 1) ∧ 1 ≤ B (57 + 9 * s + 1) ∧ B (57 + 9 * s + 1) ≤ 99) ∨
  (B (57 + 9 * s) = 7 ∧ (σ (a + 2) k = B (57 + 9 * s + 1) ∧ 0 ≤ B (57 + 9 * s + 1) ∧ B (57 + 9 * s + 1) < B 0) ∧
    ((σ (a + 1) k = 18 ∧ B (57 + 9 * s + 5) = 0 ∧ (σ (a + 3) k = B (57 + 9 * s + 2) ∧ 0 ≤ B (57 + 9 * s + 2) ∧ B (57 + 9 * s + 2) < B 0) ∧ σ (a + 4) k = B (57 + 9 * s + 3) ∧ 0 ≤ B (57 + 9 * s + 3) ∧ B (57 + 9 * s + 3) ≤ 99) ∨
     (σ (a + 1) k = 19 ∧ B (57 + 9 * s + 5) = 1) ∨
     (σ (a + 1) k = 3 ∧ B (57 + 9 * s + 5) = 2 ∧ (σ (a + 3) k = B (57 + 9 * s + 7) ∧ 60 ≤ B (57 + 9 * s + 7) ∧ B (57 + 9 * s + 7) ≤ 62) ∧ σ (a + 4) k = B (57 + 9 * s + 6) ∧ 0 ≤ B (57 + 9 * s + 6) ∧ B (57 + 9 * s + 6) ≤ 9)))
/-- the court's code from k to k1 is the reference's steps from lo to hi, blocks at most d deep -/
def Cd (σ : Mem) (a : Nat) (B : Nat → Int) : Nat → Nat → Nat → Nat → Nat → Nat → Prop
  | 0, _, lo, hi, k, k1 => lo = hi ∧ k = k1
  | n + 1, d, lo, hi, k, k1 => (lo = hi ∧ k = k1) ∨
    (Sm σ a k B lo ∧ B (57 + 9 * lo + 8) = lo + 1 ∧ Cd σ a B n d (lo + 1) hi (k + 1) k1) ∨
    (∃ d1 m e : Nat, d = d1 + 1 ∧ Op' σ a k B lo ∧ B (57 + 9 * lo + 8) = e ∧ Cd σ a B n d1 (lo + 1) e (k + 1) m ∧ σ (a + 1) m = 21 ∧ σ (a + 5) m = k ∧ σ (a + 5) k = m + 1 ∧ Cd σ a B n d e hi (m + 1) k1)
def TR (σ : Mem) (a : Nat) (B : Nat → Int) : Prop :=
  σ a 0 = B 55 ∧ (B 55 = 0 ∨ B 55 = 1) ∧ σ a 1 = B 56 ∧ (0 ≤ B 56 ∧ B 56 ≤ 30) ∧ (0 ≤ σ a 2 ∧ σ a 2 ≤ 60) ∧ ∃ n, Cd σ a B n 3 0 (B 56).toNat 0 (σ a 2).toNat
/-! the whole relation -/
def blk (σ : Mem) (i : Nat) : Nat → Int := fun j => σ 118 (327 * i + j)
def wrd (σ : Mem) (i : Nat) : Nat → Int := fun j => σ 120 (14 * i + j)
def R2 (σ : Mem) : Prop := σ 59 0 = σ 113 2 ∧ σ 59 1 = σ 113 3
def R3 (σ : Mem) : Prop := ∀ t, t < 4 → (σ 115 t = -1 ∧ σ (60 + 2 * t) 1 = -1) ∨
  ((0 ≤ σ 115 t ∧ σ 115 t ≤ 60) ∧ (0 ≤ σ 114 t ∧ σ 114 t ≤ 3) ∧ σ (60 + 2 * t) 1 = σ 114 t ∧ σ (60 + 2 * t) 2 = σ 115 t ∧ ∀ k : Nat, (k : Int) < σ 115 t → σ (61 + 2 * t) k = σ 116 (60 * t + k))
def R4 (σ : Mem) : Prop := (σ 0 16 = σ 113 8 ∧ 0 ≤ σ 113 8 ∧ σ 113 8 ≤ 900) ∧ ∀ k, k < 900 → σ 2 k = σ 117 k ∧ -128 ≤ σ 117 k ∧ σ 117 k ≤ 127
def R5 (σ : Mem) : Prop := σ 3 10 = σ 113 10 ∧ σ 3 11 = σ 113 11
def R6 (σ : Mem) : Prop := WR σ 5 (σ 118) (σ 120) ∧ BV (σ 118) ∧ σ 118 3 ≤ 9999
def R7 (σ : Mem) : Prop := TR σ 14 (σ 118)
def R8 (σ : Mem) : Prop := (σ 0 17 = σ 113 23 ∧ 0 ≤ σ 113 23 ∧ σ 113 23 ≤ 3) ∧ ∀ i : Nat, (i : Int) < σ 113 23 → WR σ (68 + 15 * i) (blk σ (i + 1)) (wrd σ (i + 1)) ∧ BV (blk σ (i + 1)) ∧ TR σ (77 + 15 * i) (blk σ (i + 1)) ∧ blk σ (i + 1) 3 ≤ 9999
def R9 (σ : Mem) : Prop := (σ 0 18 = σ 113 36 ∧ (σ 113 36 = 0 ∨ σ 113 36 = 1)) ∧ (σ 113 36 = 1 → (∀ k, k < 5 → σ 40 (5 + k) = σ 127 k) ∧ (σ 127 4 = 0 ∨ σ 127 4 = 1))
def Rel (σ : Mem) : Prop := Ref σ ∧ σ 0 19 = σ 113 0 ∧ R2 σ ∧ R3 σ ∧ R4 σ ∧ R5 σ ∧ R6 σ ∧ R7 σ ∧ R8 σ ∧ R9 σ ∧ σ 4 = SG 4
/-! each part of it looks at its groups alone -/
theorem WR.cg {σ σ' : Mem} {a : Nat} {B B' D D' : Nat → Int} (h : WR σ a B D) (hs : ∀ b j, a ≤ b → b ≤ a + 8 → σ' b j = σ b j) (hB : ∀ j, j < 55 → B' j = B j) (hD : ∀ j, j < 14 → D' j = D j) (hV : BV B) : WR σ' a B' D' := by
  have hn := hV.nP_le
  have hk := hV.nK_le
  have e1 : nP B' = nP B := by unfold nP; rw [hB 0 (by omega)]
  have e2 : nK B' = nK B := by unfold nK; rw [hB 1 (by omega)]
  have e3 : ∀ p, p < 10 → stn B' p = stn B p := fun p hp => by unfold stn; rw [hB _ (by omega)]
  have e4 : aS B' = aS B := by unfold aS; rw [e1]; exact setOf_cg fun k hk => e3 k (by omega)
  have e5 : ∀ p k, k ≤ 4 → cs B' p k = cs B p k := by
    intro p k hk
    induction k with
    | zero => rfl
    | succ k ih => rw [cs_s, cs_s, ih (by omega), hB _ (by omega), hB _ (by omega)]
  obtain ⟨⟨g1, g2, g3, g4, g5, g6, g7, g8⟩, k1, k2, k3, k4⟩ := h
  refine ⟨⟨?_, ?_, ?_, ?_, ?_, ?_, ?_, ?_⟩, ?_, ?_, ?_, ?_⟩
  · rw [hs _ _ (by omega) (by omega), hB _ (by omega), g1]
  · rw [hs _ _ (by omega) (by omega), e4, g2]
  · rw [hs _ _ (by omega) (by omega), hB _ (by omega), g3]
  · rw [hs _ _ (by omega) (by omega), hB _ (by omega), g4]
  · rw [hs _ _ (by omega) (by omega), hB _ (by omega), g5]
  · rw [hs _ _ (by omega) (by omega), hB _ (by omega), g6]
  · rw [hs _ _ (by omega) (by omega), hB _ (by omega), g7]
  · rw [hs _ _ (by omega) (by omega), hB _ (by omega), g8]
  · intro p hp
    rw [e1] at hp
    rw [e3 p (by omega), e2, e5 _ _ hk.1, hs _ _ (by omega) (by omega), hs _ _ (by omega) (by omega), hs _ _ (by omega) (by omega), hs _ _ (by omega) (by omega), hB _ (by omega), hB _ (by omega), hB _ (by omega)]
    exact k1 p hp
  · intro w hw
    rw [e2] at hw
    rw [hs _ _ (by omega) (by omega), hs _ _ (by omega) (by omega), hB _ (by omega), hB _ (by omega)]
    exact k2 w hw
  · intro p hp
    rw [e1] at hp
    rw [hs _ _ (by omega) (by omega), hD _ (by omega)]
    exact k3 p hp
  · intro w hw
    rw [e2] at hw
    rw [hs _ _ (by omega) (by omega), hD _ (by omega)]
    exact k4 w hw
theorem BV.cg {B B' : Nat → Int} (h : BV B) (hB : ∀ j, j < 55 → B' j = B j) : BV B' := by
  have hk := h.nK_le
  obtain ⟨b0, b1, b2, b3, b4, b5⟩ := h
  have e2 : nK B' = nK B := by unfold nK; rw [hB 1 (by omega)]
  refine ⟨by rw [hB _ (by omega)]; exact b0, by rw [hB _ (by omega)]; exact b1, by rw [hB 2 (by omega), hB 5 (by omega)]; exact b2, by rw [hB _ (by omega)]; exact b3, ?_, ?_⟩
  · intro p hp
    rw [hB (7 + p) (by omega), hB (17 + p) (by omega), hB (27 + p) (by omega), hB (37 + p) (by omega), hB 0 (by omega)]
    exact b4 p hp
  · intro w hw
    rw [e2] at hw
    obtain ⟨c1, c2⟩ := b5 w hw
    rw [hB (51 + w) (by omega), hB (47 + w) (by omega), hB 0 (by omega)]
    refine ⟨c1, ?_⟩
    rcases c2 with c2 | ⟨c2, c3, c4⟩
    · exact .inl c2
    · refine .inr ⟨c2, c3, ?_⟩
      unfold stn at c4 ⊢
      rw [hB _ (by omega)]
      exact c4
theorem Sm.cg {σ σ' : Mem} {a k s : Nat} {B B' : Nat → Int} (h : Sm σ a k B s) (hs : ∀ b j, a ≤ b → b ≤ a + 5 → σ' b j = σ b j) (h0 : B' 0 = B 0) (h1 : B 1 ≤ B' 1) (hB : ∀ j, 57 ≤ j → B' j = B j) : Sm σ' a k B' s := by
  unfold Sm at h ⊢
  rw [hs _ _ (by omega) (by omega), hs _ _ (by omega) (by omega), hs _ _ (by omega) (by omega), hs _ _ (by omega) (by omega), h0, hB _ (by omega), hB _ (by omega), hB _ (by omega), hB _ (by omega)]
  rcases h with h | h | h | h | h | h
  · exact .inl h
  · exact .inr (.inl h)
  · exact .inr (.inr (.inl h))
  · refine .inr (.inr (.inr (.inl ?_)))
    obtain ⟨c1, c2, ⟨c3, c4, c5⟩, c6⟩ := h
    exact ⟨c1, c2, ⟨c3, c4, by omega⟩, c6⟩
  · exact .inr (.inr (.inr (.inr (.inl h))))
  · exact .inr (.inr (.inr (.inr (.inr h))))
theorem Op'.cg {σ σ' : Mem} {a k s : Nat} {B B' : Nat → Int} (h : Op' σ a k B s) (hs : ∀ b j, a ≤ b → b ≤ a + 5 → σ' b j = σ b j) (h0 : B' 0 = B 0) (hB : ∀ j, 57 ≤ j → B' j = B j) : Op' σ' a k B' s := by
  unfold Op' at h ⊢
  rw [hs _ _ (by omega) (by omega), hs _ _ (by omega) (by omega), hs _ _ (by omega) (by omega), hs _ _ (by omega) (by omega), h0, hB _ (by omega), hB _ (by omega), hB _ (by omega), hB _ (by omega), hB _ (by omega), hB _ (by omega), hB _ (by omega)]
  exact h
theorem Cd.cg {σ σ' : Mem} {a : Nat} {B B' : Nat → Int} (hs : ∀ b j, a ≤ b → b ≤ a + 5 → σ' b j = σ b j) (h0 : B' 0 = B 0) (h1 : B 1 ≤ B' 1) (hB : ∀ j, 57 ≤ j → B' j = B j) : ∀ (n d lo hi k k1 : Nat), Cd σ a B n d lo hi k k1 → Cd σ' a B' n d lo hi k k1 := by
  intro n
  induction n with
  | zero => intro d lo hi k k1 h; exact h
  | succ n ih =>
    intro d lo hi k k1 h
    unfold Cd at h ⊢
    rcases h with h | ⟨g1, g2, g3⟩ | ⟨d1, m, e, g1, g2, g3, g4, g5, g6, g7, g8⟩
    · exact .inl h
    · exact .inr (.inl ⟨g1.cg hs h0 h1 hB, by rw [hB _ (by omega)]; exact g2, ih _ _ _ _ _ g3⟩)
    · exact .inr (.inr ⟨d1, m, e, g1, g2.cg hs h0 hB, by rw [hB _ (by omega)]; exact g3, ih _ _ _ _ _ g4, by rw [hs _ _ (by omega) (by omega)]; exact g5, by rw [hs _ _ (by omega) (by omega)]; exact g6, by rw [hs _ _ (by omega) (by omega)]; exact g7, ih _ _ _ _ _ g8⟩)
theorem TR.cg {σ σ' : Mem} {a : Nat} {B B' : Nat → Int} (h : TR σ a B) (hs : ∀ b j, a ≤ b → b ≤ a + 5 → σ' b j = σ b j) (h0 : B' 0 = B 0) (h1 : B 1 ≤ B' 1) (hB : ∀ j, 55 ≤ j → B' j = B j) : TR σ' a B' := by
  unfold TR at h ⊢
  rw [hs _ _ (by omega) (by omega), hs _ _ (by omega) (by omega), hs _ _ (by omega) (by omega), hB _ (by omega), hB _ (by omega)]
  obtain ⟨c1, c2, c3, c4, c5, n, c6⟩ := h
  exact ⟨c1, c2, c3, c4, c5, n, Cd.cg hs h0 h1 (fun j hj => hB j (by omega)) _ _ _ _ _ _ c6⟩
theorem gid6 {b j : Nat} (h : 5 ≤ b) (h1 : b ≤ 13) : gid b j = 6 ∨ gid b j = 10 := by unfold gid; grind
theorem gid7 {b j : Nat} (h : 14 ≤ b) (h1 : b ≤ 19) : gid b j = 7 ∨ gid b j = 10 := by unfold gid; grind
theorem gid8 {b j : Nat} (h : 68 ≤ b) (h1 : b ≤ 112) : gid b j = 8 ∨ gid b j = 10 := by unfold gid; grind
theorem gid3 {b j : Nat} (h : 60 ≤ b) (h1 : b ≤ 67) : gid b j = 3 ∨ gid b j = 10 := by unfold gid; grind
theorem gid_nr {b j : Nat} (h : (rfT.any fun e => e.1 == b) = false) : isRf b j = false := isRf_cell h
theorem gid13 {b j : Nat} (h : b = 114 ∨ b = 115 ∨ b = 116) : gid b j = 13 := by
  have h1 : isRf b j = false := by rcases h with rfl | rfl | rfl <;> exact isRf_cell rfl
  unfold gid
  rcases h with rfl | rfl | rfl <;> simp [h1]
theorem gid118 {j : Nat} : gid 118 j = if j < 55 then 16 else if j < 327 then 17 else if j < 1308 then 18 else 20 := by
  have h1 : isRf 118 j = false := isRf_cell rfl
  unfold gid
  simp [h1]
theorem gid120 {j : Nat} : gid 120 j = if j < 14 then 16 else if j < 56 then 18 else 20 := by
  have h1 : isRf 120 j = false := isRf_cell rfl
  unfold gid
  simp [h1]
theorem gid4 {j : Nat} : gid 2 j = 4 ∧ gid 117 j = 14 := by
  have h1 : isRf 2 j = false := isRf_cell rfl
  have h2 : isRf 117 j = false := isRf_cell rfl
  unfold gid
  simp [h1, h2]
theorem gid127 {j : Nat} : gid 127 j = 19 := by
  have h1 : isRf 127 j = false := isRf_cell rfl
  unfold gid
  simp [h1]
section
variable {G : List Nat} {σ σ' : Mem}
theorem Fr.at (h : Fr G σ σ') {a j g : Nat} (e : gid a j = g) (hg : g ∉ G) : σ' a j = σ a j := h a j (by unfold gs; rw [e]; exact hg)
theorem R2.fr (f : Fr G σ σ') (h : R2 σ) (g1 : 2 ∉ G) (g2 : 12 ∉ G) : R2 σ' := by
  unfold R2 at h ⊢
  rw [f.at (a := 59) (j := 0) rfl g1, f.at (a := 59) (j := 1) rfl g1, f.at (a := 113) (j := 2) rfl g2, f.at (a := 113) (j := 3) rfl g2]
  exact h
theorem R3.fr (f : Fr G σ σ') (h : R3 σ) (g1 : 3 ∉ G) (g2 : 13 ∉ G) (g3 : 10 ∉ G) : R3 σ' := by
  intro t ht
  have e1 : ∀ j, σ' 115 j = σ 115 j ∧ σ' 114 j = σ 114 j ∧ σ' 116 j = σ 116 j := fun j => ⟨f.at (gid13 (by omega)) g2, f.at (gid13 (by omega)) g2, f.at (gid13 (by omega)) g2⟩
  have e2 : ∀ b j, 60 ≤ b → b ≤ 67 → σ' b j = σ b j := fun b j h1 h2 => by
    rcases gid3 (j := j) h1 h2 with e | e
    · exact f.at e g1
    · exact f.at e g3
  have := h t ht
  rw [(e1 t).1, (e1 t).2.1, e2 _ _ (by omega) (by omega), e2 _ _ (by omega) (by omega)]
  rcases this with q | ⟨q1, q2, q3, q4, q5⟩
  · exact .inl q
  · exact .inr ⟨q1, q2, q3, q4, fun k hk => by rw [e2 _ _ (by omega) (by omega), (e1 _).2.2]; exact q5 k hk⟩
theorem R4.fr (f : Fr G σ σ') (h : R4 σ) (g1 : 4 ∉ G) (g2 : 14 ∉ G) : R4 σ' := by
  obtain ⟨h1, h2⟩ := h
  unfold R4
  rw [f.at (a := 0) (j := 16) rfl g1, f.at (a := 113) (j := 8) rfl g2]
  exact ⟨h1, fun k hk => by rw [f.at gid4.1 g1, f.at gid4.2 g2]; exact h2 k hk⟩
theorem R5.fr (f : Fr G σ σ') (h : R5 σ) (g1 : 5 ∉ G) (g2 : 15 ∉ G) : R5 σ' := by
  unfold R5 at h ⊢
  rw [f.at (a := 3) (j := 10) rfl g1, f.at (a := 3) (j := 11) rfl g1, f.at (a := 113) (j := 10) rfl g2, f.at (a := 113) (j := 11) rfl g2]
  exact h
theorem fr118 (f : Fr G σ σ') (g2 : 16 ∉ G) : (∀ j, j < 55 → σ' 118 j = σ 118 j) ∧ ∀ j, j < 14 → σ' 120 j = σ 120 j :=
  ⟨fun j hj => f.at (by rw [gid118, if_pos hj]) g2, fun j hj => f.at (by rw [gid120, if_pos hj]) g2⟩
theorem R6.fr (f : Fr G σ σ') (h : R6 σ) (g1 : 6 ∉ G) (g2 : 16 ∉ G) (g3 : 10 ∉ G) : R6 σ' := by
  obtain ⟨h1, h2, h3⟩ := h
  obtain ⟨e1, e2⟩ := fr118 f g2
  refine ⟨h1.cg (fun b j q1 q2 => ?_) e1 e2 h2, h2.cg e1, by rw [e1 3 (by omega)]; exact h3⟩
  rcases gid6 (j := j) q1 q2 with e | e
  · exact f.at e g1
  · exact f.at e g3
theorem Cd.lim {σ : Mem} {a : Nat} {B : Nat → Int} : ∀ (n d lo hi k k1 : Nat), Cd σ a B n d lo hi k k1 → lo ≤ hi ∧ k ≤ k1 := by
  intro n
  induction n with
  | zero => intro d lo hi k k1 h; obtain ⟨rfl, rfl⟩ := h; exact ⟨Nat.le_refl _, Nat.le_refl _⟩
  | succ n ih =>
    intro d lo hi k k1 h
    unfold Cd at h
    rcases h with ⟨rfl, rfl⟩ | ⟨g1, g2, g3⟩ | ⟨d1, m, e, g1, g2, g3, g4, g5, g6, g7, g8⟩
    · exact ⟨Nat.le_refl _, Nat.le_refl _⟩
    · have := ih _ _ _ _ _ g3; omega
    · have := ih _ _ _ _ _ g4; have := ih _ _ _ _ _ g8; omega
/-- only the steps below hi are looked at -/
theorem Cd.cg' {σ σ' : Mem} {a N M : Nat} {B B' : Nat → Int} (hs : ∀ b j, a ≤ b → b ≤ a + 5 → j < M → σ' b j = σ b j) (h0 : B' 0 = B 0) (h1 : B 1 ≤ B' 1) (hB : ∀ j, 57 ≤ j → j < 57 + 9 * N → B' j = B j) : ∀ (n d lo hi k k1 : Nat), hi ≤ N → k1 ≤ M → Cd σ a B n d lo hi k k1 → Cd σ' a B' n d lo hi k k1 := by
  intro n
  induction n with
  | zero => intro d lo hi k k1 hN hM h; exact h
  | succ n ih =>
    intro d lo hi k k1 hN hM h
    unfold Cd at h ⊢
    rcases h with h | ⟨g1, g2, g3⟩ | ⟨d1, m, e, g1, g2, g3, g4, g5, g6, g7, g8⟩
    · exact .inl h
    · have l := Cd.lim _ _ _ _ _ _ g3
      refine .inr (.inl ⟨?_, by rw [hB _ (by omega) (by omega)]; exact g2, ih _ _ _ _ _ hN hM g3⟩)
      unfold Sm at g1 ⊢
      rw [hs _ _ (by omega) (by omega) (by omega), hs _ _ (by omega) (by omega) (by omega), hs _ _ (by omega) (by omega) (by omega), hs _ _ (by omega) (by omega) (by omega), h0, hB _ (by omega) (by omega), hB _ (by omega) (by omega), hB _ (by omega) (by omega), hB _ (by omega) (by omega)]
      rcases g1 with h | h | h | h | h | h
      · exact .inl h
      · exact .inr (.inl h)
      · exact .inr (.inr (.inl h))
      · refine .inr (.inr (.inr (.inl ?_)))
        obtain ⟨c1, c2, ⟨c3, c4, c5⟩, c6⟩ := h
        exact ⟨c1, c2, ⟨c3, c4, by omega⟩, c6⟩
      · exact .inr (.inr (.inr (.inr (.inl h))))
      · exact .inr (.inr (.inr (.inr (.inr h))))
    · have l := Cd.lim _ _ _ _ _ _ g4
      have l2 := Cd.lim _ _ _ _ _ _ g8
      refine .inr (.inr ⟨d1, m, e, g1, ?_, by rw [hB _ (by omega) (by omega)]; exact g3, ih _ _ _ _ _ (by omega) (by omega) g4, by rw [hs _ _ (by omega) (by omega) (by omega)]; exact g5, by rw [hs _ _ (by omega) (by omega) (by omega)]; exact g6, by rw [hs _ _ (by omega) (by omega) (by omega)]; exact g7, ih _ _ _ _ _ hN hM g8⟩)
      unfold Op' at g2 ⊢
      rw [hs _ _ (by omega) (by omega) (by omega), hs _ _ (by omega) (by omega) (by omega), hs _ _ (by omega) (by omega) (by omega), hs _ _ (by omega) (by omega) (by omega), h0, hB _ (by omega) (by omega), hB _ (by omega) (by omega), hB _ (by omega) (by omega), hB _ (by omega) (by omega), hB _ (by omega) (by omega), hB _ (by omega) (by omega), hB _ (by omega) (by omega)]
      exact g2
theorem TR.cg' {a : Nat} {B B' : Nat → Int} (h : TR σ a B) (hs : ∀ b j, a ≤ b → b ≤ a + 5 → j < 60 → σ' b j = σ b j) (h0 : B' 0 = B 0) (h1 : B 1 ≤ B' 1) (hB : ∀ j, 55 ≤ j → j < 327 → B' j = B j) : TR σ' a B' := by
  unfold TR at h ⊢
  rw [hs _ _ (by omega) (by omega) (by omega), hs _ _ (by omega) (by omega) (by omega), hs _ _ (by omega) (by omega) (by omega), hB _ (by omega) (by omega), hB _ (by omega) (by omega)]
  obtain ⟨c1, c2, c3, c4, c5, n, c6⟩ := h
  exact ⟨c1, c2, c3, c4, c5, n, Cd.cg' (N := 30) (M := 60) hs h0 h1 (fun j hj hk => hB j (by omega) (by omega)) _ _ _ _ _ _ (by omega) (by omega) c6⟩
theorem R7.fr (f : Fr G σ σ') (h : R7 σ) (g1 : 7 ∉ G) (g2 : 17 ∉ G) (g3 : 10 ∉ G) (h0 : σ' 118 0 = σ 118 0) (h1 : σ 118 1 ≤ σ' 118 1) : R7 σ' := by
  refine TR.cg' h (fun b j q1 q2 _ => ?_) h0 h1 (fun j hj hk => f.at (by rw [gid118, if_neg (by omega), if_pos hk]) g2)
  rcases gid7 (j := j) q1 q2 with e | e
  · exact f.at e g1
  · exact f.at e g3
theorem R8.fr (f : Fr G σ σ') (h : R8 σ) (g1 : 8 ∉ G) (g2 : 18 ∉ G) (g3 : 10 ∉ G) : R8 σ' := by
  obtain ⟨h1, h2⟩ := h
  unfold R8
  rw [f.at (a := 0) (j := 17) rfl g1, f.at (a := 113) (j := 23) rfl g2]
  refine ⟨h1, fun i hi => ?_⟩
  obtain ⟨k1, k2, k3, k4⟩ := h2 i hi
  have e1 : ∀ b j, 68 ≤ b → b ≤ 112 → σ' b j = σ b j := fun b j h1 h2 => by
    rcases gid8 (j := j) h1 h2 with e | e
    · exact f.at e g1
    · exact f.at e g3
  have e2 : ∀ j, j < 327 → blk σ' (i + 1) j = blk σ (i + 1) j := fun j hj => f.at (by rw [gid118, if_neg (by omega), if_neg (by omega), if_pos (by omega)]) g2
  have e3 : ∀ j, j < 14 → wrd σ' (i + 1) j = wrd σ (i + 1) j := fun j hj => f.at (by rw [gid120, if_neg (by omega), if_pos (by omega)]) g2
  refine ⟨k1.cg (fun b j q1 q2 => e1 b j (by omega) (by omega)) (fun j hj => e2 j (by omega)) e3 k2, k2.cg (fun j hj => e2 j (by omega)), k3.cg' (fun b j q1 q2 _ => e1 b j (by omega) (by omega)) (e2 _ (by omega)) (by rw [e2 _ (by omega)]; exact Int.le_refl _) (fun j _ hj => e2 j hj), by rw [e2 3 (by omega)]; exact k4⟩
theorem R9.fr (f : Fr G σ σ') (h : R9 σ) (g1 : 9 ∉ G) (g2 : 19 ∉ G) : R9 σ' := by
  obtain ⟨h1, h2⟩ := h
  unfold R9
  rw [f.at (a := 0) (j := 18) rfl g1, f.at (a := 113) (j := 36) rfl g2]
  refine ⟨h1, fun q => ⟨fun k hk => ?_, by rw [f.at gid127 g2]; exact (h2 q).2⟩⟩
  rw [f.at gid127 g2, f.at (a := 40) (j := 5 + k) (by rcases (show k = 0 ∨ k = 1 ∨ k = 2 ∨ k = 3 ∨ k = 4 by omega) with rfl | rfl | rfl | rfl | rfl <;> rfl) g1]
  exact (h2 q).1 k hk
theorem gid_4 {j : Nat} : gid 4 j = 10 := by unfold gid; simp
/-- a step keeps the relation where it keeps the parts that it touches -/
theorem Rel.step (G : List Nat) (h : Rel σ) (f : Fr G σ σ') (h10 : 10 ∉ G) (s : σ' 0 19 = σ' 113 0) (h2 : 2 ∈ G ∨ 12 ∈ G → R2 σ') (h3 : 3 ∈ G ∨ 13 ∈ G → R3 σ') (h4 : 4 ∈ G ∨ 14 ∈ G → R4 σ') (h5 : 5 ∈ G ∨ 15 ∈ G → R5 σ') (h6 : 6 ∈ G ∨ 16 ∈ G → R6 σ' ∧ σ' 118 0 = σ 118 0 ∧ σ 118 1 ≤ σ' 118 1 ∨ R6 σ' ∧ R7 σ') (h7 : 7 ∈ G ∨ 17 ∈ G → R7 σ') (h8 : 8 ∈ G ∨ 18 ∈ G → R8 σ') (h9 : 9 ∈ G ∨ 19 ∈ G → R9 σ') : Rel σ' := by
  obtain ⟨k0, k1, k2, k3, k4, k5, k6, k7, k8, k9, k10⟩ := h
  refine ⟨f.ref h10 k0, s, ?_, ?_, ?_, ?_, ?_, ?_, ?_, ?_, ?_⟩
  · by_cases q : 2 ∈ G ∨ 12 ∈ G
    · exact h2 q
    · exact k2.fr f (fun r => q (.inl r)) (fun r => q (.inr r))
  · by_cases q : 3 ∈ G ∨ 13 ∈ G
    · exact h3 q
    · exact k3.fr f (fun r => q (.inl r)) (fun r => q (.inr r)) h10
  · by_cases q : 4 ∈ G ∨ 14 ∈ G
    · exact h4 q
    · exact k4.fr f (fun r => q (.inl r)) (fun r => q (.inr r))
  · by_cases q : 5 ∈ G ∨ 15 ∈ G
    · exact h5 q
    · exact k5.fr f (fun r => q (.inl r)) (fun r => q (.inr r))
  · by_cases q : 6 ∈ G ∨ 16 ∈ G
    · rcases h6 q with r | r
      · exact r.1
      · exact r.1
    · exact k6.fr f (fun r => q (.inl r)) (fun r => q (.inr r)) h10
  · by_cases q : 7 ∈ G ∨ 17 ∈ G
    · exact h7 q
    · by_cases q6 : 6 ∈ G ∨ 16 ∈ G
      · rcases h6 q6 with r | r
        · exact k7.fr f (fun r => q (.inl r)) (fun r => q (.inr r)) h10 r.2.1 r.2.2
        · exact r.2
      · have e := (fr118 f (fun r => q6 (.inr r))).1
        exact k7.fr f (fun r => q (.inl r)) (fun r => q (.inr r)) h10 (e 0 (by omega)) (by rw [e 1 (by omega)]; exact Int.le_refl _)
  · by_cases q : 8 ∈ G ∨ 18 ∈ G
    · exact h8 q
    · exact k8.fr f (fun r => q (.inl r)) (fun r => q (.inr r)) h10
  · by_cases q : 9 ∈ G ∨ 19 ∈ G
    · exact h9 q
    · exact k9.fr f (fun r => q (.inl r)) (fun r => q (.inr r))
  · funext j
    rw [f.at gid_4 h10, k10]
/-- where only the status changes -/
theorem Rel.stat (h : Rel σ) (f : Fr [0, 1, 11, 20] σ σ') (s : σ' 0 19 = σ' 113 0) : Rel σ' := h.step _ f (by decide) s (fun q => absurd q (by decide)) (fun q => absurd q (by decide)) (fun q => absurd q (by decide)) (fun q => absurd q (by decide)) (fun q => absurd q (by decide)) (fun q => absurd q (by decide)) (fun q => absurd q (by decide)) (fun q => absurd q (by decide))
end
