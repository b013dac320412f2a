/-! ===== fields and arrays ===== -/
/-- a class as the tables have it -/
def CLok (ci : Nat) (C : String) (T : u_T) (N : Nat) (ty : Nat → FieldType) : Prop :=
  clX[ci]? = some (C, T, N) ∧ (∀ w ∈ u_ws C T N, w ∈ lw_tbl) ∧ (u_ws C T N).all goodWord = true ∧ (∀ k, k < N → parseFieldDescriptor (T k).2.2.1 = some (ty k)) ∧ (∀ a, a < N → ∀ b, b < N → a ≠ b → (T a).2.1 ≠ (T b).2.1) ∧ nf ci = N ∧ ci < 20
def FL (own : String) (idx : Nat) (q : String × String × String × Bool) : Prop :=
  Cond.fieldLink own idx q.1 q.2.1 q.2.2.1 ∈ lw_tbl ∨ ∃ host, Cond.fieldLinkNest own idx q.1 q.2.1 q.2.2.1 host ∈ lw_tbl
theorem CLok.hts {ci : Nat} {C : String} {T : u_T} {N : Nat} {ty : Nat → FieldType} (K : CLok ci C T N ty) {s : State} (hB : TB s) {args : Array Value} : ∀ w ∈ u_ws C T N, w.before args s = true :=
  fun w hw => hB w (K.2.1 w hw) (by rw [List.all_eq_true.mp K.2.2.1 w hw]; rfl) args
section
variable {sc : Nat × (Nat → Int32)} {F : FinT} {mt : Mth} {d : Nat} {sh0 shF sh : Shp} {pc : Nat} {ls st : List TV} {σ : Mem}
theorem E_get {α : Type} {o : α} {f : Int → Option α} {ci j t idx : Nat} {a : Int} {C : String} {T : u_T} {N : Nat} {ty : Nat → FieldType} (hd : decode mt.2.1 pc = .ok (.getfield idx, 3)) (K : CLok ci C T N ty) (hw : FL mt.1.cls idx (T j)) (hj : j < N ∧ ftag ci j = t) (h : (gf sh σ ci a j).bind f = some o) (k : ∀ x, f x = some o → E sc F mt d sh0 shF (pc + 3) ls ((t, x) :: st) sh σ) : E sc F mt d sh0 shF pc ls ((2, a) :: st) sh σ := by
  intro hl hs hm z1 z2 p l e R s m args below meth c D cA A z ad0 X lsA H locs ad g1 g2 g3 g4 g5
  obtain ⟨hj, rfl⟩ := hj
  obtain ⟨x, hx, hf⟩ := Option.bind_eq_some_iff.mp h
  unfold gf at hx
  split at hx
  · next hO =>
    cases hx
    obtain ⟨h0, hsh⟩ := isO_iff.mp hO
    have hN := K.2.2.2.2.2.1
    have hci := K.2.2.2.2.2.2
    have he := wsO_at (ad := ad) (z := z) (cA := cA) (σ := σ) hsh
    rw [ent_o hci] at he
    have hv : ((List.range (nf ci)).map fun i => cv ad z (ftag ci i, σ a.toNat i))[j]? = some (cv ad z (ftag ci j, σ a.toNat j)) := by simp [hN, hj]
    have h2 := k _ hf hl (wfl_cons.mpr ⟨by rw [← ktag_obj hci]; exact (hm _ _ _ hsh j).1, (wfl_cons.mp hs).2⟩) hm z1 z2 p l e R s m args below meth c D cA A z ad0 X lsA H locs ad g1 g2 g3 g4 g5
    rw [List.map_cons, cv_2 h0]
    rcases hw with hw | ⟨host, hw⟩
    · exact va_get X.1 X.2.1 (K.hts X.2.2.2.2.2.2.2.1) (fun w hw => hw) X.2.2.2.1 X.2.2.2.2.2.2.2.2.1 g3 a.toNat he K.1 j hj (X.2.2.2.2.2.2.2.1 _ hw rfl args) (fun x hx => hx) hv hd h2
    · exact va_getN X.1 X.2.1 (K.hts X.2.2.2.2.2.2.2.1) (fun w hw => hw) X.2.2.2.1 X.2.2.2.2.2.2.2.2.1 g3 a.toNat he K.1 j hj (X.2.2.2.2.2.2.2.1 _ hw rfl args) (fun x hx => hx) hv hd h2
  · cases hx
/-- what can be written to a field of a type -/
def okT (t : FieldType) (tg : Nat) (v : Int) : Prop := (t = .int ∧ tg = 0) ∨ (t = .long ∧ tg = 1) ∨ (t = .boolean ∧ tg = 0 ∧ (v = 0 ∨ v = 1)) ∨ ((∃ C, t = .object C) ∧ tg = 2) ∨ ((∃ C, t = .array C) ∧ tg = 2)
theorem okT.narrow {t : FieldType} {tg : Nat} {v : Int} (h : okT t tg v) (ad : Nat → Nat) (z : Ats) : narrow t (cv ad z (tg, v)) = cv ad z (tg, v) ∧ fits t (cv ad z (tg, v)) = true := by
  rcases h with ⟨rfl, rfl⟩ | ⟨rfl, rfl⟩ | ⟨rfl, rfl, hv⟩ | ⟨⟨C, rfl⟩, rfl⟩ | ⟨⟨C, rfl⟩, rfl⟩
  · exact ⟨rfl, rfl⟩
  · exact ⟨rfl, rfl⟩
  · rcases hv with rfl | rfl
    · exact ⟨(by decide +kernel : Jvm.narrow .boolean (.int (Int32.ofInt 0)) = .int (Int32.ofInt 0)), (by decide +kernel : fits .boolean (.int (Int32.ofInt 0)) = true)⟩
    · exact ⟨(by decide +kernel : Jvm.narrow .boolean (.int (Int32.ofInt 1)) = .int (Int32.ofInt 1)), (by decide +kernel : fits .boolean (.int (Int32.ofInt 1)) = true)⟩
  · simp only [cv]
    split <;> exact ⟨rfl, rfl⟩
  · simp only [cv]
    split <;> exact ⟨rfl, rfl⟩
theorem E_put {α : Type} {o : α} {f : Mem → Option α} {ci j t idx : Nat} {a v : Int} {C : String} {T : u_T} {N : Nat} {ty : Nat → FieldType} (hd : decode mt.2.1 pc = .ok (.putfield idx, 3)) (K : CLok ci C T N ty) (hw : FL mt.1.cls idx (T j)) (hj : j < N ∧ ftag ci j = t) (hok : okT (ty j) t v) (hfin : (T j).2.2.2 = false ∨ ((T j).2.2.2 = true ∧ mt.1.name = "<init>" ∧ (T j).1 = mt.1.cls ∧ Cond.fieldLink mt.1.cls idx (T j).1 (T j).2.1 (T j).2.2.1 ∈ lw_tbl)) (h : (pf sh σ ci a j v).bind f = some o) (k : ∀ σ', f σ' = some o → E sc F mt d sh0 shF (pc + 3) ls st sh σ') : E sc F mt d sh0 shF pc ls ((t, v) :: (2, a) :: st) sh σ := by
  intro hl hs hm z1 z2 p l e R s m args below meth c D cA A z ad0 X lsA H locs ad g1 g2 g3 g4 g5
  obtain ⟨hj, rfl⟩ := hj
  obtain ⟨σ', hx, hf⟩ := Option.bind_eq_some_iff.mp h
  unfold pf at hx
  split at hx
  · next hO =>
    cases hx
    obtain ⟨h0, hsh⟩ := isO_iff.mp hO
    have hN := K.2.2.2.2.2.1
    have hci := K.2.2.2.2.2.2
    have he := wsO_at (ad := ad) (z := z) (cA := cA) (σ := σ) hsh
    rw [ent_o hci] at he
    obtain ⟨hv, hs⟩ := wfl_cons.mp hs
    obtain ⟨-, hs⟩ := wfl_cons.mp hs
    have hset : (wsO ad z cA σ sh).set a.toNat (ad a.toNat, .inr (ci, ((List.range (nf ci)).map fun i => cv ad z (ftag ci i, σ a.toNat i)).set j (cv ad z (ftag ci j, v)))) = wsO ad z cA (upm σ a.toNat j v) sh := by
      rw [fs_set (by rw [hN]; exact hj), ← ent_o (cA := cA) hci]
      exact wsO_set hsh (fun b hb => upm_ne hb)
    have hm' : wfm sh (upm σ a.toNat j v) := wfm_upm hm hsh (by rw [ktag_obj hci]; exact hv) (fun q => by omega) (fun q => by omega)
    have kk : ∀ (H1 : Heap) (locs1 : List Loc), va_P D clX ((wsO ad z cA σ sh).set a.toNat (ad a.toNat, .inr (ci, ((List.range (nf ci)).map fun i => cv ad z (ftag ci i, σ a.toNat i)).set j (cv ad z (ftag ci j, v))))) H1 → va_D A ((wsO ad z cA σ sh).set a.toNat (ad a.toNat, .inr (ci, ((List.range (nf ci)).map fun i => cv ad z (ftag ci i, σ a.toNat i)).set j (cv ad z (ftag ci j, v))))) → va_S A s.heap H1 locs1 → W p l e R s m args below meth c H1 locs1 (sh.length - sh0.length) (tot sh - tot sh0) (F args s below D cA A z ad0) (F0 m (pc + 3) lsA (st.map (cv ad z))) := by
      rw [hset]
      intro H1 locs1 a1 a2 a3
      exact k _ hf hl hs hm' z1 z2 p l e R s m args below meth c D cA A z ad0 X lsA H1 locs1 ad g1 g2 a1 a2 a3
    have hd2 := K.2.2.2.1 j hj
    have hT := X.2.2.2.2.2.2.2.1
    have hK := X.2.2.2.2.2.2.2.2.1
    rw [List.map_cons, List.map_cons, cv_2 h0]
    rcases hfin with hfin | ⟨hfin, hin, hown, hlk⟩
    · rcases hw with hw | ⟨host, hw⟩
      · exact va_put X.1 X.2.1 (K.hts hT) (fun w hw => hw) ty K.2.2.2.1 K.2.2.2.2.1 X.2.2.2.1 hK g3 g4 g5 a.toNat he K.1 j hj (hT _ hw rfl args) (fun x hx => hx) hfin hd2 (hok.narrow ad z).1 (hok.narrow ad z).2 (by simp [hN, hj]) hd kk
      · exact va_putN X.1 X.2.1 (K.hts hT) (fun w hw => hw) ty K.2.2.2.1 K.2.2.2.2.1 X.2.2.2.1 hK g3 g4 g5 a.toNat he K.1 j hj (hT _ hw rfl args) (fun x hx => hx) hfin hd2 (hok.narrow ad z).1 (hok.narrow ad z).2 (by simp [hN, hj]) hd kk
    · exact va_putF X.1 X.2.1 (K.hts hT) (fun w hw => hw) ty K.2.2.2.1 K.2.2.2.2.1 X.2.2.2.1 hK g3 g4 g5 a.toNat he K.1 j hj (hT _ hlk rfl args) (fun x hx => hx) hfin (X.2.2.2.2.1.trans hin) hown hd2 (hok.narrow ad z).1 (hok.narrow ad z).2 (by simp [hN, hj]) hd kk
  · cases hx
theorem al_some {k : Nat} {a i x : Int} (h : al sh σ k a i = some x) : okA sh k a i ∧ x = σ a.toNat i.toNat := by
  unfold al at h
  split at h
  · next q => cases h; exact ⟨isA_iff.mp q, rfl⟩
  · cases h
theorem st_some {k : Nat} {a i v : Int} {σ' : Mem} (h : st_ sh σ k a i v = some σ') : okA sh k a i ∧ σ' = upm σ a.toNat i.toNat v := by
  unfold st_ at h
  split at h
  · next q => cases h; exact ⟨isA_iff.mp q, rfl⟩
  · cases h
theorem E_iaload {α : Type} {o : α} {f : Int → Option α} {a i : Int} (hd : decode mt.2.1 pc = .ok (.iaload, 1)) (h : (al sh σ 20 a i).bind f = some o) (k : ∀ x, f x = some o → E sc F mt d sh0 shF (pc + 1) ls ((0, x) :: st) sh σ) : E sc F mt d sh0 shF pc ls ((0, i) :: (2, a) :: st) sh σ := by
  intro hl hs hm z1 z2 p l e R s m args below meth c D cA A z ad0 X lsA H locs ad g1 g2 g3 g4 g5
  obtain ⟨x, hx, hf⟩ := Option.bind_eq_some_iff.mp h
  obtain ⟨⟨h0, n, hsh, h1, h2⟩, rfl⟩ := al_some hx
  obtain ⟨hi, hs⟩ := wfl_cons.mp hs
  have he := wsO_at (ad := ad) (z := z) (cA := cA) (σ := σ) hsh
  rw [ent_i (Or.inl rfl)] at he
  have h3 := k _ hf hl (wfl_cons.mpr ⟨(hm _ _ _ hsh i.toNat).1, (wfl_cons.mp hs).2⟩) hm z1 z2 p l e R s m args below meth c D cA A z ad0 X lsA H locs ad g1 g2 g3 g4 g5
  rw [List.map_cons, List.map_cons, cv_2 h0]
  refine va_iald X.1 X.2.1 X.2.2.2.2.2.2.2.2.1 g3 a.toNat 0 he rfl (i32_in hi.i h1 h2) hd ?_
  dsimp only
  rw [i32_clamp hi.i]
  exact h3
theorem E_laload {α : Type} {o : α} {f : Int → Option α} {a i : Int} (hd : decode mt.2.1 pc = .ok (.laload, 1)) (h : (al sh σ 21 a i).bind f = some o) (k : ∀ x, f x = some o → E sc F mt d sh0 shF (pc + 1) ls ((1, x) :: st) sh σ) : E sc F mt d sh0 shF pc ls ((0, i) :: (2, a) :: st) sh σ := by
  intro hl hs hm z1 z2 p l e R s m args below meth c D cA A z ad0 X lsA H locs ad g1 g2 g3 g4 g5
  obtain ⟨x, hx, hf⟩ := Option.bind_eq_some_iff.mp h
  obtain ⟨⟨h0, n, hsh, h1, h2⟩, rfl⟩ := al_some hx
  obtain ⟨hi, hs⟩ := wfl_cons.mp hs
  have he := wsO_at (ad := ad) (z := z) (cA := cA) (σ := σ) hsh
  rw [ent_l] at he
  have h3 := k _ hf hl (wfl_cons.mpr ⟨(hm _ _ _ hsh i.toNat).1, (wfl_cons.mp hs).2⟩) hm z1 z2 p l e R s m args below meth c D cA A z ad0 X lsA H locs ad g1 g2 g3 g4 g5
  rw [List.map_cons, List.map_cons, cv_2 h0]
  refine va_lald X.1 X.2.1 X.2.2.2.2.2.2.2.2.1 g3 a.toNat 1 he rfl (i32_in hi.i h1 h2) hd ?_
  dsimp only
  rw [i32_clamp hi.i]
  exact h3
theorem E_baload {α : Type} {o : α} {f : Int → Option α} {kd : Nat} {a i : Int} (hd : decode mt.2.1 pc = .ok (.baload, 1)) (hk : kd = 22 ∨ kd = 23) (h : (al sh σ kd a i).bind f = some o) (k : ∀ x, f x = some o → E sc F mt d sh0 shF (pc + 1) ls ((0, x) :: st) sh σ) : E sc F mt d sh0 shF pc ls ((0, i) :: (2, a) :: st) sh σ := by
  intro hl hs hm z1 z2 p l e R s m args below meth c D cA A z ad0 X lsA H locs ad g1 g2 g3 g4 g5
  obtain ⟨x, hx, hf⟩ := Option.bind_eq_some_iff.mp h
  obtain ⟨⟨h0, n, hsh, h1, h2⟩, rfl⟩ := al_some hx
  obtain ⟨hi, hs⟩ := wfl_cons.mp hs
  have he := wsO_at (ad := ad) (z := z) (cA := cA) (σ := σ) hsh
  rw [ent_i (Or.inr hk)] at he
  have hw : wfv sh.length (0, σ a.toNat i.toNat) := by
    have := (hm _ _ _ hsh i.toNat).1
    rcases hk with rfl | rfl <;> exact this
  have h3 := k _ hf hl (wfl_cons.mpr ⟨hw, (wfl_cons.mp hs).2⟩) hm z1 z2 p l e R s m args below meth c D cA A z ad0 X lsA H locs ad g1 g2 g3 g4 g5
  rw [List.map_cons, List.map_cons, cv_2 h0]
  rcases hk with rfl | rfl
  · refine va_bald X.1 X.2.1 X.2.2.2.2.2.2.2.2.1 g3 a.toNat 2 he rfl (i32_in hi.i h1 h2) hd ?_
    dsimp only
    rw [i32_clamp hi.i]
    exact h3
  · refine va_zald X.1 X.2.1 X.2.2.2.2.2.2.2.2.1 g3 a.toNat 3 he rfl (i32_in hi.i h1 h2) hd ?_
    dsimp only
    rw [i32_clamp hi.i]
    exact h3
/-- the arrays of references: their places among the kinds -/
def qk (k t0 : Nat) (C : String) : Prop := (k = 35 ∧ t0 = 4 ∧ C = RX5) ∨ (k = 38 ∧ t0 = 5 ∧ C = RX8) ∨ (k = 39 ∧ t0 = 6 ∧ C = RX9)
theorem qk.ty {k t0 : Nat} {C : String} (h : qk k t0 C) (cA : Nat → ClassId) : (tyX cA)[t0]? = some (cA k, .object C) ∧ 30 ≤ k := by
  rcases h with ⟨rfl, rfl, rfl⟩ | ⟨rfl, rfl, rfl⟩ | ⟨rfl, rfl, rfl⟩ <;> exact ⟨rfl, by omega⟩
theorem E_aaload {α : Type} {o : α} {f : Int → Option α} {kd t0 : Nat} {C : String} {a i : Int} (hd : decode mt.2.1 pc = .ok (.aaload, 1)) (hk : qk kd t0 C) (h : (al sh σ kd a i).bind f = some o) (k : ∀ x, f x = some o → E sc F mt d sh0 shF (pc + 1) ls ((2, x) :: st) sh σ) : E sc F mt d sh0 shF pc ls ((0, i) :: (2, a) :: st) sh σ := by
  intro hl hs hm z1 z2 p l e R s m args below meth c D cA A z ad0 X lsA H locs ad g1 g2 g3 g4 g5
  obtain ⟨x, hx, hf⟩ := Option.bind_eq_some_iff.mp h
  obtain ⟨⟨h0, n, hsh, h1, h2⟩, rfl⟩ := al_some hx
  obtain ⟨hi, hs⟩ := wfl_cons.mp hs
  have he := wsO_at (ad := ad) (z := z) (cA := cA) (σ := σ) hsh
  rw [ent_q (hk.ty cA).2] at he
  have hw : wfv sh.length (2, σ a.toNat i.toNat) := by
    have := (hm _ _ _ hsh i.toNat).1
    rcases hk with ⟨rfl, -, -⟩ | ⟨rfl, -, -⟩ | ⟨rfl, -, -⟩ <;> exact this
  have h3 := k _ hf hl (wfl_cons.mpr ⟨hw, (wfl_cons.mp hs).2⟩) hm z1 z2 p l e R s m args below meth c D cA A z ad0 X lsA H locs ad g1 g2 g3 g4 g5
  rw [List.map_cons, List.map_cons, cv_2 h0]
  refine va_aldq X.1 X.2.1 X.2.2.2.2.2.2.2.2.1 g3 a.toNat t0 he (hk.ty cA).1 (i32_in hi.i h1 h2) hd ?_
  dsimp only
  rw [i32_clamp hi.i]
  rw [List.map_cons] at h3
  have e1 : va_rf (if σ a.toNat i.toNat < 0 then none else some (ad (σ a.toNat i.toNat).toNat)) = cv ad z (2, σ a.toNat i.toNat) := by
    simp only [cv]
    split <;> rfl
  rw [e1]
  exact h3
theorem E_iastore {α : Type} {o : α} {f : Mem → Option α} {a i v : Int} (hd : decode mt.2.1 pc = .ok (.iastore, 1)) (h : (st_ sh σ 20 a i v).bind f = some o) (k : ∀ σ', f σ' = some o → E sc F mt d sh0 shF (pc + 1) ls st sh σ') : E sc F mt d sh0 shF pc ls ((0, v) :: (0, i) :: (2, a) :: st) sh σ := by
  intro hl hs hm z1 z2 p l e R s m args below meth c D cA A z ad0 X lsA H locs ad g1 g2 g3 g4 g5
  obtain ⟨x, hx, hf⟩ := Option.bind_eq_some_iff.mp h
  obtain ⟨⟨h0, n, hsh, h1, h2⟩, rfl⟩ := st_some hx
  obtain ⟨hv, hs⟩ := wfl_cons.mp hs
  obtain ⟨hi, hs⟩ := wfl_cons.mp hs
  have he := wsO_at (ad := ad) (z := z) (cA := cA) (σ := σ) hsh
  rw [ent_i (Or.inl rfl)] at he
  have hset : (wsO ad z cA σ sh).set a.toNat (ad a.toNat, .inl (cA 20, n, .inl (upd (fun j => Int32.ofInt (σ a.toNat j)) i.toNat (Int32.ofInt v)))) = wsO ad z cA (upm σ a.toNat i.toNat v) sh := by
    rw [← wsO_set hsh (fun b hb => upm_ne hb), ent_i (Or.inl rfl)]
    congr 6
    funext j
    simp only [upd, upm_at]
    split <;> rfl
  have hm' : wfm sh (upm σ a.toNat i.toNat v) := wfm_upm hm hsh hv (fun q => by omega) (fun q => by omega)
  rw [List.map_cons, List.map_cons, List.map_cons, cv_2 h0]
  refine va_iast X.1 X.2.1 X.2.2.2.2.2.2.2.2.1 g3 g4 g5 a.toNat 0 he rfl (i32_in hi.i h1 h2) hd ?_
  rw [i32_clamp hi.i, hset]
  intro H1 locs1 a1 a2 a3
  exact k _ hf hl (wfl_cons.mp hs).2 hm' z1 z2 p l e R s m args below meth c D cA A z ad0 X lsA H1 locs1 ad g1 g2 a1 a2 a3
theorem E_lastore {α : Type} {o : α} {f : Mem → Option α} {a i v : Int} (hd : decode mt.2.1 pc = .ok (.lastore, 1)) (h : (st_ sh σ 21 a i v).bind f = some o) (k : ∀ σ', f σ' = some o → E sc F mt d sh0 shF (pc + 1) ls st sh σ') : E sc F mt d sh0 shF pc ls ((1, v) :: (0, i) :: (2, a) :: st) sh σ := by
  intro hl hs hm z1 z2 p l e R s m args below meth c D cA A z ad0 X lsA H locs ad g1 g2 g3 g4 g5
  obtain ⟨x, hx, hf⟩ := Option.bind_eq_some_iff.mp h
  obtain ⟨⟨h0, n, hsh, h1, h2⟩, rfl⟩ := st_some hx
  obtain ⟨hv, hs⟩ := wfl_cons.mp hs
  obtain ⟨hi, hs⟩ := wfl_cons.mp hs
  have he := wsO_at (ad := ad) (z := z) (cA := cA) (σ := σ) hsh
  rw [ent_l] at he
  have hset : (wsO ad z cA σ sh).set a.toNat (ad a.toNat, .inl (cA 21, n, .inr (.inl (vp_updL (fun j => Int64.ofInt (σ a.toNat j)) i.toNat (Int64.ofInt v))))) = wsO ad z cA (upm σ a.toNat i.toNat v) sh := by
    rw [← wsO_set hsh (fun b hb => upm_ne hb), ent_l]
    congr 7
    funext j
    simp only [vp_updL, upm_at]
    split <;> rfl
  have hm' : wfm sh (upm σ a.toNat i.toNat v) := wfm_upm hm hsh hv (fun q => by omega) (fun q => by omega)
  rw [List.map_cons, List.map_cons, List.map_cons, cv_2 h0]
  refine va_last X.1 X.2.1 X.2.2.2.2.2.2.2.2.1 g3 g4 g5 a.toNat 1 he rfl (i32_in hi.i h1 h2) hd ?_
  rw [i32_clamp hi.i, hset]
  intro H1 locs1 a1 a2 a3
  exact k _ hf hl (wfl_cons.mp hs).2 hm' z1 z2 p l e R s m args below meth c D cA A z ad0 X lsA H1 locs1 ad g1 g2 a1 a2 a3
theorem E_bastore {α : Type} {o : α} {f : Mem → Option α} {a i v : Int} (hd : decode mt.2.1 pc = .ok (.bastore, 1)) (h : (st_ sh σ 22 a i (w8 v)).bind f = some o) (k : ∀ σ', f σ' = some o → E sc F mt d sh0 shF (pc + 1) ls st sh σ') : E sc F mt d sh0 shF pc ls ((0, v) :: (0, i) :: (2, a) :: st) sh σ := by
  intro hl hs hm z1 z2 p l e R s m args below meth c D cA A z ad0 X lsA H locs ad g1 g2 g3 g4 g5
  obtain ⟨x, hx, hf⟩ := Option.bind_eq_some_iff.mp h
  obtain ⟨⟨h0, n, hsh, h1, h2⟩, rfl⟩ := st_some hx
  obtain ⟨hv, hs⟩ := wfl_cons.mp hs
  obtain ⟨hi, hs⟩ := wfl_cons.mp hs
  have he := wsO_at (ad := ad) (z := z) (cA := cA) (σ := σ) hsh
  rw [ent_i (Or.inr (Or.inl rfl))] at he
  have hset : (wsO ad z cA σ sh).set a.toNat (ad a.toNat, .inl (cA 22, n, .inl (upd (fun j => Int32.ofInt (σ a.toNat j)) i.toNat (vp_nar .byte (Int32.ofInt v))))) = wsO ad z cA (upm σ a.toNat i.toNat (w8 v)) sh := by
    rw [← wsO_set hsh (fun b hb => upm_ne hb), ent_i (Or.inr (Or.inl rfl))]
    congr 6
    funext j
    rw [vp_nar_byte, Int32.toInt8_ofInt]
    simp only [upd, upm_at]
    split <;> rfl
  have hr : -128 ≤ w8 v ∧ w8 v ≤ 127 := by rw [w8_mod]; omega
  have hm' : wfm sh (upm σ a.toNat i.toNat (w8 v)) := wfm_upm hm hsh (wfv_i (w8_R _)) (fun q => hr) (fun q => by omega)
  rw [List.map_cons, List.map_cons, List.map_cons, cv_2 h0]
  refine va_bast X.1 X.2.1 X.2.2.2.2.2.2.2.2.1 g3 g4 g5 a.toNat 2 he rfl (i32_in hi.i h1 h2) hd ?_
  rw [i32_clamp hi.i, hset]
  intro H1 locs1 a1 a2 a3
  exact k _ hf hl (wfl_cons.mp hs).2 hm' z1 z2 p l e R s m args below meth c D cA A z ad0 X lsA H1 locs1 ad g1 g2 a1 a2 a3
theorem b1_01 (v : Int) : b1 v = 0 ∨ b1 v = 1 := by
  unfold b1
  obtain ⟨j, hj, e⟩ := pk_andE (Int32.ofInt v) (m := 1) 1 (by decide +kernel)
  rw [e, nI_toInt (by omega)]
  omega
theorem E_zastore {α : Type} {o : α} {f : Mem → Option α} {a i v : Int} (hd : decode mt.2.1 pc = .ok (.bastore, 1)) (h : (st_ sh σ 23 a i (b1 v)).bind f = some o) (k : ∀ σ', f σ' = some o → E sc F mt d sh0 shF (pc + 1) ls st sh σ') : E sc F mt d sh0 shF pc ls ((0, v) :: (0, i) :: (2, a) :: st) sh σ := by
  intro hl hs hm z1 z2 p l e R s m args below meth c D cA A z ad0 X lsA H locs ad g1 g2 g3 g4 g5
  obtain ⟨x, hx, hf⟩ := Option.bind_eq_some_iff.mp h
  obtain ⟨⟨h0, n, hsh, h1, h2⟩, rfl⟩ := st_some hx
  obtain ⟨hv, hs⟩ := wfl_cons.mp hs
  obtain ⟨hi, hs⟩ := wfl_cons.mp hs
  have he := wsO_at (ad := ad) (z := z) (cA := cA) (σ := σ) hsh
  rw [ent_i (Or.inr (Or.inr rfl))] at he
  have hset : (wsO ad z cA σ sh).set a.toNat (ad a.toNat, .inl (cA 23, n, .inl (upd (fun j => Int32.ofInt (σ a.toNat j)) i.toNat (vp_nar .boolean (Int32.ofInt v))))) = wsO ad z cA (upm σ a.toNat i.toNat (b1 v)) sh := by
    rw [← wsO_set hsh (fun b hb => upm_ne hb), ent_i (Or.inr (Or.inr rfl))]
    congr 6
    funext j
    simp only [upd, upm_at]
    split
    · exact (Int32.ofInt_toInt _).symm
    · rfl
  have hm' : wfm sh (upm σ a.toNat i.toNat (b1 v)) := wfm_upm hm hsh (wfv_i (i32_R _)) (fun q => by omega) (fun q => b1_01 v)
  rw [List.map_cons, List.map_cons, List.map_cons, cv_2 h0]
  refine va_zast X.1 X.2.1 X.2.2.2.2.2.2.2.2.1 g3 g4 g5 a.toNat 3 he rfl (i32_in hi.i h1 h2) hd ?_
  rw [i32_clamp hi.i, hset]
  intro H1 locs1 a1 a2 a3
  exact k _ hf hl (wfl_cons.mp hs).2 hm' z1 z2 p l e R s m args below meth c D cA A z ad0 X lsA H1 locs1 ad g1 g2 a1 a2 a3
theorem kt_ty {k t0 : Nat} {ty : FieldType} (h : (k = 20 ∧ t0 = 0 ∧ ty = .int) ∨ (k = 21 ∧ t0 = 1 ∧ ty = .long) ∨ (k = 22 ∧ t0 = 2 ∧ ty = .byte) ∨ (k = 23 ∧ t0 = 3 ∧ ty = .boolean)) (cA : Nat → ClassId) : (tyX cA)[t0]? = some (cA k, ty) := by
  rcases h with ⟨rfl, rfl, rfl⟩ | ⟨rfl, rfl, rfl⟩ | ⟨rfl, rfl, rfl⟩ | ⟨rfl, rfl, rfl⟩ <;> rfl
theorem E_alen {α : Type} {o : α} {f : Int → Option α} {kd t0 : Nat} {ty : FieldType} {a : Int} (hd : decode mt.2.1 pc = .ok (.arraylength, 1)) (hk : (kd = 20 ∧ t0 = 0 ∧ ty = .int) ∨ (kd = 21 ∧ t0 = 1 ∧ ty = .long) ∨ (kd = 22 ∧ t0 = 2 ∧ ty = .byte) ∨ (kd = 23 ∧ t0 = 3 ∧ ty = .boolean)) (h : (ln sh kd a).bind f = some o) (k : ∀ x, f x = some o → E sc F mt d sh0 shF (pc + 1) ls ((0, x) :: st) sh σ) : E sc F mt d sh0 shF pc ls ((2, a) :: st) sh σ := by
  intro hl hs hm z1 z2 p l e R s m args below meth c D cA A z ad0 X lsA H locs ad g1 g2 g3 g4 g5
  obtain ⟨x, hx, hf⟩ := Option.bind_eq_some_iff.mp h
  unfold ln at hx
  split at hx
  · next kn hsh =>
    split at hx
    · next q =>
      obtain ⟨h0, h1, h2⟩ := q
      cases hx
      obtain ⟨k', n⟩ := kn
      dsimp only at h1 h2 hf
      subst h1
      have he := wsO_at (ad := ad) (z := z) (cA := cA) (σ := σ) hsh
      have he2 : ∃ x : vp_A, x.1 = n ∧ ent ad z cA σ a.toNat (k', n) = .inl (cA k', x) := by
        rcases hk with ⟨rfl, -, -⟩ | ⟨rfl, -, -⟩ | ⟨rfl, -, -⟩ | ⟨rfl, -, -⟩
        · exact ⟨_, rfl, ent_i (Or.inl rfl)⟩
        · exact ⟨_, rfl, ent_l⟩
        · exact ⟨_, rfl, ent_i (Or.inr (Or.inl rfl))⟩
        · exact ⟨_, rfl, ent_i (Or.inr (Or.inr rfl))⟩
      obtain ⟨x, hxn, he2⟩ := he2
      rw [he2] at he
      rw [List.map_cons, cv_2 h0]
      refine va_alen (v := Int32.ofInt (n : Int)) X.1 X.2.1 X.2.2.2.2.2.2.2.2.1 g3 a.toNat t0 he (kt_ty hk cA) (by rw [hxn, Int32.ofInt_eq_ofNat]) hd ?_
      exact k _ hf hl (wfl_cons.mpr ⟨wfv_i ⟨by omega, h2⟩, (wfl_cons.mp hs).2⟩) hm z1 z2 p l e R s m args below meth c D cA A z ad0 X lsA H locs ad g1 g2 g3 g4 g5
    · cases hx
  · cases hx
theorem isR_some {k : Nat} {a i n : Int} (h : isR sh k a i n = true) : 0 ≤ a ∧ 0 ≤ i ∧ ∃ N : Nat, sh[a.toNat]? = some (k, N) ∧ i + n ≤ N := by
  unfold isR at h
  cases q : sh[a.toNat]? with
  | none => simp [q] at h
  | some kn =>
    obtain ⟨k', N⟩ := kn
    simp only [q, Bool.and_eq_true, decide_eq_true_eq, beq_iff_eq] at h
    obtain ⟨⟨h1, h2⟩, rfl, h3⟩ := h
    exact ⟨h1, h2, N, rfl, h3⟩
theorem wfm_cpm {k a0 i a1 j n N0 N1 : Nat} (hm : wfm sh σ) (h0 : sh[a0]? = some (k, N0)) (h1 : sh[a1]? = some (k, N1)) (hk : ∀ x y, ktag k x = ktag k y) : wfm sh (cpm σ a0 i a1 j n) := by
  intro b k' n' hb x
  unfold cpm
  by_cases q : b = a1 ∧ j ≤ x ∧ x < j + n
  · rw [if_pos q]
    obtain ⟨rfl, -⟩ := q
    rw [h1] at hb
    cases hb
    rw [hk x (i + (x - j))]
    exact hm a0 k N0 h0 _
  · rw [if_neg q]
    exact hm b k' n' hb x
theorem cpy32 {a0 i a1 j n : Nat} : va_cpy (fun x => Int32.ofInt (σ a0 x)) (fun x => Int32.ofInt (σ a1 x)) i j n = fun x => Int32.ofInt (cpm σ a0 i a1 j n a1 x) := by
  funext x
  unfold va_cpy cpm
  by_cases q : j ≤ x ∧ x < j + n
  · simp [q]
  · simp [q]
theorem cpy64 {a0 i a1 j n : Nat} : va_cpy (fun x => Int64.ofInt (σ a0 x)) (fun x => Int64.ofInt (σ a1 x)) i j n = fun x => Int64.ofInt (cpm σ a0 i a1 j n a1 x) := by
  funext x
  unfold va_cpy cpm
  by_cases q : j ≤ x ∧ x < j + n
  · simp [q]
  · simp [q]
theorem fit_z {v : Int} (h : v = 0 ∨ v = 1) : fits .boolean (.int (Int32.ofInt v)) = true := by
  rcases h with rfl | rfl <;> decide +kernel
theorem fit_b {v : Int} (h : -128 ≤ v ∧ v ≤ 127) : fits .byte (.int (Int32.ofInt v)) = true := by
  have h1 : R32 v := ⟨by omega, by omega⟩
  have e1 : (-128 : Int32) = Int32.ofInt (-128) := by decide +kernel
  have e2 : (127 : Int32) = Int32.ofInt 127 := by decide +kernel
  simp only [fits, Bool.and_eq_true, decide_eq_true_eq]
  rw [e1, e2, i32_le ⟨by omega, by omega⟩ h1, i32_le h1 ⟨by omega, by omega⟩]
  exact h
/-- System.arraycopy over numbers -/
theorem E_copy {α : Type} {o : α} {f : Mem → Option α} {idx kd t0 : Nat} {ty : FieldType} {a0 i a1 j n : Int} (hd : decode mt.2.1 pc = .ok (.invokestatic idx, 3)) (hw : Cond.methodLink mt.1.cls idx arraycopyName ∈ lw_tbl ∧ Cond.native arraycopyName ∈ lw_tbl ∧ Cond.static arraycopyName ∈ lw_tbl ∧ Cond.initialized "java/lang/System" ∈ lw_tbl) (hdp : 2 ≤ d) (h8 : (st.map fun v => if v.1 = 1 then 2 else 1).sum ≤ 8) (hk : (kd = 20 ∧ t0 = 0 ∧ ty = .int) ∨ (kd = 21 ∧ t0 = 1 ∧ ty = .long) ∨ (kd = 22 ∧ t0 = 2 ∧ ty = .byte) ∨ (kd = 23 ∧ t0 = 3 ∧ ty = .boolean)) (h : (cp sh σ kd a0 i a1 j n).bind f = some o) (k : ∀ σ', f σ' = some o → E sc F mt d sh0 shF (pc + 3) ls st sh σ') : E sc F mt d sh0 shF pc ls ((0, n) :: (0, j) :: (2, a1) :: (0, i) :: (2, a0) :: st) sh σ := by
  intro hl hs hm z1 z2 p l e R s m args below meth c D cA A z ad0 X lsA H locs ad g1 g2 g3 g4 g5
  obtain ⟨σ', hx, hf⟩ := Option.bind_eq_some_iff.mp h
  unfold cp at hx
  split at hx
  · next q =>
    cases hx
    obtain ⟨hn0, r0, r1⟩ := q
    obtain ⟨p0, pi, N0, hsh0, hN0⟩ := isR_some r0
    obtain ⟨p1, pj, N1, hsh1, hN1⟩ := isR_some r1
    obtain ⟨wn, hs⟩ := wfl_cons.mp hs
    obtain ⟨wj, hs⟩ := wfl_cons.mp hs
    obtain ⟨-, hs⟩ := wfl_cons.mp hs
    obtain ⟨wi, hs⟩ := wfl_cons.mp hs
    obtain ⟨-, hs⟩ := wfl_cons.mp hs
    have hB := X.2.2.2.2.2.2.2.1
    have hK := X.2.2.2.2.2.2.2.2.1
    have hR := X.2.2.2.2.2.2.2.2.2.2.2
    have hcat : ((st.map (cv ad z)).map fun v => v.category).sum ≤ 8 := by
      rw [List.map_map]
      refine Nat.le_trans (Nat.le_of_eq ?_) h8
      congr 1
      apply List.map_congr_left
      intro v _
      show (cv ad z v).category = _
      rcases lv_cat (cv ad z v) with q | q
      · rw [q, if_neg (fun r => by rw [cv_cat.mpr r] at q; cases q)]
      · rw [q, if_pos (cv_cat.mp q)]
    have hlr : ((st.map (cv ad z)).map fun v => v.category).sum + (nativeFrameWords "java/lang/System" "arraycopy" 5 + 11) ≤ R.locals := by
      have e : nativeFrameWords "java/lang/System" "arraycopy" 5 ≤ 80 := by decide +kernel
      have h2 := hR.2.1
      unfold LW at h2
      omega
    have e0 := wsO_at (ad := ad) (z := z) (cA := cA) (σ := σ) hsh0
    have e1 := wsO_at (ad := ad) (z := z) (cA := cA) (σ := σ) hsh1
    have kk : ∀ (H1 : Heap) (locs1 : List Loc), va_P D clX (wsO ad z cA (cpm σ a0.toNat i.toNat a1.toNat j.toNat n.toNat) sh) H1 → va_D A (wsO ad z cA (cpm σ a0.toNat i.toNat a1.toNat j.toNat n.toNat) sh) → va_S A s.heap H1 locs1 → W p l e R s m args below meth c H1 locs1 (sh.length - sh0.length) (tot sh - tot sh0) (F args s below D cA A z ad0) (F0 m (pc + 3) lsA (st.map (cv ad z))) := fun H1 locs1 a1 a2 a3 => k _ hf hl hs (wfm_cpm hm hsh0 hsh1 (by rcases hk with ⟨rfl, -, -⟩ | ⟨rfl, -, -⟩ | ⟨rfl, -, -⟩ | ⟨rfl, -, -⟩ <;> exact fun _ _ => rfl)) z1 z2 p l e R s m args below meth c D cA A z ad0 X lsA H1 locs1 ad g1 g2 a1 a2 a3
    have hne : ∀ b, b ≠ a1.toNat → cpm σ a0.toNat i.toNat a1.toNat j.toNat n.toNat b = σ b := fun b hb => by
      funext x
      simp [cpm, hb]
    rw [List.map_cons, List.map_cons, List.map_cons, List.map_cons, List.map_cons, cv_2 p0, cv_2 p1]
    have hml : c.maxLocals = lsA.size := X.2.2.1.trans g2.2.1.symm
    rcases hk with ⟨rfl, rfl, rfl⟩ | ⟨rfl, rfl, rfl⟩ | ⟨rfl, rfl, rfl⟩ | ⟨rfl, rfl, rfl⟩
    · rw [ent_i (Or.inl rfl)] at e0 e1
      refine va_copyi (ty := .int) X.1 X.2.1 hml X.2.2.2.1 (hB _ hw.1 rfl args) (hB _ hw.2.1 rfl args) (hB _ hw.2.2.1 rfl args) (hB _ hw.2.2.2 rfl args) hK g3 g4 g5 a0.toNat a1.toNat 0 0 e0 e1 rfl rfl rfl (by rw [i32_lt0 wi.i]; omega) (by rw [i32_lt0 wj.i]; omega) (by rw [i32_lt0 wn.i]; omega) (by rw [i32_clamp wi.i, i32_clamp wn.i]; omega) (by rw [i32_clamp wj.i, i32_clamp wn.i]; omega) (fun _ _ => rfl) (by omega) hlr hd ?_
      rw [i32_clamp wi.i, i32_clamp wj.i, i32_clamp wn.i, cpy32]
      rw [← wsO_set hsh1 hne, ent_i (Or.inl rfl)] at kk
      exact kk
    · rw [ent_l] at e0 e1
      refine va_copyl (ty := .long) X.1 X.2.1 hml X.2.2.2.1 (hB _ hw.1 rfl args) (hB _ hw.2.1 rfl args) (hB _ hw.2.2.1 rfl args) (hB _ hw.2.2.2 rfl args) hK g3 g4 g5 a0.toNat a1.toNat 1 1 e0 e1 rfl rfl rfl (by rw [i32_lt0 wi.i]; omega) (by rw [i32_lt0 wj.i]; omega) (by rw [i32_lt0 wn.i]; omega) (by rw [i32_clamp wi.i, i32_clamp wn.i]; omega) (by rw [i32_clamp wj.i, i32_clamp wn.i]; omega) (fun _ _ => rfl) (by omega) hlr hd ?_
      rw [i32_clamp wi.i, i32_clamp wj.i, i32_clamp wn.i, cpy64]
      rw [← wsO_set hsh1 hne, ent_l] at kk
      exact kk
    · rw [ent_i (Or.inr (Or.inl rfl))] at e0 e1
      refine va_copyi (ty := .byte) X.1 X.2.1 hml X.2.2.2.1 (hB _ hw.1 rfl args) (hB _ hw.2.1 rfl args) (hB _ hw.2.2.1 rfl args) (hB _ hw.2.2.2 rfl args) hK g3 g4 g5 a0.toNat a1.toNat 2 2 e0 e1 rfl rfl rfl (by rw [i32_lt0 wi.i]; omega) (by rw [i32_lt0 wj.i]; omega) (by rw [i32_lt0 wn.i]; omega) (by rw [i32_clamp wi.i, i32_clamp wn.i]; omega) (by rw [i32_clamp wj.i, i32_clamp wn.i]; omega) (fun x _ => fit_b ((hm _ _ _ hsh0 _).2.1 rfl)) (by omega) hlr hd ?_
      rw [i32_clamp wi.i, i32_clamp wj.i, i32_clamp wn.i, cpy32]
      rw [← wsO_set hsh1 hne, ent_i (Or.inr (Or.inl rfl))] at kk
      exact kk
    · rw [ent_i (Or.inr (Or.inr rfl))] at e0 e1
      refine va_copyi (ty := .boolean) X.1 X.2.1 hml X.2.2.2.1 (hB _ hw.1 rfl args) (hB _ hw.2.1 rfl args) (hB _ hw.2.2.1 rfl args) (hB _ hw.2.2.2 rfl args) hK g3 g4 g5 a0.toNat a1.toNat 3 3 e0 e1 rfl rfl rfl (by rw [i32_lt0 wi.i]; omega) (by rw [i32_lt0 wj.i]; omega) (by rw [i32_lt0 wn.i]; omega) (by rw [i32_clamp wi.i, i32_clamp wn.i]; omega) (by rw [i32_clamp wj.i, i32_clamp wn.i]; omega) (fun x _ => fit_z ((hm _ _ _ hsh0 _).2.2 rfl)) (by omega) hlr hd ?_
      rw [i32_clamp wi.i, i32_clamp wj.i, i32_clamp wn.i, cpy32]
      rw [← wsO_set hsh1 hne, ent_i (Or.inr (Or.inr rfl))] at kk
      exact kk
  · cases hx
end
