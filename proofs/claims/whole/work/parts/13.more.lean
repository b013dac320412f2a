section
variable {sc : Nat × (Nat → Int32)} {F : FinT} {mt : Mth} {d : Nat} {sh0 shF sh : Shp} {pc : Nat} {ls st : List TV} {σ : Mem}
theorem E_aastore {α : Type} {o : α} {f : Mem → Option α} {kd t0 ci N : Nat} {C : String} {T : u_T} {ty : Nat → FieldType} {a i v : Int} (hd : decode mt.2.1 pc = .ok (.aastore, 1)) (hk : qk kd t0 C) (K : CLok ci C T N ty) (hv : isO sh ci v = true) (h : (st_ sh σ kd a i v).bind f = some o) (k : ∀ σ', f σ' = some o → E sc F mt d sh0 shF (pc + 1) ls st sh σ') : E sc F mt d sh0 shF pc ls ((2, v) :: (0, i) :: (2, a) :: st) sh σ := by
  intro hl hs hm z1 z2 p l e R s m args below meth c D cA A z ad0 X lsA H locs ad g1 g2 g3 g4 g5
  obtain ⟨x, hx, hf⟩ := Option.bind_eq_some_iff.mp h
  obtain ⟨⟨h0, n, hsh, h1, h2⟩, rfl⟩ := st_some hx
  obtain ⟨hwv, hs⟩ := wfl_cons.mp hs
  obtain ⟨hi, hs⟩ := wfl_cons.mp hs
  obtain ⟨hv0, hvs⟩ := isO_iff.mp hv
  have he := wsO_at (ad := ad) (z := z) (cA := cA) (σ := σ) hsh
  have he2 := wsO_at (ad := ad) (z := z) (cA := cA) (σ := σ) hvs
  have h30 := (hk.ty cA).2
  rw [ent_q h30] at he
  rw [ent_o K.2.2.2.2.2.2] at he2
  have hset : (wsO ad z cA σ sh).set a.toNat (ad a.toNat, .inl (cA kd, n, .inr (.inr (.inr (.inr (va_up (fun j => if σ a.toNat j < 0 then none else some (ad (σ a.toNat j).toNat)) i.toNat (some (ad v.toNat)))))))) = wsO ad z cA (upm σ a.toNat i.toNat v) sh := by
    rw [← wsO_set hsh (fun b hb => upm_ne hb), ent_q h30]
    congr 10
    funext j
    simp only [va_up, upm_at]
    split
    · rw [if_neg (by omega)]
    · rfl
  have hkt : ktag kd i.toNat = 2 := by rcases hk with ⟨rfl, -, -⟩ | ⟨rfl, -, -⟩ | ⟨rfl, -, -⟩ <;> rfl
  have hm' : wfm sh (upm σ a.toNat i.toNat v) := wfm_upm hm hsh (by rw [hkt]; exact hwv) (fun q => by omega) (fun q => by omega)
  rw [List.map_cons, List.map_cons, List.map_cons, cv_2 h0, cv_2 hv0]
  refine va_astq (r := (C, T, N)) X.1 X.2.1 X.2.2.2.2.2.2.2.2.1 g3 g4 g5 a.toNat t0 v.toNat ci he (hk.ty cA).1 he2 K.1 (i32_in hi.i h1 h2) hd ?_
  rw [i32_clamp hi.i, hset]
  intro H1 locs1 a1 a2 a3
  exact k _ hf hl (wfl_cons.mp hs).2 hm' z1 z2 p l e R s m args below meth c D cA A z ad0 X lsA H1 locs1 ad g1 g2 a1 a2 a3
theorem E_tabIn {dflt lo hi : Int} {offs : Array Int} {len : Nat} {x v off : Int} {tgt : Nat} (hd : decode mt.2.1 pc = .ok (.tableswitch dflt lo hi offs, len)) (hx : x = v) (hv : ¬ v < lo ∧ ¬ hi < v ∧ offs[(v - lo).toNat]? = some off ∧ (pc : Int) + off = (tgt : Int)) (h : E sc F mt d sh0 shF tgt ls st sh σ) : E sc F mt d sh0 shF pc ls ((0, x) :: st) sh σ := by
  intro hl hs hm z1 z2 p l e R s m args below meth c D cA A z ad0 X lsA H locs ad g1 g2 g3 g4 g5
  subst hx
  obtain ⟨hwx, hs⟩ := wfl_cons.mp hs
  refine lv_tableIn X.1 X.2.1 hd (by rw [R32_to hwx.i]; exact hv.1) (by rw [R32_to hwx.i]; exact hv.2.1) (by rw [R32_to hwx.i]; exact hv.2.2.1) hv.2.2.2 ?_
  exact h hl hs hm z1 z2 p l e R s m args below meth c D cA A z ad0 X lsA H locs ad g1 g2 g3 g4 g5
theorem E_tabD {dflt lo hi : Int} {offs : Array Int} {len : Nat} {x : Int} {tgt : Nat} (vals : List Int) (hd : decode mt.2.1 pc = .ok (.tableswitch dflt lo hi offs, len)) (hx : x ∉ vals) (hc : ((List.range offs.size).all fun i => vals.contains (lo + i) || offs[i]? == some dflt) = true) (hz : hi - lo + 1 = offs.size ∧ (pc : Int) + dflt = (tgt : Int)) (h : E sc F mt d sh0 shF tgt ls st sh σ) : E sc F mt d sh0 shF pc ls ((0, x) :: st) sh σ := by
  intro hl hs hm z1 z2 p l e R s m args below meth c D cA A z ad0 X lsA H locs ad g1 g2 g3 g4 g5
  obtain ⟨hwx, hs⟩ := wfl_cons.mp hs
  have h2 := h hl hs hm z1 z2 p l e R s m args below meth c D cA A z ad0 X lsA H locs ad g1 g2 g3 g4 g5
  by_cases q : x < lo ∨ hi < x
  · exact lv_tableOut X.1 X.2.1 hd (by rw [R32_to hwx.i]; exact q) hz.2 h2
  · have hi1 : (x - lo).toNat < offs.size := by omega
    have h3 := List.all_eq_true.mp hc (x - lo).toNat (List.mem_range.mpr hi1)
    have e1 : lo + ((x - lo).toNat : Int) = x := by omega
    rw [e1] at h3
    have h4 : offs[(x - lo).toNat]? = some dflt := by
      rcases Bool.or_eq_true _ _ |>.mp h3 with r | r
      · exact absurd (by simpa using r) hx
      · simpa using r
    exact lv_tableIn X.1 X.2.1 hd (by rw [R32_to hwx.i]; omega) (by rw [R32_to hwx.i]; omega) (by rw [R32_to hwx.i]; exact h4) hz.2 h2
theorem E_look {dflt : Int} {ps : Array (Int × Int)} {len : Nat} {x off : Int} {tgt : Nat} (hd : decode mt.2.1 pc = .ok (.lookupswitch dflt ps, len)) (hp : (ps.toList.zip (ps.toList.drop 1)).all (fun (a, next) => a.1 < next.1) = true) (ho : Op.lookupswitch.offset ps.toList dflt x = off) (ht : (pc : Int) + off = (tgt : Int)) (h : E sc F mt d sh0 shF tgt ls st sh σ) : E sc F mt d sh0 shF pc ls ((0, x) :: st) sh σ := by
  intro hl hs hm z1 z2 p l e R s m args below meth c D cA A z ad0 X lsA H locs ad g1 g2 g3 g4 g5
  obtain ⟨hwx, hs⟩ := wfl_cons.mp hs
  exact lv_lookup X.1 X.2.1 hd hp (by rw [R32_to hwx.i]; exact ho) ht (h hl hs hm z1 z2 p l e R s m args below meth c D cA A z ad0 X lsA H locs ad g1 g2 g3 g4 g5)
end
theorem br_eq {G : Prop} {α : Type} {P Q o : α} {x v : Int} (h : (if x = v then P else Q) = o) (k1 : x = v → P = o → G) (k2 : ¬ x = v → Q = o → G) : G := by
  by_cases q : x = v
  · exact k1 q (by rw [if_pos q] at h; exact h)
  · exact k2 q (by rw [if_neg q] at h; exact h)
theorem bd {α β : Type} {a : Option β} {f : β → Option α} {o : α} (h : a.bind f = some o) {G : Prop} (k : ∀ x, a = some x → f x = some o → G) : G := by
  obtain ⟨x, h1, h2⟩ := Option.bind_eq_some_iff.mp h
  exact k x h1 h2
theorem bd_bz {α : Type} {a : Int} {f : Int → Option α} {o : α} (h : (bz a).bind f = some o) {G : Prop} (k : (a = 0 ∨ a = 1) → f a = some o → G) : G := by
  obtain ⟨x, h1, h2⟩ := Option.bind_eq_some_iff.mp h
  unfold bz at h1
  split at h1
  · next q =>
    cases h1
    exact k q h2
  · cases h1
theorem bd_nz {α : Type} {a : Int} {f : Int → Option α} {o : α} (h : (nz a).bind f = some o) {G : Prop} (k : ¬ a = 0 → f a = some o → G) : G := by
  obtain ⟨x, h1, h2⟩ := Option.bind_eq_some_iff.mp h
  unfold nz at h1
  split at h1
  · cases h1
  · next q =>
    cases h1
    exact k q h2
