/-! ===== invocations ===== -/
def NL (own : String) (idx : Nat) (y : MethodName) : Prop := Cond.methodLink own idx y ∈ lw_tbl ∨ ∃ host, Cond.methodLinkNest own idx y host ∈ lw_tbl
/-- a method as the tables have it, and how many parameters it has -/
def MK (mt : Mth) (n : Nat) : Prop :=
  Cond.code mt.1 mt.2.1 mt.2.2.1 mt.2.2.2 ∈ lw_tbl ∧ Cond.initialized mt.1.cls ∈ lw_tbl ∧ plainName mt.1.cls = true ∧ (mt.1.cls ≠ "java/lang/invoke/MethodHandle" ∧ mt.1.cls ≠ "java/lang/invoke/VarHandle") ∧ (parseMethodDescriptor mt.1.desc).map (fun d => d.parameters.length) = some n ∧ mt.2.2.1 ≤ 41
def MKv (mt : Mth) (n : Nat) : Prop := MK mt n ∧ Cond.instanceMethod mt.1 ∈ lw_tbl ∧ Cond.selects mt.1.cls mt.1 mt.1 ∈ lw_tbl
def MKs (mt : Mth) (n : Nat) : Prop := MK mt n ∧ Cond.static mt.1 ∈ lw_tbl
def MKi (mt : Mth) (n : Nat) : Prop := MK mt n ∧ Cond.instanceMethod mt.1 ∈ lw_tbl ∧ mt.1.name = "<init>" ∧ mt.2.2.2 = none
/-- the words of a stack -/
def catL : List TV → Nat
  | [] => 0
  | v :: vs => (match v.1 with | 1 => 2 | _ => 1) + catL vs
theorem catL_eq (ad : Nat → Nat) (z : Ats) : ∀ st : List TV, ((st.map (cv ad z)).map fun v => v.category).sum = catL st
  | [] => rfl
  | v :: vs => by
    rw [List.map_cons, List.map_cons, List.sum_cons, catL_eq ad z vs]
    show _ = (match v.1 with | 1 => 2 | _ => 1) + catL vs
    congr 1
    rcases lv_cat (cv ad z v) with q | q
    · rw [q]
      split
      · next r => rw [cv_cat.mpr r] at q; cases q
      · rfl
    · rw [q, cv_cat.mp q]; rfl
theorem wfl_app {n : Nat} {a b : List TV} : wfl n (a ++ b) ↔ wfl n a ∧ wfl n b := List.forall_mem_append
theorem wfl_rev {n : Nat} {a : List TV} : wfl n a.reverse ↔ wfl n a := ⟨fun h v hv => h v (List.mem_reverse.mpr hv), fun h v hv => h v (List.mem_reverse.mp hv)⟩
theorem wfl_mono {n k : Nat} {a : List TV} (h : wfl n a) (hk : n ≤ k) : wfl k a := fun v hv => ⟨(h v hv).1, (h v hv).2.1, fun q => by have := (h v hv).2.2 q; omega⟩
section
variable {sc : Nat × (Nat → Int32)} {F : FinT} {mt : Mth} {d : Nat} {sh0 shF sh : Shp} {pc : Nat} {ls st : List TV} {σ : Mem}
/-- behind a call -/
theorem E_back {mt' : Mth} {sh' : Shp} {σ' : Mem} {r : Option TV} {p : Program} {l : Launch} {e : Env} {R : Room} {s : State} {m : MethodId} {args : Array Value} {below : List Frame} {meth : Method} {c : Code} {D : va_G} {cA : Nat → ClassId} {A : Nat → Prop} {z : Ats} {ad0 : Nat → Nat} {lsA : Array Slot} {H : Heap} {locs : List Loc} {ad : Nat → Nat} {stk : List Value} {av : Array Value}
    (hl : wfl sh.length ls) (hs : wfl sh.length st) (hm : wfm sh σ) (z1 : sh0.length ≤ sh.length) (z2 : tot sh0 ≤ tot sh) (X : Ctx mt d sh0 shF sc p R s m meth c D cA A z) (g1 : ∀ a, a < sh0.length → ad a = ad0 a) (g2 : LH ad z lsA mt.2.2.1 ls) (g5 : va_S A s.heap H locs)
    (hgr : sh.length ≤ sh'.length ∧ tot sh ≤ tot sh') (h : E sc F mt d sh0 shF (pc + 3) ls (r.toList ++ st) sh' σ')
    (run : va_Run p l e R s m args below meth c H locs (sh.length - sh0.length) (tot sh - tot sh0) (sh'.length - sh.length) (tot sh' - tot sh) (F0 m pc lsA stk) (st.map (cv ad z)) (Qm sh.length r sh' σ' D cA A z ad av) A) :
    W p l e R s m args below meth c H locs (sh.length - sh0.length) (tot sh - tot sh0) (F args s below D cA A z ad0) (F0 m pc lsA stk) := by
  intro T hT X0
  obtain ⟨v, st₀, t, T', L, h0, X', hL, e1, e2, hQ, hgo⟩ := run T hT X0
  obtain ⟨⟨ad', hag, hv, hwr, hwm, hP', hD'⟩, hF⟩ := hQ
  have hv2 : v = r.map (cv ad' z) := by cases hv; rfl
  subst hv2
  rw [show (sh.length - sh0.length) + (sh'.length - sh.length) = sh'.length - sh0.length by omega, show (tot sh - tot sh0) + (tot sh' - tot sh) = tot sh' - tot sh0 by omega] at X'
  have hS' : va_S A s.heap t.heap (locs ++ L) := by
    obtain ⟨f1, f2⟩ := hF
    rw [h0] at f1 f2
    refine ⟨Nat.le_trans g5.1 f1, fun q q1 q2 => (f2 q (Nat.lt_of_lt_of_le q1 g5.1) q2).trans (g5.2.1 q q1 q2), fun q hq => ?_⟩
    rcases List.mem_append.mp hq with h1 | h1
    · exact g5.2.2 q h1
    · exact hL q h1
  have key := h (wfl_mono hl hgr.1) (wfl_app.mpr ⟨hwr, wfl_mono hs hgr.1⟩) hwm (by omega) (by omega) p l e R s m args below meth c D cA A z ad0 X lsA t.heap (locs ++ L) ad' (fun a ha => (hag a (by omega)).trans (g1 a ha)) (g2.agree hl hag) hP' hD' hS'
  obtain ⟨t2, a1, b1⟩ := key T' e1 X'
  refine ⟨t2, hgo t2 ?_, b1⟩
  have e3 : (r.toList ++ st).map (cv ad' z) = (r.map (cv ad' z)).toList ++ st.map (cv ad z) := by
    rw [List.map_append, map_agree hs hag]
    cases r <;> rfl
  rw [e3] at a1
  exact a1
theorem E_invV {stk as : List TV} {a : Int} {r : Option TV} {sh' : Shp} {σ' : Mem} {d' n idx ci N : Nat} {mt' : Mth} {C : String} {T : u_T} {ty : Nat → FieldType} (hd : decode mt.2.1 pc = .ok (.invokevirtual idx, 3)) (hM : MKv mt' n) (hL : NL mt.1.cls idx mt'.1) (hdp : d' + 1 ≤ d) (hn : as.length = n ∧ stk = as.reverse ++ (2, a) :: st ∧ catL st ≤ 8) (K : CLok ci C T N ty) (hcl : mt'.1.cls = C) (ha : isO sh ci a = true) (hC : Cn mt' d' ((2, a) :: as) sh σ r sh' σ') (hgr : sh.length ≤ sh'.length ∧ tot sh ≤ tot sh' ∧ sh'.length ≤ shF.length ∧ tot sh' ≤ tot shF) (h : E sc F mt d sh0 shF (pc + 3) ls (r.toList ++ st) sh' σ') : E sc F mt d sh0 shF pc ls stk sh σ := by
  intro hl hs hm z1 z2 p l e R s m args below meth c D cA A z ad0 X lsA H locs ad g1 g2 g3 g4 g5
  obtain ⟨hn, rfl, h8⟩ := hn
  obtain ⟨h0, hsh⟩ := isO_iff.mp ha
  obtain ⟨hs1, hs2⟩ := wfl_app.mp hs
  obtain ⟨hsa, hs3⟩ := wfl_cons.mp hs2
  have hT := X.2.2.2.2.2.2.2.1
  have hK := X.2.2.2.2.2.2.2.2.1
  have hR := X.2.2.2.2.2.2.2.2.2.2.2
  have he := wsO_at (ad := ad) (z := z) (cA := cA) (σ := σ) hsh
  rw [ent_o K.2.2.2.2.2.2] at he
  have hMet := hC (wfl_cons.mpr ⟨hsa, wfl_rev.mp hs1⟩) hm sc l D cA A z ad
  rw [List.map_cons, cv_2 h0] at hMet
  have hpre : PreV s H mt'.1.cls (ad a.toNat) (va_Pc (Value.ref (ad a.toNat) :: as.map (cv ad z)) (PreM sc D cA A z ad sh σ)) (as.map (cv ad z)) :=
    ⟨PreM.blind, (by rw [hcl]; exact va_recv hK g3 K.1 he), fun U hU hW => ⟨rfl, hT.warm hW, va_K.moved hW.alike hK, X.2.2.2.2.2.2.2.2.2.1.go (locs := locs) hW (by rw [hU]; exact g5), (fun q hq => X.2.2.2.2.2.2.2.2.2.2.1 q (Nat.le_trans (by have := g5.1; rw [hU]; exact this) hq)), by rw [hU]; exact g3, g4⟩⟩
  have hfr : (rmD d' (sh'.length - sh.length) (tot sh' - tot sh)).frames + 1 ≤ R.frames ∧ 8 + (mt'.2.2.1 + 11) + (rmD d' (sh'.length - sh.length) (tot sh' - tot sh)).locals ≤ R.locals := by
    refine ⟨Nat.le_trans hdp hR.1, Nat.le_trans ?_ hR.2.1⟩
    have h41 := hM.1.2.2.2.2.2
    have : (d' + 1) * LW ≤ d * LW := Nat.mul_le_mul_right _ hdp
    show 8 + (mt'.2.2.1 + 11) + d' * LW ≤ d * LW
    rw [Nat.add_mul] at this
    unfold LW at this ⊢
    omega
  have hws : ∀ w ∈ [Cond.code mt'.1 mt'.2.1 mt'.2.2.1 mt'.2.2.2], ∀ (a' : Array Value) (U : State), s.WarmedH U.vm → w.before a' U = true := fun w hw a' U hW => by
    rw [List.mem_singleton.mp hw]
    exact hT.warm hW _ hM.1.1 rfl a'
  have hnp : ∀ sig, parseMethodDescriptor mt'.1.desc = some sig → n = sig.parameters.length := fun sig hsig => by
    have := hM.1.2.2.2.2.1
    rw [hsig] at this
    exact (Option.some.inj this).symm
  have hcells : sh.length - sh0.length + (sh'.length - sh.length) ≤ R.cells ∧ tot sh - tot sh0 + (tot sh' - tot sh) ≤ R.slots := ⟨by have := hR.2.2.1; omega, by have := hR.2.2.2; omega⟩
  have hstk : (as.reverse ++ (2, a) :: st).map (cv ad z) = (as.map (cv ad z)).reverse ++ .ref (ad a.toNat) :: st.map (cv ad z) := by
    rw [List.map_append, List.map_cons, cv_2 h0, List.map_reverse]
  have h8' : ((st.map (cv ad z)).map fun v => v.category).sum ≤ 8 := by rw [catL_eq]; exact h8
  rcases hL with hL | ⟨host, hL⟩
  · exact E_back (mt' := mt') hl hs3 hm z1 z2 X g1 g2 g5 ⟨hgr.1, hgr.2.1⟩ h (va_runV (Ts := []) ⟨X.1, X.2.1, X.2.2.1, X.2.2.2.1, fun w hw => by cases hw⟩ hMet ⟨⟨rfl, rfl, hfr.1, hfr.2, hws, List.mem_singleton.mpr rfl, hT _ hM.1.1 rfl args, hT _ hM.1.2.1 rfl args, hM.1.2.2.2.1, hnp, hT _ hL rfl args⟩, hT _ hM.2.1 rfl args, hT _ hM.2.2 rfl args⟩ hpre rfl (by rw [List.length_map]; exact hn) g2.2.1 hstk (lv_room h8') hd hcells)
  · exact E_back (mt' := mt') hl hs3 hm z1 z2 X g1 g2 g5 ⟨hgr.1, hgr.2.1⟩ h (va_runVN (Ts := []) ⟨X.1, X.2.1, X.2.2.1, X.2.2.2.1, fun w hw => by cases hw⟩ hMet ⟨⟨⟨rfl, rfl, hfr.1, hfr.2, hws, List.mem_singleton.mpr rfl⟩, hT _ hM.1.1 rfl args, hT _ hM.1.2.1 rfl args, hM.1.2.2.2.1, hnp, hT _ hL rfl args⟩, hT _ hM.2.1 rfl args, hT _ hM.2.2 rfl args⟩ hpre rfl (by rw [List.length_map]; exact hn) g2.2.1 hstk (lv_room h8') hd hcells)
theorem E_invS {stk as : List TV} {r : Option TV} {sh' : Shp} {σ' : Mem} {d' n idx : Nat} {mt' : Mth} (hd : decode mt.2.1 pc = .ok (.invokestatic idx, 3)) (hM : MKs mt' n) (hL : NL mt.1.cls idx mt'.1) (hdp : d' + 1 ≤ d) (hn : as.length = n ∧ stk = as.reverse ++ st ∧ catL st ≤ 8) (hC : Cn mt' d' as sh σ r sh' σ') (hgr : sh.length ≤ sh'.length ∧ tot sh ≤ tot sh' ∧ sh'.length ≤ shF.length ∧ tot sh' ≤ tot shF) (h : E sc F mt d sh0 shF (pc + 3) ls (r.toList ++ st) sh' σ') : E sc F mt d sh0 shF pc ls stk sh σ := by
  intro hl hs hm z1 z2 p l e R s m args below meth c D cA A z ad0 X lsA H locs ad g1 g2 g3 g4 g5
  obtain ⟨hn, rfl, h8⟩ := hn
  obtain ⟨hs1, hs3⟩ := wfl_app.mp hs
  have hT := X.2.2.2.2.2.2.2.1
  have hK := X.2.2.2.2.2.2.2.2.1
  have hR := X.2.2.2.2.2.2.2.2.2.2.2
  have hMet := hC (wfl_rev.mp hs1) hm sc l D cA A z ad
  have hpre : PreS s H (va_Pc (as.map (cv ad z)) (PreM sc D cA A z ad sh σ)) (as.map (cv ad z)) :=
    ⟨PreM.blind, fun U hU hW => ⟨rfl, hT.warm hW, va_K.moved hW.alike hK, X.2.2.2.2.2.2.2.2.2.1.go (locs := locs) hW (by rw [hU]; exact g5), (fun q hq => X.2.2.2.2.2.2.2.2.2.2.1 q (Nat.le_trans (by have := g5.1; rw [hU]; exact this) hq)), by rw [hU]; exact g3, g4⟩⟩
  have hfr : (rmD d' (sh'.length - sh.length) (tot sh' - tot sh)).frames + 1 ≤ R.frames ∧ 8 + (mt'.2.2.1 + 11) + (rmD d' (sh'.length - sh.length) (tot sh' - tot sh)).locals ≤ R.locals := by
    refine ⟨Nat.le_trans hdp hR.1, Nat.le_trans ?_ hR.2.1⟩
    have h41 := hM.1.2.2.2.2.2
    have : (d' + 1) * LW ≤ d * LW := Nat.mul_le_mul_right _ hdp
    show 8 + (mt'.2.2.1 + 11) + d' * LW ≤ d * LW
    rw [Nat.add_mul] at this
    unfold LW at this ⊢
    omega
  have hws : ∀ w ∈ [Cond.code mt'.1 mt'.2.1 mt'.2.2.1 mt'.2.2.2], ∀ (a' : Array Value) (U : State), s.WarmedH U.vm → w.before a' U = true := fun w hw a' U hW => by
    rw [List.mem_singleton.mp hw]
    exact hT.warm hW _ hM.1.1 rfl a'
  have hnp : ∀ sig, parseMethodDescriptor mt'.1.desc = some sig → n = sig.parameters.length := fun sig hsig => by
    have := hM.1.2.2.2.2.1
    rw [hsig] at this
    exact (Option.some.inj this).symm
  have hcells : sh.length - sh0.length + (sh'.length - sh.length) ≤ R.cells ∧ tot sh - tot sh0 + (tot sh' - tot sh) ≤ R.slots := ⟨by have := hR.2.2.1; omega, by have := hR.2.2.2; omega⟩
  have hstk : (as.reverse ++ st).map (cv ad z) = (as.map (cv ad z)).reverse ++ st.map (cv ad z) := by
    rw [List.map_append, List.map_reverse]
  have h8' : ((st.map (cv ad z)).map fun v => v.category).sum ≤ 8 := by rw [catL_eq]; exact h8
  rcases hL with hL | ⟨host, hL⟩
  · exact E_back (mt' := mt') hl hs3 hm z1 z2 X g1 g2 g5 ⟨hgr.1, hgr.2.1⟩ h (va_runS (Ts := []) ⟨X.1, X.2.1, X.2.2.1, X.2.2.2.1, fun w hw => by cases hw⟩ hMet ⟨⟨rfl, rfl, hfr.1, hfr.2, hws, List.mem_singleton.mpr rfl, hT _ hM.1.1 rfl args, hT _ hM.1.2.1 rfl args, hM.1.2.2.2.1, hnp, hT _ hL rfl args⟩, hT _ hM.2 rfl args⟩ hpre rfl (by rw [List.length_map]; exact hn) g2.2.1 hstk (lv_room h8') hd hcells)
  · exact E_back (mt' := mt') hl hs3 hm z1 z2 X g1 g2 g5 ⟨hgr.1, hgr.2.1⟩ h (va_runSN (Ts := []) ⟨X.1, X.2.1, X.2.2.1, X.2.2.2.1, fun w hw => by cases hw⟩ hMet ⟨⟨⟨rfl, rfl, hfr.1, hfr.2, hws, List.mem_singleton.mpr rfl⟩, hT _ hM.1.1 rfl args, hT _ hM.1.2.1 rfl args, hM.1.2.2.2.1, hnp, hT _ hL rfl args⟩, hT _ hM.2 rfl args, trivial⟩ hpre rfl (by rw [List.length_map]; exact hn) g2.2.1 hstk (lv_room h8') hd hcells)
theorem E_invI {stk as : List TV} {a : Int} {r : Option TV} {sh' : Shp} {σ' : Mem} {d' n idx : Nat} {mt' : Mth} (hd : decode mt.2.1 pc = .ok (.invokespecial idx, 3)) (hM : MKi mt' n) (hL : NL mt.1.cls idx mt'.1) (hdp : d' + 1 ≤ d) (hn : as.length = n ∧ stk = as.reverse ++ (2, a) :: st ∧ catL st ≤ 8) (ha : 0 ≤ a) (hC : Cn mt' d' ((2, a) :: as) sh σ r sh' σ') (hgr : sh.length ≤ sh'.length ∧ tot sh ≤ tot sh' ∧ sh'.length ≤ shF.length ∧ tot sh' ≤ tot shF) (h : E sc F mt d sh0 shF (pc + 3) ls (r.toList ++ st) sh' σ') : E sc F mt d sh0 shF pc ls stk sh σ := by
  intro hl hs hm z1 z2 p l e R s m args below meth c D cA A z ad0 X lsA H locs ad g1 g2 g3 g4 g5
  obtain ⟨hn, rfl, h8⟩ := hn
  obtain ⟨hs1, hs2⟩ := wfl_app.mp hs
  obtain ⟨hsa, hs3⟩ := wfl_cons.mp hs2
  have hT := X.2.2.2.2.2.2.2.1
  have hK := X.2.2.2.2.2.2.2.2.1
  have hR := X.2.2.2.2.2.2.2.2.2.2.2
  have hMet := hC (wfl_cons.mpr ⟨hsa, wfl_rev.mp hs1⟩) hm sc l D cA A z ad
  rw [List.map_cons, cv_2 ha] at hMet
  have hpre : PreS s H (va_Pc (Value.ref (ad a.toNat) :: as.map (cv ad z)) (PreM sc D cA A z ad sh σ)) (Value.ref (ad a.toNat) :: as.map (cv ad z)) :=
    ⟨PreM.blind, fun U hU hW => ⟨rfl, hT.warm hW, va_K.moved hW.alike hK, X.2.2.2.2.2.2.2.2.2.1.go (locs := locs) hW (by rw [hU]; exact g5), (fun q hq => X.2.2.2.2.2.2.2.2.2.2.1 q (Nat.le_trans (by have := g5.1; rw [hU]; exact this) hq)), by rw [hU]; exact g3, g4⟩⟩
  have hfr : (rmD d' (sh'.length - sh.length) (tot sh' - tot sh)).frames + 1 ≤ R.frames ∧ 8 + (mt'.2.2.1 + 11) + (rmD d' (sh'.length - sh.length) (tot sh' - tot sh)).locals ≤ R.locals := by
    refine ⟨Nat.le_trans hdp hR.1, Nat.le_trans ?_ hR.2.1⟩
    have h41 := hM.1.2.2.2.2.2
    have : (d' + 1) * LW ≤ d * LW := Nat.mul_le_mul_right _ hdp
    show 8 + (mt'.2.2.1 + 11) + d' * LW ≤ d * LW
    rw [Nat.add_mul] at this
    unfold LW at this ⊢
    omega
  have hws : ∀ w ∈ [Cond.code mt'.1 mt'.2.1 mt'.2.2.1 mt'.2.2.2], ∀ (a' : Array Value) (U : State), s.WarmedH U.vm → w.before a' U = true := fun w hw a' U hW => by
    rw [List.mem_singleton.mp hw]
    exact hT.warm hW _ hM.1.1 rfl a'
  have hnp : ∀ sig, parseMethodDescriptor mt'.1.desc = some sig → n = sig.parameters.length := fun sig hsig => by
    have := hM.1.2.2.2.2.1
    rw [hsig] at this
    exact (Option.some.inj this).symm
  have hcells : sh.length - sh0.length + (sh'.length - sh.length) ≤ R.cells ∧ tot sh - tot sh0 + (tot sh' - tot sh) ≤ R.slots := ⟨by have := hR.2.2.1; omega, by have := hR.2.2.2; omega⟩
  have hstk : (as.reverse ++ (2, a) :: st).map (cv ad z) = (as.map (cv ad z)).reverse ++ .ref (ad a.toNat) :: st.map (cv ad z) := by
    rw [List.map_append, List.map_cons, cv_2 ha, List.map_reverse]
  have h8' : ((st.map (cv ad z)).map fun v => v.category).sum ≤ 8 := by rw [catL_eq]; exact h8
  obtain ⟨hM1, hM2, hM3, hM4⟩ := hM
  rw [hM4] at hMet hws
  have hcode : (Cond.code mt'.1 mt'.2.1 mt'.2.2.1 none).before args s = true := by
    have := hT _ hM1.1 rfl args
    rw [hM4] at this
    exact this
  rcases hL with hL | ⟨host, hL⟩
  · exact E_back (mt' := mt') hl hs3 hm z1 z2 X g1 g2 g5 ⟨hgr.1, hgr.2.1⟩ h (va_runI (Ts := []) ⟨X.1, X.2.1, X.2.2.1, X.2.2.2.1, fun w hw => by cases hw⟩ hMet ⟨⟨rfl, rfl, hfr.1, hfr.2, hws, List.mem_singleton.mpr rfl, hcode, hT _ hM1.2.1 rfl args, hM1.2.2.2.1, hnp, hT _ hL rfl args⟩, hM3, hT _ hM2 rfl args⟩ hpre rfl (by rw [List.length_map]; exact hn) g2.2.1 hstk (lv_room h8') hd hcells)
  · exact E_back (mt' := mt') hl hs3 hm z1 z2 X g1 g2 g5 ⟨hgr.1, hgr.2.1⟩ h (va_runIN (Ts := []) ⟨X.1, X.2.1, X.2.2.1, X.2.2.2.1, fun w hw => by cases hw⟩ hMet ⟨⟨⟨rfl, rfl, hfr.1, hfr.2, hws, List.mem_singleton.mpr rfl⟩, hcode, hT _ hM1.2.1 rfl args, hM1.2.2.2.1, hnp, hT _ hL rfl args⟩, hM3, hT _ hM2 rfl args⟩ hpre rfl (by rw [List.length_map]; exact hn) g2.2.1 hstk (lv_room h8') hd hcells)
theorem E_objinit {idx : Nat} {a : Int} (hd : decode mt.2.1 pc = .ok (.invokespecial idx, 3)) (hw : Cond.methodLink mt.1.cls idx Lib.objectInit ∈ lw_tbl ∧ Cond.instanceMethod Lib.objectInit ∈ lw_tbl ∧ Cond.code Lib.objectInit ⟨#[0xb1]⟩ 1 none ∈ lw_tbl) (ha : 0 ≤ a ∧ 1 ≤ d ∧ catL st ≤ 8) (h : E sc F mt d sh0 shF (pc + 3) ls st sh σ) : E sc F mt d sh0 shF pc ls ((2, a) :: st) sh σ := by
  intro hl hs hm z1 z2 p l e R s m args below meth c D cA A z ad0 X lsA H locs ad g1 g2 g3 g4 g5
  have hT := X.2.2.2.2.2.2.2.1
  have hR := X.2.2.2.2.2.2.2.2.2.2.2
  have h8' : ((st.map (cv ad z)).map fun v => v.category).sum ≤ 8 := by rw [catL_eq]; exact ha.2.2
  rw [List.map_cons, cv_2 ha.1]
  refine W.objInit X.1 X.2.1 X.2.2.2.1 (hT _ hw.1 rfl args) (hT _ hw.2.1 rfl args) (hT _ hw.2.2 rfl args) rfl (g2.2.1.trans X.2.2.1.symm) rfl hd (Nat.le_trans ha.2.1 hR.1) ?_ ?_
  · have h1 : 2 * (F0 m pc lsA (Value.ref (ad a.toNat) :: st.map (cv ad z))).monitorRoom + ((st.map (cv ad z)).map fun v => v.category).sum ≤ 8 := lv_room h8'
    have h2 := hR.2.1
    have h3 : 1 * LW ≤ d * LW := Nat.mul_le_mul_right _ ha.2.1
    unfold LW at h2 h3
    omega
  · exact h hl (wfl_cons.mp hs).2 hm z1 z2 p l e R s m args below meth c D cA A z ad0 X lsA H locs ad g1 g2 g3 g4 g5
end
