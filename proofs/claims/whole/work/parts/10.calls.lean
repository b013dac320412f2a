/-! ===== calls, ends, switches ===== -/
def Qm (n0 : Nat) (r : Option TV) (shF : Shp) (σF : Mem) (D : va_G) (cA : Nat → ClassId) (A : Nat → Prop) (z : Ats) (ad0 : Nat → Nat) : Array Value → State → Outcome → State → Prop := fun _ s o t =>
  (∃ ad : Nat → Nat, (∀ a, a < n0 → ad a = ad0 a) ∧ o = .returned (r.map (cv ad z)) ∧ wfl shF.length r.toList ∧ wfm shF σF ∧ va_P D clX (wsO ad z cA σF shF) t.heap ∧ va_D A (wsO ad z cA σF shF)) ∧ va_F A s t
/-- a method's end: its answer, its cells -/
def Fm (sh0 : Shp) (r : Option TV) (shF : Shp) (σF : Mem) : FinT := fun args s below D cA A z ad0 => MQ below (Qm sh0.length r shF σF D cA A z ad0) args s (shF.length - sh0.length) (tot shF - tot sh0) A
def rmD (d mc ms : Nat) : Room := { frames := d, cells := mc, slots := ms, locals := d * LW }
def PreM (sc : Nat × (Nat → Int32)) (D : va_G) (cA : Nat → ClassId) (A : Nat → Prop) (z : Ats) (ad : Nat → Nat) (sh : Shp) (σ : Mem) (U : State) : Prop :=
  TB U ∧ va_K D clX (tyX cA) U ∧ EV sc z A U ∧ (∀ q, U.heap.size ≤ q → A q) ∧ va_P D clX (wsO ad z cA σ sh) U.heap ∧ va_D A (wsO ad z cA σ sh)
/-- a contract -/
def Cn (mt : Mth) (d : Nat) (av : List TV) (sh : Shp) (σ : Mem) (r : Option TV) (shF : Shp) (σF : Mem) : Prop :=
  wfl sh.length av → wfm sh σ → ∀ (sc : Nat × (Nat → Int32)) (l : Launch) (D : va_G) (cA : Nat → ClassId) (A : Nat → Prop) (z : Ats) (ad : Nat → Nat),
  Met l mt.1 [Cond.code mt.1 mt.2.1 mt.2.2.1 mt.2.2.2] (rmD d (shF.length - sh.length) (tot shF - tot sh)) (va_Pc (av.map (cv ad z)) (PreM sc D cA A z ad sh σ)) (Qm sh.length r shF σF D cA A z ad) (shF.length - sh.length) (tot shF - tot sh) A
theorem PreM.blind {sc : Nat × (Nat → Int32)} {D : va_G} {cA : Nat → ClassId} {A : Nat → Prop} {z : Ats} {ad : Nat → Nat} {sh : Shp} {σ : Mem} {av : List Value} : FrameBlind (va_Pc av (PreM sc D cA A z ad sh σ)) := by
  intro a U g mk h
  obtain ⟨h0, h1, h2, h3, h4, h5, h6⟩ := h
  exact ⟨h0, h1.warm (U := U.calling g mk a) (State.WarmedH.refl U), va_K.moved (u := U) (U := U.calling g mk a) (Vm.Alike.refl U.vm) h2, h3.go (U := U.calling g mk a) (locs := []) (State.WarmedH.refl U) va_S.rf, h4, h5, h6⟩
/-- the locals at a method's entry -/
def exL : List TV → List TV
  | [] => []
  | v :: vs => (match v.1 with | 1 => v :: (9, 0) :: exL vs | _ => v :: exL vs)
def entL (n : Nat) (av : List TV) : List TV := exL av ++ List.replicate (n - (exL av).length) (9, 0)
theorem exL_at (ad : Nat → Nat) (z : Ats) : ∀ (av : List TV) (o i : Nat) (v : TV), (exL av)[i]? = some v → v.1 ≠ 9 → (o + i, cv ad z v) ∈ lv_args o (av.map (cv ad z))
  | [], o, i, v, h, _ => by simp [exL] at h
  | u :: us, o, i, v, h, h9 => by
    rw [List.map_cons]
    unfold lv_args
    unfold exL at h
    split at h
    · next q =>
      have hc : (cv ad z u).category = 2 := cv_cat.mpr q
      rw [if_pos hc]
      match i, h with
      | 0, h =>
        simp at h
        subst h
        exact List.mem_cons_self
      | 1, h =>
        simp at h
        exact absurd (by rw [← h]) h9
      | i + 2, h =>
        have := exL_at ad z us (o + 2) i v (by simpa using h) h9
        rw [show o + (i + 2) = o + 2 + i by omega]
        exact List.mem_cons_of_mem _ this
    · next q =>
      have hc : ¬ (cv ad z u).category = 2 := fun r => q (cv_cat.mp r)
      rw [if_neg hc]
      match i, h with
      | 0, h =>
        simp at h
        subst h
        exact List.mem_cons_self
      | i + 1, h =>
        have := exL_at ad z us (o + 1) i v (by simpa using h) h9
        rw [show o + (i + 1) = o + 1 + i by omega]
        exact List.mem_cons_of_mem _ this
theorem exL_len (ad : Nat → Nat) (z : Ats) : ∀ av : List TV, (exL av).length = (lg_sl (av.map (cv ad z))).length
  | [] => rfl
  | u :: us => by
    have ih := exL_len ad z us
    unfold exL
    simp only [lg_sl, List.map_cons, List.flatMap_cons, List.length_append] at ih ⊢
    split
    · next q =>
      rw [if_pos (cv_cat.mpr q)]
      simp only [List.length_cons, List.length_nil]
      omega
    · next q =>
      rw [if_neg (fun r => q (cv_cat.mp r))]
      simp only [List.length_cons, List.length_nil]
      omega
theorem wfl_exL {n : Nat} : ∀ av : List TV, wfl n av → wfl n (exL av)
  | [], _ => wfl_nil
  | u :: us, h => by
    obtain ⟨h1, h2⟩ := wfl_cons.mp h
    have ih := wfl_exL us h2
    unfold exL
    split
    · exact wfl_cons.mpr ⟨h1, wfl_cons.mpr ⟨wfv_s (by omega), ih⟩⟩
    · exact wfl_cons.mpr ⟨h1, ih⟩
theorem wfl_entL {n k : Nat} {av : List TV} (h : wfl n av) : wfl n (entL k av) := by
  intro w hw
  rcases List.mem_append.mp hw with q | q
  · exact wfl_exL av h w q
  · rw [List.eq_of_mem_replicate q]
    exact wfv_s (by omega)
/-- a contract out of the judgement at the method's entry -/
theorem Cn_of {mt : Mth} {d : Nat} {av : List TV} {sh shF : Shp} {σ σF : Mem} {r : Option TV} (hp : plainName mt.1.cls = true) (hn : (exL av).length ≤ mt.2.2.1) (h : ∀ sc, E sc (Fm sh r shF σF) mt d sh shF 0 (entL mt.2.2.1 av) [] sh σ) : Cn mt d av sh σ r shF σF := by
  intro hw hm sc l D cA A z ad
  refine Met.ofW (cc := mt.2.1) (maxL := mt.2.2.1) (ret := mt.2.2.2) hp rfl ?_
  intro p e s m args below meth c s₁ B hml hv
  obtain ⟨rfl, h1, h2, h3, h4, h5, h6⟩ := hv
  have hl := lv_entry (av.map (cv ad z)) (n := mt.2.2.1) (by rw [← exL_len]; exact hn)
  rw [lg_entry_eq]
  have hC : Ctx mt d sh shF sc p (headSpec [Cond.code mt.1 mt.2.1 mt.2.2.1 mt.2.2.2] (rmD d (shF.length - sh.length) (tot shF - tot sh))).room s m meth c D cA A z :=
    ⟨B.exec, B.bytes, hml, findClass_of_methodNamed B.named, (name_of_methodNamed B.named B.method).1, B.returns, B.notSynchronized, h1, h2, h3, h4, Nat.le_refl _, Nat.le_refl _, Nat.le_refl _, Nat.le_refl _⟩
  have hlh : LH ad z (lg_sl (av.map (cv ad z)) ++ List.replicate (mt.2.2.1 - (lg_sl (av.map (cv ad z))).length) Slot.unset).toArray mt.2.2.1 (entL mt.2.2.1 av) := by
    refine ⟨?_, hl.1, hl.2.1, fun i v hi h9 => ?_⟩
    · simp only [entL, List.length_append, List.length_replicate]
      omega
    · unfold entL at hi
      by_cases q : i < (exL av).length
      · rw [List.getElem?_append_left q] at hi
        have := exL_at ad z av 0 i v hi h9
        rw [Nat.zero_add] at this
        exact hl.2.2 _ this
      · rw [List.getElem?_append_right (by omega)] at hi
        have := List.eq_of_mem_replicate (List.mem_of_getElem? hi)
        exact absurd (by rw [this]) h9
  have key := h sc (wfl_entL hw) wfl_nil hm (Nat.le_refl _) (Nat.le_refl _) p l e _ s m (av.map (cv ad z)).toArray below meth c D cA A z ad hC _ s.heap [] ad (fun _ _ => rfl) hlh h5 h6 va_S.rf
  rw [Nat.sub_self, Nat.sub_self] at key
  exact key
section
variable {sc : Nat × (Nat → Int32)} {F : FinT} {mt : Mth} {d : Nat} {sh0 shF sh : Shp} {pc : Nat} {ls st : List TV} {σ : Mem}
theorem Qm_end {p : Program} {R : Room} {s : State} {m : MethodId} {meth : Method} {c : Code} {D : va_G} {cA : Nat → ClassId} {A : Nat → Prop} {z : Ats} {ad0 ad : Nat → Nat} {H : Heap} {locs : List Loc} {args : Array Value} {r : Option TV} (g1 : ∀ a, a < sh0.length → ad a = ad0 a) (hr : wfl sh.length r.toList) (hm : wfm sh σ) (g3 : va_P D clX (wsO ad z cA σ sh) H) (g4 : va_D A (wsO ad z cA σ sh)) (g5 : va_S A s.heap H locs) : ∀ t : State, t.heap = H → s.WarmedH t.vm → Qm sh0.length r sh σ D cA A z ad0 args s (.returned (r.map (cv ad z))) t := by
  intro t ht _
  exact ⟨⟨ad, g1, rfl, hr, hm, by rw [ht]; exact g3, g4⟩, g5.F ht⟩
theorem E_iret {x : Int} (hd : decode mt.2.1 pc = .ok (.ireturn, 1)) (hr : mt.2.2.2 = some .int) : E sc (Fm sh0 (some (0, x)) sh σ) mt d sh0 shF pc ls [(0, x)] sh σ := by
  intro hl hs hm z1 z2 p l e R s m args below meth c D cA A z ad0 X lsA H locs ad g1 g2 g3 g4 g5
  exact W.iret X.1 X.2.1 (X.2.2.2.2.2.1.trans hr) (Qm_end (p := p) (R := R) (m := m) (meth := meth) (c := c) (r := some (0, x)) g1 hs hm g3 g4 g5) g5.2.2 hd X.2.2.2.2.2.2.1
theorem E_zret {x : Int} (hd : decode mt.2.1 pc = .ok (.ireturn, 1)) (hr : mt.2.2.2 = some .boolean) (hx : x = 0 ∨ x = 1) : E sc (Fm sh0 (some (0, x)) sh σ) mt d sh0 shF pc ls [(0, x)] sh σ := by
  intro hl hs hm z1 z2 p l e R s m args below meth c D cA A z ad0 X lsA H locs ad g1 g2 g3 g4 g5
  have hn : Jvm.narrow .boolean (.int (Int32.ofInt x)) = .int (Int32.ofInt x) := by rcases hx with rfl | rfl <;> decide +kernel
  exact W.zret X.1 X.2.1 (X.2.2.2.2.2.1.trans hr) hn (Qm_end (p := p) (R := R) (m := m) (meth := meth) (c := c) (r := some (0, x)) g1 hs hm g3 g4 g5) g5.2.2 hd X.2.2.2.2.2.2.1
theorem E_lret {x : Int} (hd : decode mt.2.1 pc = .ok (.lreturn, 1)) (hr : mt.2.2.2 = some .long) : E sc (Fm sh0 (some (1, x)) sh σ) mt d sh0 shF pc ls [(1, x)] sh σ := by
  intro hl hs hm z1 z2 p l e R s m args below meth c D cA A z ad0 X lsA H locs ad g1 g2 g3 g4 g5
  exact W.lret X.1 X.2.1 (X.2.2.2.2.2.1.trans hr) (Qm_end (p := p) (R := R) (m := m) (meth := meth) (c := c) (r := some (1, x)) g1 hs hm g3 g4 g5) g5.2.2 hd X.2.2.2.2.2.2.1
theorem E_vret (hd : decode mt.2.1 pc = .ok (.return_, 1)) (hr : mt.2.2.2 = none) : E sc (Fm sh0 none sh σ) mt d sh0 shF pc ls [] sh σ := by
  intro hl hs hm z1 z2 p l e R s m args below meth c D cA A z ad0 X lsA H locs ad g1 g2 g3 g4 g5
  exact W.vret X.1 X.2.1 (X.2.2.2.2.2.1.trans hr) (Qm_end (p := p) (R := R) (m := m) (meth := meth) (c := c) (r := none) g1 wfl_nil hm g3 g4 g5) g5.2.2 hd X.2.2.2.2.2.2.1
end
