/-! ===== the law's own: its script, its end ===== -/
def R_law : String := "ParapetCourtLaw"
def lw_P (b : Addr) (xs : List Int32) (args : Array Value) (s : State) : Prop := args = #[.ref b] ∧ s.IntsAt b xs ∧ xs.length ≤ 3072 ∧ (Jvm.Cond.and given_1 narrow_1).before args s = true
def lw_Q (_ : Array Value) (s : State) (o : Outcome) (t : State) : Prop := o = .returned (some (.int 1)) ∧ Framed s o t [] 600000 7302250
def lw_Z (below : List Frame) (a : Array Value) (s : State) : State → Prop := fun t => ∃ o, t.status = .running ∧ Ended t below o ∧ lw_Q a s o t
theorem lw_retA {p : Program} {l : Launch} {e : Env} {R : Room} {s : State} {m : MethodId} {args : Array Value} {below : List Frame} {meth : Method} {c : Code} (hx : p.tables.exec = Jvm.exec) (hb : c.code = code) (hr : meth.sig.returnType = ret) (hlocks : meth.locks = false) {pc : Nat} {H : Heap} {ls : Array Slot} (hdg : decode code pc = .ok (.ireturn, 1)) : W p l e R s m args below meth c H [] 600000 7302250 (lw_Z below args s) (F0 m pc ls [.int 1]) := by
  intro T hT X
  obtain ⟨fs, hret, hrun, hended, hW, hframe⟩ := X.leave (v := some (.int 1)) (hlocks := hlocks) (fun h => by rw [hr] at h; cases h)
  have hmeth' : T.vm.method? m = some meth := X.method'
  refine ⟨T.setFrames fs, ?_, .returned (some (.int 1)), hrun, hended, rfl, ⟨_, rfl⟩, hW, hframe⟩
  jvm_step X.here [X.here.top, hx, hb, hdg, hmeth', hr, ret, narrow_b1]
  (try refine ⟨rfl, ?_⟩); (try refine ⟨rfl, ?_⟩)
  first | (intro acts; rw [hret _ acts rfl rfl rfl]) | rw [hret _ _ rfl rfl rfl]
  exact Steps.refl _
def mt_L_law : Mth := (⟨"ParapetCourtLaw", "law", "([I)Z"⟩, code, 4, some .boolean)
/-- the law's end: it answers 1, nothing that was there has changed -/
def FLw : FinT := fun args s below _ _ A _ _ t => (∀ q, A q → s.heap.size ≤ q) → lw_Z below args s t
/-- a number of the script -/
def sl (sc : Nat × (Nat → Int32)) (i : Int) : Option Int := if 0 ≤ i ∧ i < sc.1 then some (sc.2 i.toNat).toInt else none
section
variable {sc : Nat × (Nat → Int32)} {F : FinT} {mt : Mth} {d : Nat} {sh0 shF sh : Shp} {pc : Nat} {ls st : List TV} {σ : Mem}
theorem E_lawret (hd : decode code pc = .ok (.ireturn, 1)) (hz : sh.length - sh0.length ≤ 600000 ∧ tot sh - tot sh0 ≤ 7302250) : E sc FLw mt_L_law d sh0 shF pc ls [(0, 1)] sh σ := by
  intro hl hs hm z1 z2 p l e R s m args below meth c D cA A z ad0 X lsA H locs ad g1 g2 g3 g4 g5
  by_cases hA : ∀ q, A q → s.heap.size ≤ q
  · refine W.widen (k := 600000) (n := 7302250) hz.1 hz.2 ?_
    refine va_forget (fun q hq => hA _ (g5.2.2 q hq)) ?_
    intro T hT X0
    obtain ⟨t, a1, b1⟩ := lw_retA (R := R) (args := args) (below := below) X.1 X.2.1 X.2.2.2.2.2.1 X.2.2.2.2.2.2.1 hd T hT X0
    exact ⟨t, a1, fun _ => b1⟩
  · intro T hT X0
    exact ⟨_, Steps.refl _, fun q => absurd q hA⟩
theorem E_sld {α : Type} {o : α} {f : Int → Option α} {i x : Int} (hd : decode mt.2.1 pc = .ok (.iaload, 1)) (h : (sl sc i).bind f = some o) (k : ∀ x, f x = some o → E sc F mt d sh0 shF (pc + 1) ls ((0, x) :: st) sh σ) : E sc F mt d sh0 shF pc ls ((0, i) :: (3, x) :: st) sh σ := by
  intro hl hs hm z1 z2 p l e R s m args below meth c D cA A z ad0 X lsA H locs ad g1 g2 g3 g4 g5
  obtain ⟨v, hv, hf⟩ := Option.bind_eq_some_iff.mp h
  unfold sl at hv
  split at hv
  · next q =>
    cases hv
    obtain ⟨hi, hs⟩ := wfl_cons.mp hs
    obtain ⟨⟨hX, hbl, hbA⟩, -⟩ := X.2.2.2.2.2.2.2.2.2.1
    have h3 := k _ hf hl (wfl_cons.mpr ⟨wfv_i (i32_R _), (wfl_cons.mp hs).2⟩) hm z1 z2 p l e R s m args below meth c D cA A z ad0 X lsA H locs ad g1 g2 g3 g4 g5
    refine va_sld X.1 X.2.1 hX hbl hbA g5 (i32_in hi.i q.1 q.2) hd ?_
    rw [i32_clamp hi.i]
    rw [List.map_cons, show cv ad z (0, (sc.2 i.toNat).toInt) = .int (sc.2 i.toNat) from by simp [cv]] at h3
    exact h3
  · cases hv
theorem E_slen {x : Int} (hd : decode mt.2.1 pc = .ok (.arraylength, 1)) (hL : (sc.1 : Int) ≤ 2147483647) (h : E sc F mt d sh0 shF (pc + 1) ls ((0, (sc.1 : Int)) :: st) sh σ) : E sc F mt d sh0 shF pc ls ((3, x) :: st) sh σ := by
  intro hl hs hm z1 z2 p l e R s m args below meth c D cA A z ad0 X lsA H locs ad g1 g2 g3 g4 g5
  obtain ⟨⟨hX, hbl, hbA⟩, -⟩ := X.2.2.2.2.2.2.2.2.2.1
  have h3 := h hl (wfl_cons.mpr ⟨wfv_i ⟨by omega, hL⟩, (wfl_cons.mp hs).2⟩) hm z1 z2 p l e R s m args below meth c D cA A z ad0 X lsA H locs ad g1 g2 g3 g4 g5
  refine va_slen X.1 X.2.1 hX hbl hbA g5 hd ?_
  rw [List.map_cons, show cv ad z (0, (sc.1 : Int)) = .int (Int32.ofNat sc.1) from by simp [cv, Int32.ofInt_eq_ofNat]] at h3
  exact h3
end
