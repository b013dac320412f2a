/-! ===== Math's own: min, max, abs, floorMod ===== -/
def imin (x y : Int) : Int := if y < x then y else x
def imax (x y : Int) : Int := if x < y then y else x
def iabs (x : Int) : Int := if 0 ≤ x then x else w32 (0 - x)
def labs (x : Int) : Int := if 0 < x then x else w64 (-x)
def ifm (x y : Int) : Int := if (x < 0 ↔ y < 0) then w32 (x.tmod y) else if x.tmod y = 0 then w32 (x.tmod y) else w32 (w32 (x.tmod y) + y)
theorem mw_i : Cond.initialized "java/lang/Math" ∈ lw_tbl := List.mem_append_right _ (List.mem_of_getElem? (i := 19) (by decide +kernel))
theorem mw_mins : Cond.static Lib.Math.min.name ∈ lw_tbl := List.mem_append_right _ (List.mem_of_getElem? (i := 611) (by decide +kernel))
theorem mw_minc : Cond.code Lib.Math.min.name Lib.Math.min.code 2 (some .int) ∈ lw_tbl := List.mem_append_right _ (List.mem_of_getElem? (i := 612) (by decide +kernel))
theorem mw_maxs : Cond.static Lib.Math.max.name ∈ lw_tbl := List.mem_append_right _ (List.mem_of_getElem? (i := 1049) (by decide +kernel))
theorem mw_maxc : Cond.code Lib.Math.max.name Lib.Math.max.code 2 (some .int) ∈ lw_tbl := List.mem_append_right _ (List.mem_of_getElem? (i := 1050) (by decide +kernel))
theorem mw_abss : Cond.static Lib.Math.abs.name ∈ lw_tbl := List.mem_append_right _ (List.mem_of_getElem? (i := 875) (by decide +kernel))
theorem mw_absc : Cond.code Lib.Math.abs.name Lib.Math.abs.code 1 (some .int) ∈ lw_tbl := List.mem_append_right _ (List.mem_of_getElem? (i := 876) (by decide +kernel))
theorem mw_labss : Cond.static Lib.MathLoose.abs_long.x ∈ lw_tbl := List.mem_append_right _ (List.mem_of_getElem? (i := 2017) (by decide +kernel))
theorem mw_labsc : Cond.code Lib.MathLoose.abs_long.x Lib.MathLoose.abs_long.code 2 (some .long) ∈ lw_tbl := List.mem_append_right _ (List.mem_of_getElem? (i := 2018) (by decide +kernel))
theorem mw_fms : Cond.static fmX ∈ lw_tbl := List.mem_append_right _ (List.mem_of_getElem? (i := 1148) (by decide +kernel))
theorem mw_fmc : Cond.code fmX fmC 3 (some .int) ∈ lw_tbl := List.mem_append_right _ (List.mem_of_getElem? (i := 1149) (by decide +kernel))
section
variable {sc : Nat × (Nat → Int32)} {F : FinT} {mt : Mth} {d : Nat} {sh0 shF sh : Shp} {pc : Nat} {ls st : List TV} {σ : Mem}
theorem ctx_locals {p : Program} {R : Room} {s : State} {m : MethodId} {meth : Method} {c : Code} {D : va_G} {cA : Nat → ClassId} {A : Nat → Prop} {z : Ats} {ad : Nat → Nat} (X : Ctx mt d sh0 shF sc p R s m meth c D cA A z) (hd : 1 ≤ d) (h8 : catL st ≤ 8) : 1 ≤ R.frames ∧ ((st.map (cv ad z)).map fun v => v.category).sum + 13 ≤ R.locals := by
  have hR := X.2.2.2.2.2.2.2.2.2.2.2
  have h2 := hR.2.1
  have h3 : 1 * LW ≤ d * LW := Nat.mul_le_mul_right _ hd
  rw [catL_eq]
  unfold LW at h2 h3
  exact ⟨Nat.le_trans hd hR.1, by omega⟩
theorem ctx_locals14 {p : Program} {R : Room} {s : State} {m : MethodId} {meth : Method} {c : Code} {D : va_G} {cA : Nat → ClassId} {A : Nat → Prop} {z : Ats} {ad : Nat → Nat} (X : Ctx mt d sh0 shF sc p R s m meth c D cA A z) (hd : 1 ≤ d) (h8 : catL st ≤ 8) : 1 ≤ R.frames ∧ 8 + 14 ≤ R.locals := by
  have hR := X.2.2.2.2.2.2.2.2.2.2.2
  have h2 := hR.2.1
  have h3 : 1 * LW ≤ d * LW := Nat.mul_le_mul_right _ hd
  unfold LW at h2 h3
  exact ⟨Nat.le_trans hd hR.1, by omega⟩
theorem E_imin {idx : Nat} {x y : Int} (hd : decode mt.2.1 pc = .ok (.invokestatic idx, 3)) (hw : Cond.methodLink mt.1.cls idx ⟨"java/lang/Math", "min", "(II)I"⟩ ∈ lw_tbl) (hdp : 1 ≤ d) (h8 : catL st ≤ 8) (h : E sc F mt d sh0 sh (pc + 3) ls ((0, imin x y) :: st) sh σ) : E sc F mt d sh0 sh pc ls ((0, y) :: (0, x) :: st) sh σ := by
  intro hl hs hm z1 z2 p l e R s m args below meth c D cA A z ad0 X lsA H locs ad g1 g2 g3 g4 g5
  obtain ⟨hy, hs⟩ := wfl_cons.mp hs
  obtain ⟨hx, hs⟩ := wfl_cons.mp hs
  have hT := X.2.2.2.2.2.2.2.1
  have hR := X.2.2.2.2.2.2.2.2.2.2.2
  have hL := ctx_locals (ad := ad) X hdp h8
  refine va_mmin X.1 X.2.1 (X.2.2.1.trans g2.2.1.symm) X.2.2.2.1 (hT _ hw rfl args) (hT _ mw_mins rfl args) (hT _ mw_i rfl args) (hT _ mw_minc rfl args) hL.1 hL.2 hR.2.2.1 hR.2.2.2 hd ?_
  rw [show (if Int32.ofInt y < Int32.ofInt x then Int32.ofInt y else Int32.ofInt x) = Int32.ofInt (imin x y) from by
    unfold imin
    simp only [i32_lt hy.i hx.i]
    split <;> rfl]
  have hr : R32 (imin x y) := by
    unfold imin
    split
    · exact hy.i
    · exact hx.i
  exact h hl (wfl_cons.mpr ⟨wfv_i hr, hs⟩) hm z1 z2 p l e R s m args below meth c D cA A z ad0 X lsA H locs ad g1 g2 g3 g4 g5
theorem E_imax {idx : Nat} {x y : Int} (hd : decode mt.2.1 pc = .ok (.invokestatic idx, 3)) (hw : Cond.methodLink mt.1.cls idx ⟨"java/lang/Math", "max", "(II)I"⟩ ∈ lw_tbl) (hdp : 1 ≤ d) (h8 : catL st ≤ 8) (h : E sc F mt d sh0 sh (pc + 3) ls ((0, imax x y) :: st) sh σ) : E sc F mt d sh0 sh pc ls ((0, y) :: (0, x) :: st) sh σ := by
  intro hl hs hm z1 z2 p l e R s m args below meth c D cA A z ad0 X lsA H locs ad g1 g2 g3 g4 g5
  obtain ⟨hy, hs⟩ := wfl_cons.mp hs
  obtain ⟨hx, hs⟩ := wfl_cons.mp hs
  have hT := X.2.2.2.2.2.2.2.1
  have hR := X.2.2.2.2.2.2.2.2.2.2.2
  have hL := ctx_locals (ad := ad) X hdp h8
  refine va_mmax X.1 X.2.1 (X.2.2.1.trans g2.2.1.symm) X.2.2.2.1 (hT _ hw rfl args) (hT _ mw_maxs rfl args) (hT _ mw_i rfl args) (hT _ mw_maxc rfl args) hL.1 hL.2 hR.2.2.1 hR.2.2.2 hd ?_
  rw [show (if Int32.ofInt x < Int32.ofInt y then Int32.ofInt y else Int32.ofInt x) = Int32.ofInt (imax x y) from by
    unfold imax
    simp only [i32_lt hx.i hy.i]
    split <;> rfl]
  have hr : R32 (imax x y) := by
    unfold imax
    split
    · exact hy.i
    · exact hx.i
  exact h hl (wfl_cons.mpr ⟨wfv_i hr, hs⟩) hm z1 z2 p l e R s m args below meth c D cA A z ad0 X lsA H locs ad g1 g2 g3 g4 g5
theorem E_iabs {idx : Nat} {x : Int} (hd : decode mt.2.1 pc = .ok (.invokestatic idx, 3)) (hw : Cond.methodLink mt.1.cls idx ⟨"java/lang/Math", "abs", "(I)I"⟩ ∈ lw_tbl) (hdp : 1 ≤ d) (h8 : catL st ≤ 8) (h : E sc F mt d sh0 sh (pc + 3) ls ((0, iabs x) :: st) sh σ) : E sc F mt d sh0 sh pc ls ((0, x) :: st) sh σ := by
  intro hl hs hm z1 z2 p l e R s m args below meth c D cA A z ad0 X lsA H locs ad g1 g2 g3 g4 g5
  obtain ⟨hx, hs⟩ := wfl_cons.mp hs
  have hT := X.2.2.2.2.2.2.2.1
  have hR := X.2.2.2.2.2.2.2.2.2.2.2
  have hL := ctx_locals (ad := ad) X hdp h8
  refine va_mabs X.1 X.2.1 (X.2.2.1.trans g2.2.1.symm) X.2.2.2.1 (hT _ hw rfl args) (hT _ mw_abss rfl args) (hT _ mw_i rfl args) (hT _ mw_absc rfl args) hL.1 hL.2 hR.2.2.1 hR.2.2.2 hd ?_
  rw [show (if 0 ≤ Int32.ofInt x then Int32.ofInt x else 0 - Int32.ofInt x) = Int32.ofInt (iabs x) from by
    unfold iabs
    simp only [i32_0le hx.i]
    split
    · rfl
    · rw [w32_of, Int32.ofInt_sub, i32_zero]]
  have hr : R32 (iabs x) := by
    unfold iabs
    split
    · exact hx.i
    · exact w32_R _
  exact h hl (wfl_cons.mpr ⟨wfv_i hr, hs⟩) hm z1 z2 p l e R s m args below meth c D cA A z ad0 X lsA H locs ad g1 g2 g3 g4 g5
theorem E_labs {idx : Nat} {x : Int} (hd : decode mt.2.1 pc = .ok (.invokestatic idx, 3)) (hw : Cond.methodLink mt.1.cls idx ⟨"java/lang/Math", "abs", "(J)J"⟩ ∈ lw_tbl) (hdp : 1 ≤ d) (h8 : catL st ≤ 8) (h : E sc F mt d sh0 sh (pc + 3) ls ((1, labs x) :: st) sh σ) : E sc F mt d sh0 sh pc ls ((1, x) :: st) sh σ := by
  intro hl hs hm z1 z2 p l e R s m args below meth c D cA A z ad0 X lsA H locs ad g1 g2 g3 g4 g5
  obtain ⟨hx, hs⟩ := wfl_cons.mp hs
  have hT := X.2.2.2.2.2.2.2.1
  have hR := X.2.2.2.2.2.2.2.2.2.2.2
  have hL := ctx_locals (ad := ad) X hdp h8
  refine va_mabs_long X.1 X.2.1 (X.2.2.1.trans g2.2.1.symm) X.2.2.2.1 (hT _ hw rfl args) (hT _ mw_labss rfl args) (hT _ mw_i rfl args) (hT _ mw_labsc rfl args) hL.1 hL.2 hR.2.2.1 hR.2.2.2 hd ?_
  rw [show (if 0 < Int64.ofInt x then Int64.ofInt x else -Int64.ofInt x) = Int64.ofInt (labs x) from by
    unfold labs
    have e0 : (0 : Int64) = Int64.ofInt 0 := by decide +kernel
    rw [e0]
    simp only [i64_lt (x := 0) ⟨by omega, by omega⟩ hx.l]
    split
    · rfl
    · rw [w64_of, Int64.ofInt_neg]]
  have hr : R64 (labs x) := by
    unfold labs
    split
    · exact hx.l
    · exact w64_R _
  exact h hl (wfl_cons.mpr ⟨wfv_l hr, hs⟩) hm z1 z2 p l e R s m args below meth c D cA A z ad0 X lsA H locs ad g1 g2 g3 g4 g5
theorem xor_sign (a b : Int32) : 0 ≤ a ^^^ b ↔ (a < 0 ↔ b < 0) := by
  have key : ∀ z : Int32, z < 0 ↔ z.toBitVec.msb = true := fun z => by
    rw [Int32.lt_iff_toInt_lt, Int32.toInt_zero, BitVec.msb_eq_toInt]
    simp only [decide_eq_true_eq]
    exact Iff.rfl
  have h0 : 0 ≤ a ^^^ b ↔ ¬ (a ^^^ b) < 0 := by
    rw [Int32.le_iff_toInt_le, Int32.lt_iff_toInt_lt]
    omega
  rw [h0, key, key, key, Int32.toBitVec_xor, BitVec.msb_xor]
  cases a.toBitVec.msb <;> cases b.toBitVec.msb <;> simp
theorem fmR_eq {x y : Int} (hx : R32 x) (hy : R32 y) : fmR (Int32.ofInt x) (Int32.ofInt y) = Int32.ofInt (ifm x y) := by
  unfold fmR ifm
  rw [i32_rem hx hy]
  have e1 : (0 ≤ Int32.ofInt x ^^^ Int32.ofInt y) ↔ (x < 0 ↔ y < 0) := by rw [xor_sign, i32_lt0 hx, i32_lt0 hy]
  have hr : R32 (x.tmod y) := by
    have : x.tmod y = (Int32.ofInt x % Int32.ofInt y).toInt := by rw [Int32.toInt_mod, R32_to hx, R32_to hy]
    rw [this]
    exact i32_R _
  have e2 : (Int32.ofInt (w32 (x.tmod y)) = 0) ↔ x.tmod y = 0 := by rw [w32_id hr]; exact i32_eq0 hr
  by_cases h1 : (x < 0 ↔ y < 0)
  · rw [if_pos (e1.mpr h1), if_pos h1]
  · rw [if_neg (fun q => h1 (e1.mp q)), if_neg h1]
    by_cases h2 : x.tmod y = 0
    · rw [if_pos (e2.mpr h2), if_pos h2]
    · rw [if_neg (fun q => h2 (e2.mp q)), if_neg h2, w32_of (w32 (x.tmod y) + y), Int32.ofInt_add]
theorem ifm_R (x y : Int) : R32 (ifm x y) := by
  unfold ifm
  split
  · exact w32_R _
  · split <;> exact w32_R _
theorem fm_V {p : Program} {l : Launch} {e : Env} {R : Room} {s : State} {m : MethodId} {args : Array Value} {below : List Frame} {meth : Method} {c : Code} {T : State} {locs : List Loc} {cells slots : Nat} (X : Stand p l e R s m args below meth c T locs cells slots) (hexec : p.tables.exec = Jvm.exec) {own : String} {index : Nat} (hown : s.vm.findClass own = some m.cls)
    (hlink : (Cond.methodLink own index fmX).before args s = true) (hstat : (Cond.static fmX).before args s = true) (hinit : (Cond.initialized "java/lang/Math").before args s = true)
    (hcode : (Cond.code fmX fmC 3 (some .int)).before args s = true)
    {g : JFrame} (hg : g.method = m) (hsize : g.locals.size = c.maxLocals) {a b : Int32} (hb0 : ¬ b = 0) {rest : List Value} (hstack : g.stack = .int b :: .int a :: rest) (hdg : decode c.code g.pc = .ok (.invokestatic index, 3))
    (hframes : 1 ≤ R.frames) (hlocals : 2 * g.monitorRoom + (rest.map fun v => v.category).sum + 14 ≤ R.locals) (hcells : cells ≤ R.cells) (hslots : slots ≤ R.slots) :
    ∃ vm', Stand p l e R s m args below meth c (T.setVm vm') locs cells slots ∧
      ∀ target, Steps p.tables e below ((T.setVm vm').setTop { g with pc := g.pc + 3, stack := .int (fmR a b) :: rest }) target → Steps p.tables e below (T.setTop g) target := by
  obtain ⟨v, T', X', ⟨first, t, hpost⟩, hstep⟩ := X.staticByContractV hexec hown hlink hstat hinit hcode (by decide)
    (fm_meets l a b hb0)
    rfl rfl rfl rfl
    (fun args' first o s₂ h => by
      cases o with
      | returned r => exact ⟨r, rfl⟩
      | threw y => simp [fmS, Cond.after, Cond.holds, Cond.value] at h)
    hg hsize (argsL := [.int a, .int b]) (rest := rest)
    (fun sig hs => by
      have h : parseMethodDescriptor "(II)I" = some { parameters := [.int, .int], returnType := some .int } := by decide +kernel
      rw [show fmX.desc = "(II)I" from rfl, h] at hs
      rw [← Option.some.inj hs]; rfl)
    hstack hdg
    (fun vm' hW => by
      simp only [fmS, Cond.before_and, Bool.and_eq_true]
      refine ⟨?_, rfl, rfl, rfl, by simp [Cond.before, Cond.holds, Cond.value, Term.eval], by simp [Cond.before, Cond.holds, Cond.value, Term.eval]⟩
      have q := hcode
      rw [← Cond.code_setVm hW.alike] at q
      simp only [Cond.before, Cond.holds, Cond.value, State.methodNamed?, State.vm_setVm] at q ⊢
      exact q)
    (by show 0 + 1 ≤ R.frames; omega) (by show 2 * g.monitorRoom + (rest.map fun v => v.category).sum + (3 + 11) + 0 ≤ R.locals; omega) (by show cells + 0 ≤ R.cells; omega) (by show slots + 0 ≤ R.slots; omega)
  refine ⟨T', X', fun target h => hstep target ?_⟩
  obtain rfl : v = some (.int (fmR a b)) := by
    rcases v with _ | w
    · simp [fmS, Cond.after, Cond.holds, Cond.value, Term.eval] at hpost
    · cases w <;> simp [fmS, Cond.after, Cond.holds, Cond.value, Term.eval] at hpost
      first | (simp [hpost]; done) | (rename_i r; by_cases hr : r = fmR a b <;> simp [hr] at hpost ⊢)
  exact h
theorem E_ifm {idx : Nat} {x y : Int} (hd : decode mt.2.1 pc = .ok (.invokestatic idx, 3)) (hw : Cond.methodLink mt.1.cls idx ⟨"java/lang/Math", "floorMod", "(II)I"⟩ ∈ lw_tbl) (hdp : 1 ≤ d) (h8 : catL st ≤ 8) (h0 : ¬ y = 0) (h : E sc F mt d sh0 sh (pc + 3) ls ((0, ifm x y) :: st) sh σ) : E sc F mt d sh0 sh pc ls ((0, y) :: (0, x) :: st) sh σ := by
  intro hl hs hm z1 z2 p l e R s m args below meth c D cA A z ad0 X lsA H locs ad g1 g2 g3 g4 g5
  obtain ⟨hy, hs⟩ := wfl_cons.mp hs
  obtain ⟨hx, hs⟩ := wfl_cons.mp hs
  have hT := X.2.2.2.2.2.2.2.1
  have hR := X.2.2.2.2.2.2.2.2.2.2.2
  have hL := ctx_locals14 (ad := ad) X hdp h8
  have h2 := h hl (wfl_cons.mpr ⟨wfv_i (ifm_R x y), hs⟩) hm z1 z2 p l e R s m args below meth c D cA A z ad0 X lsA H locs ad g1 g2 g3 g4 g5
  rw [List.map_cons, show cv ad z (0, ifm x y) = .int (Int32.ofInt (ifm x y)) from rfl, ← fmR_eq hx.i hy.i] at h2
  intro T hTT X0
  have hmr : 2 * (F0 m pc lsA (Value.int (Int32.ofInt y) :: Value.int (Int32.ofInt x) :: st.map (cv ad z))).monitorRoom + ((st.map (cv ad z)).map fun v => v.category).sum ≤ 8 := lv_room (by rw [catL_eq]; exact h8)
  obtain ⟨vm', X', stp⟩ := fm_V X0 X.1 X.2.2.2.1 (hT _ hw rfl args) (hT _ mw_fms rfl args) (hT _ mw_i rfl args) (hT _ mw_fmc rfl args) (g := F0 m pc lsA (.int (Int32.ofInt y) :: .int (Int32.ofInt x) :: st.map (cv ad z))) rfl (g2.2.1.trans X.2.2.1.symm) (a := Int32.ofInt x) (b := Int32.ofInt y) (fun q => h0 ((i32_eq0 hy.i).mp q)) rfl (by rw [X.2.1]; exact hd) hL.1 (by have := hL.2; omega) hR.2.2.1 hR.2.2.2
  obtain ⟨t, a1, b1⟩ := h2 (T.setVm vm') hTT X'
  exact ⟨t, stp t a1, b1⟩
end
