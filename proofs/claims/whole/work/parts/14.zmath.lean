/-! ===== Math's own: min, max, abs, floorMod ===== -/
def imin (x y : Int) : Int := if y < x then y else x
def imax (x y : Int) : Int := if x < y then y else x
def iabs (x : Int) : Int := if 0 ≤ x then x else w32 (0 - x)
def labs (x : Int) : Int := if 0 < x then x else w64 (-x)
def ifm (x y : Int) : Int := Int.fmod x y
theorem mw_i : Cond.initialized "java/lang/Math" ∈ lw_tbl := List.mem_append_right _ (List.mem_of_getElem? (i := 19) (by decide +kernel))
theorem mw_mins : Cond.static Lib.Math.min.name ∈ lw_tbl := List.mem_append_right _ (List.mem_of_getElem? (i := 611) (by decide +kernel))
theorem mw_minc : Cond.code Lib.Math.min.name Lib.Math.min.code 2 (some .int) ∈ lw_tbl := List.mem_append_right _ (List.mem_of_getElem? (i := 612) (by decide +kernel))
theorem mw_maxs : Cond.static Lib.Math.max.name ∈ lw_tbl := List.mem_append_right _ (List.mem_of_getElem? (i := 1049) (by decide +kernel))
theorem mw_maxc : Cond.code Lib.Math.max.name Lib.Math.max.code 2 (some .int) ∈ lw_tbl := List.mem_append_right _ (List.mem_of_getElem? (i := 1050) (by decide +kernel))
theorem mw_abss : Cond.static Lib.Math.abs.name ∈ lw_tbl := List.mem_append_right _ (List.mem_of_getElem? (i := 875) (by decide +kernel))
theorem mw_absc : Cond.code Lib.Math.abs.name Lib.Math.abs.code 1 (some .int) ∈ lw_tbl := List.mem_append_right _ (List.mem_of_getElem? (i := 876) (by decide +kernel))
theorem mw_labss : Cond.static Lib.MathLoose.abs_long.x ∈ lw_tbl := List.mem_append_right _ (List.mem_of_getElem? (i := 2017) (by decide +kernel))
theorem mw_labsc : Cond.code Lib.MathLoose.abs_long.x Lib.MathLoose.abs_long.code 2 (some .long) ∈ lw_tbl := List.mem_append_right _ (List.mem_of_getElem? (i := 2018) (by decide +kernel))
section
variable {sc : Nat × (Nat → Int32)} {F : FinT} {mt : Mth} {d : Nat} {sh0 shF sh : Shp} {pc : Nat} {ls st : List TV} {σ : Mem}
theorem ctx_locals {p : Program} {R : Room} {s : State} {m : MethodId} {meth : Method} {c : Code} {D : va_G} {cA : Nat → ClassId} {A : Nat → Prop} {z : Ats} {ad : Nat → Nat} (X : Ctx mt d sh0 shF sc p R s m meth c D cA A z) (hd : 1 ≤ d) (h8 : catL st ≤ 8) : 1 ≤ R.frames ∧ ((st.map (cv ad z)).map fun v => v.category).sum + 13 ≤ R.locals := by
  have hR := X.2.2.2.2.2.2.2.2.2.2.2
  have h2 := hR.2.1
  have h3 : 1 * LW ≤ d * LW := Nat.mul_le_mul_right _ hd
  rw [catL_eq]
  unfold LW at h2 h3
  exact ⟨Nat.le_trans hd hR.1, by omega⟩
theorem E_imin {idx : Nat} {x y : Int} (hd : decode mt.2.1 pc = .ok (.invokestatic idx, 3)) (hw : Cond.methodLink mt.1.cls idx ⟨"java/lang/Math", "min", "(II)I"⟩ ∈ lw_tbl) (hdp : 1 ≤ d) (h8 : catL st ≤ 8) (h : E sc F mt d sh0 sh (pc + 3) ls ((0, imin x y) :: st) sh σ) : E sc F mt d sh0 sh pc ls ((0, y) :: (0, x) :: st) sh σ := by
  intro hl hs hm z1 z2 p l e R s m args below meth c D cA A z ad0 X lsA H locs ad g1 g2 g3 g4 g5
  obtain ⟨hy, hs⟩ := wfl_cons.mp hs
  obtain ⟨hx, hs⟩ := wfl_cons.mp hs
  have hT := X.2.2.2.2.2.2.2.1
  have hR := X.2.2.2.2.2.2.2.2.2.2.2
  have hL := ctx_locals (ad := ad) X hdp h8
  refine va_mmin X.1 X.2.1 (X.2.2.1.trans g2.2.1.symm) X.2.2.2.1 (hT _ hw rfl args) (hT _ mw_mins rfl args) (hT _ mw_i rfl args) (hT _ mw_minc rfl args) hL.1 hL.2 hR.2.2.1 hR.2.2.2 hd ?_
  rw [show (if Int32.ofInt y < Int32.ofInt x then Int32.ofInt y else Int32.ofInt x) = Int32.ofInt (imin x y) from by
    unfold imin
    simp only [i32_lt hy.i hx.i]
    split <;> rfl]
  have hr : R32 (imin x y) := by
    unfold imin
    split
    · exact hy.i
    · exact hx.i
  exact h hl (wfl_cons.mpr ⟨wfv_i hr, hs⟩) hm z1 z2 p l e R s m args below meth c D cA A z ad0 X lsA H locs ad g1 g2 g3 g4 g5
theorem E_imax {idx : Nat} {x y : Int} (hd : decode mt.2.1 pc = .ok (.invokestatic idx, 3)) (hw : Cond.methodLink mt.1.cls idx ⟨"java/lang/Math", "max", "(II)I"⟩ ∈ lw_tbl) (hdp : 1 ≤ d) (h8 : catL st ≤ 8) (h : E sc F mt d sh0 sh (pc + 3) ls ((0, imax x y) :: st) sh σ) : E sc F mt d sh0 sh pc ls ((0, y) :: (0, x) :: st) sh σ := by
  intro hl hs hm z1 z2 p l e R s m args below meth c D cA A z ad0 X lsA H locs ad g1 g2 g3 g4 g5
  obtain ⟨hy, hs⟩ := wfl_cons.mp hs
  obtain ⟨hx, hs⟩ := wfl_cons.mp hs
  have hT := X.2.2.2.2.2.2.2.1
  have hR := X.2.2.2.2.2.2.2.2.2.2.2
  have hL := ctx_locals (ad := ad) X hdp h8
  refine va_mmax X.1 X.2.1 (X.2.2.1.trans g2.2.1.symm) X.2.2.2.1 (hT _ hw rfl args) (hT _ mw_maxs rfl args) (hT _ mw_i rfl args) (hT _ mw_maxc rfl args) hL.1 hL.2 hR.2.2.1 hR.2.2.2 hd ?_
  rw [show (if Int32.ofInt x < Int32.ofInt y then Int32.ofInt y else Int32.ofInt x) = Int32.ofInt (imax x y) from by
    unfold imax
    simp only [i32_lt hx.i hy.i]
    split <;> rfl]
  have hr : R32 (imax x y) := by
    unfold imax
    split
    · exact hy.i
    · exact hx.i
  exact h hl (wfl_cons.mpr ⟨wfv_i hr, hs⟩) hm z1 z2 p l e R s m args below meth c D cA A z ad0 X lsA H locs ad g1 g2 g3 g4 g5
theorem E_iabs {idx : Nat} {x : Int} (hd : decode mt.2.1 pc = .ok (.invokestatic idx, 3)) (hw : Cond.methodLink mt.1.cls idx ⟨"java/lang/Math", "abs", "(I)I"⟩ ∈ lw_tbl) (hdp : 1 ≤ d) (h8 : catL st ≤ 8) (h : E sc F mt d sh0 sh (pc + 3) ls ((0, iabs x) :: st) sh σ) : E sc F mt d sh0 sh pc ls ((0, x) :: st) sh σ := by
  intro hl hs hm z1 z2 p l e R s m args below meth c D cA A z ad0 X lsA H locs ad g1 g2 g3 g4 g5
  obtain ⟨hx, hs⟩ := wfl_cons.mp hs
  have hT := X.2.2.2.2.2.2.2.1
  have hR := X.2.2.2.2.2.2.2.2.2.2.2
  have hL := ctx_locals (ad := ad) X hdp h8
  refine va_mabs X.1 X.2.1 (X.2.2.1.trans g2.2.1.symm) X.2.2.2.1 (hT _ hw rfl args) (hT _ mw_abss rfl args) (hT _ mw_i rfl args) (hT _ mw_absc rfl args) hL.1 hL.2 hR.2.2.1 hR.2.2.2 hd ?_
  rw [show (if 0 ≤ Int32.ofInt x then Int32.ofInt x else 0 - Int32.ofInt x) = Int32.ofInt (iabs x) from by
    unfold iabs
    simp only [i32_0le hx.i]
    split
    · rfl
    · rw [w32_of, Int32.ofInt_sub, i32_zero]]
  have hr : R32 (iabs x) := by
    unfold iabs
    split
    · exact hx.i
    · exact w32_R _
  exact h hl (wfl_cons.mpr ⟨wfv_i hr, hs⟩) hm z1 z2 p l e R s m args below meth c D cA A z ad0 X lsA H locs ad g1 g2 g3 g4 g5
theorem E_labs {idx : Nat} {x : Int} (hd : decode mt.2.1 pc = .ok (.invokestatic idx, 3)) (hw : Cond.methodLink mt.1.cls idx ⟨"java/lang/Math", "abs", "(J)J"⟩ ∈ lw_tbl) (hdp : 1 ≤ d) (h8 : catL st ≤ 8) (h : E sc F mt d sh0 sh (pc + 3) ls ((1, labs x) :: st) sh σ) : E sc F mt d sh0 sh pc ls ((1, x) :: st) sh σ := by
  intro hl hs hm z1 z2 p l e R s m args below meth c D cA A z ad0 X lsA H locs ad g1 g2 g3 g4 g5
  obtain ⟨hx, hs⟩ := wfl_cons.mp hs
  have hT := X.2.2.2.2.2.2.2.1
  have hR := X.2.2.2.2.2.2.2.2.2.2.2
  have hL := ctx_locals (ad := ad) X hdp h8
  refine va_mabs_long X.1 X.2.1 (X.2.2.1.trans g2.2.1.symm) X.2.2.2.1 (hT _ hw rfl args) (hT _ mw_labss rfl args) (hT _ mw_i rfl args) (hT _ mw_labsc rfl args) hL.1 hL.2 hR.2.2.1 hR.2.2.2 hd ?_
  rw [show (if 0 < Int64.ofInt x then Int64.ofInt x else -Int64.ofInt x) = Int64.ofInt (labs x) from by
    unfold labs
    have e0 : (0 : Int64) = Int64.ofInt 0 := by decide +kernel
    rw [e0]
    simp only [i64_lt (x := 0) ⟨by omega, by omega⟩ hx.l]
    split
    · rfl
    · rw [w64_of, Int64.ofInt_neg]]
  have hr : R64 (labs x) := by
    unfold labs
    split
    · exact hx.l
    · exact w64_R _
  exact h hl (wfl_cons.mpr ⟨wfv_l hr, hs⟩) hm z1 z2 p l e R s m args below meth c D cA A z ad0 X lsA H locs ad g1 g2 g3 g4 g5
theorem E_ifm {idx : Nat} {x y : Int} (hd : decode mt.2.1 pc = .ok (.invokestatic idx, 3)) (hw : Cond.methodLink mt.1.cls idx ⟨"java/lang/Math", "floorMod", "(II)I"⟩ ∈ lw_tbl) (hdp : 1 ≤ d) (h8 : catL st ≤ 8) (h0 : ¬ y = 0) (h : E sc F mt d sh0 sh (pc + 3) ls ((0, ifm x y) :: st) sh σ) : E sc F mt d sh0 sh pc ls ((0, y) :: (0, x) :: st) sh σ := by
  sorry
end
