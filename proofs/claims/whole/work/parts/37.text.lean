/-! ===== the text constant: String's length and charAt on it ===== -/
section
variable {sc : Nat × (Nat → Int32)} {F : FinT} {mt : Mth} {d : Nat} {sh0 shF sh : Shp} {pc : Nat} {ls st : List TV} {σ : Mem}
theorem E_ldcT (hd : decode mt.2.1 pc = .ok (.ldc 26, 2)) (hc : mt.1.cls = "ParapetCourt$Text") (h : E sc F mt d sh0 shF (pc + 2) ls ((4, 0) :: st) sh σ) : E sc F mt d sh0 shF pc ls st sh σ := by
  intro hl hs hm z1 z2 p l e R s m args below meth c D cA A z ad0 X lsA H locs ad g1 g2 g3 g4 g5
  obtain ⟨-, hR, -⟩ := X.2.2.2.2.2.2.2.2.2.1
  have hown := X.2.2.2.1
  rw [hc] at hown
  refine va_ldcS X.1 X.2.1 hown hR hd ?_
  exact h hl (wfl_cons.mpr ⟨wfv_s (by omega), hs⟩) hm z1 z2 p l e R s m args below meth c D cA A z ad0 X lsA H locs ad g1 g2 g3 g4 g5
theorem E_getTv {idx : Nat} {x : Int} (hd : decode mt.2.1 pc = .ok (.getfield idx, 3)) (hw : Cond.fieldLink mt.1.cls idx "java/lang/String" "value" "[B" ∈ lw_tbl) (h : E sc F mt d sh0 shF (pc + 3) ls ((5, 0) :: st) sh σ) : E sc F mt d sh0 shF pc ls ((4, x) :: st) sh σ := by
  intro hl hs hm z1 z2 p l e R s m args below meth c D cA A z ad0 X lsA H locs ad g1 g2 g3 g4 g5
  obtain ⟨-, -, hS, -⟩ := X.2.2.2.2.2.2.2.2.2.1
  have hT := X.2.2.2.2.2.2.2.1
  refine vk_getf X.1 X.2.1 (hS.1 0 (by omega)).2.2.1 g5 X.2.2.2.1 (hT _ hw rfl args) (fun x hx => hx) hd ?_
  exact h hl (wfl_cons.mpr ⟨wfv_s (by omega), (wfl_cons.mp hs).2⟩) hm z1 z2 p l e R s m args below meth c D cA A z ad0 X lsA H locs ad g1 g2 g3 g4 g5
theorem E_getTc {idx : Nat} {x : Int} (hd : decode mt.2.1 pc = .ok (.getfield idx, 3)) (hw : Cond.fieldLink mt.1.cls idx "java/lang/String" "coder" "B" ∈ lw_tbl) (h : E sc F mt d sh0 shF (pc + 3) ls ((0, 0) :: st) sh σ) : E sc F mt d sh0 shF pc ls ((4, x) :: st) sh σ := by
  intro hl hs hm z1 z2 p l e R s m args below meth c D cA A z ad0 X lsA H locs ad g1 g2 g3 g4 g5
  obtain ⟨-, -, hS, -⟩ := X.2.2.2.2.2.2.2.2.2.1
  have hT := X.2.2.2.2.2.2.2.1
  refine vk_getf X.1 X.2.1 (hS.1 0 (by omega)).2.1 g5 X.2.2.2.1 (hT _ hw rfl args) (fun x hx => hx) hd ?_
  have h2 := h hl (wfl_cons.mpr ⟨wfv_i R32_0, (wfl_cons.mp hs).2⟩) hm z1 z2 p l e R s m args below meth c D cA A z ad0 X lsA H locs ad g1 g2 g3 g4 g5
  rw [List.map_cons, show cv ad z (0, 0) = .int 0 from congrArg Value.int i32_zero] at h2
  exact h2
theorem E_statC {idx : Nat} (hd : decode mt.2.1 pc = .ok (.getstatic idx, 3)) (hw : Cond.fieldLink mt.1.cls idx "java/lang/String" "COMPACT_STRINGS" "Z" ∈ lw_tbl) (h : E sc F mt d sh0 shF (pc + 3) ls ((0, 1) :: st) sh σ) : E sc F mt d sh0 shF pc ls st sh σ := by
  intro hl hs hm z1 z2 p l e R s m args below meth c D cA A z ad0 X lsA H locs ad g1 g2 g3 g4 g5
  obtain ⟨-, -, -, hZ, -⟩ := X.2.2.2.2.2.2.2.2.2.1
  have hT := X.2.2.2.2.2.2.2.1
  refine va_gets X.1 X.2.1 hZ g5 X.2.2.2.1 (hT _ hw rfl args) (fun x hx => hx) hd ?_
  have h2 := h hl (wfl_cons.mpr ⟨wfv_i ⟨by omega, by omega⟩, hs⟩) hm z1 z2 p l e R s m args below meth c D cA A z ad0 X lsA H locs ad g1 g2 g3 g4 g5
  rw [List.map_cons, show cv ad z (0, 1) = .int 1 from congrArg Value.int (by decide +kernel)] at h2
  exact h2
theorem E_statF {idx : Nat} (hd : decode mt.2.1 pc = .ok (.getstatic idx, 3)) (hw : Cond.fieldLink mt.1.cls idx "jdk/internal/util/Preconditions" "SIOOBE_FORMATTER" "Ljava/util/function/BiFunction;" ∈ lw_tbl) (h : E sc F mt d sh0 shF (pc + 3) ls ((6, 0) :: st) sh σ) : E sc F mt d sh0 shF pc ls st sh σ := by
  intro hl hs hm z1 z2 p l e R s m args below meth c D cA A z ad0 X lsA H locs ad g1 g2 g3 g4 g5
  obtain ⟨-, -, -, -, hZ⟩ := X.2.2.2.2.2.2.2.2.2.1
  have hT := X.2.2.2.2.2.2.2.1
  refine va_gets X.1 X.2.1 hZ g5 X.2.2.2.1 (hT _ hw rfl args) (fun x hx => hx) hd ?_
  exact h hl (wfl_cons.mpr ⟨wfv_s (by omega), hs⟩) hm z1 z2 p l e R s m args below meth c D cA A z ad0 X lsA H locs ad g1 g2 g3 g4 g5
theorem E_lenT {x : Int} (hd : decode mt.2.1 pc = .ok (.arraylength, 1)) (h : E sc F mt d sh0 shF (pc + 1) ls ((0, 120) :: st) sh σ) : E sc F mt d sh0 shF pc ls ((5, x) :: st) sh σ := by
  intro hl hs hm z1 z2 p l e R s m args below meth c D cA A z ad0 X lsA H locs ad g1 g2 g3 g4 g5
  obtain ⟨-, -, hS, -⟩ := X.2.2.2.2.2.2.2.2.2.1
  refine va_tlen (v := Int32.ofInt 120) X.1 X.2.1 (hS.1 0 (by omega)).2.2.2 g5 (by decide +kernel) hd ?_
  exact h hl (wfl_cons.mpr ⟨wfv_i ⟨by omega, by omega⟩, (wfl_cons.mp hs).2⟩) hm z1 z2 p l e R s m args below meth c D cA A z ad0 X lsA H locs ad g1 g2 g3 g4 g5
/-- a byte of the text -/
def txN (i : Int) : Int := (txB.getD i.toNat 0).toInt
theorem E_balT {x i : Int} (hd : decode mt.2.1 pc = .ok (.baload, 1)) (hi : 0 ≤ i ∧ i < 120) (h : E sc F mt d sh0 shF (pc + 1) ls ((0, txN i) :: st) sh σ) : E sc F mt d sh0 shF pc ls ((0, i) :: (5, x) :: st) sh σ := by
  intro hl hs hm z1 z2 p l e R s m args below meth c D cA A z ad0 X lsA H locs ad g1 g2 g3 g4 g5
  obtain ⟨-, -, hS, -⟩ := X.2.2.2.2.2.2.2.2.2.1
  obtain ⟨hwi, hs⟩ := wfl_cons.mp hs
  refine va_tb (v := .int (Int32.ofInt (txN i))) X.1 X.2.1 (hS.1 0 (by omega)).2.2.2 g5 (i32_in hwi.i hi.1 hi.2) (by
    rw [i32_clamp hwi.i]
    unfold txN
    rw [Int32.ofInt_toInt]
    rfl) hd ?_
  exact h hl (wfl_cons.mpr ⟨wfv_i (i32_R _), (wfl_cons.mp hs).2⟩) hm z1 z2 p l e R s m args below meth c D cA A z ad0 X lsA H locs ad g1 g2 g3 g4 g5
theorem E_bret {x : Int} (hd : decode mt.2.1 pc = .ok (.ireturn, 1)) (hr : mt.2.2.2 = some .byte) (hx : x = 0) : E sc (Fm sh0 (some (0, x)) sh σ) mt d sh0 shF pc ls [(0, x)] sh σ := by
  intro hl hs hm z1 z2 p l e R s m args below meth c D cA A z ad0 X lsA H locs ad g1 g2 g3 g4 g5
  have hn : Jvm.narrow .byte (.int (Int32.ofInt x)) = .int (Int32.ofInt x) := by rw [hx]; decide +kernel
  exact W.zret X.1 X.2.1 (X.2.2.2.2.2.1.trans hr) hn (Qm_end (p := p) (R := R) (m := m) (meth := meth) (c := c) (r := some (0, x)) g1 hs hm g3 g4 g5) g5.2.2 hd X.2.2.2.2.2.2.1
theorem E_cret {x y : Int} (hd : decode mt.2.1 pc = .ok (.ireturn, 1)) (hr : mt.2.2.2 = some .char) (hx : x = i2c y) : E sc (Fm sh0 (some (0, x)) sh σ) mt d sh0 shF pc ls [(0, x)] sh σ := by
  intro hl hs hm z1 z2 p l e R s m args below meth c D cA A z ad0 X lsA H locs ad g1 g2 g3 g4 g5
  have hn : Jvm.narrow .char (.int (Int32.ofInt x)) = .int (Int32.ofInt x) := by
    rw [hx]
    unfold i2c
    rw [Int32.ofInt_toInt]
    exact pk_nc _
  exact W.zret X.1 X.2.1 (X.2.2.2.2.2.1.trans hr) hn (Qm_end (p := p) (R := R) (m := m) (meth := meth) (c := c) (r := some (0, x)) g1 hs hm g3 g4 g5) g5.2.2 hd X.2.2.2.2.2.2.1
theorem E_if_ge_t {x : Int} {off : Int} {tgt : Nat} (hd : decode mt.2.1 pc = .ok (.ifCond .eq off, 3)) (ht : (pc : Int) + off = (tgt : Int)) (hx : ¬ x = 0) (h : E sc F mt d sh0 shF (pc + 3) ls st sh σ) : E sc F mt d sh0 shF pc ls ((0, x) :: st) sh σ :=
  E_if_eq (P := ()) (Q := ()) (o := ()) hd ht (by split <;> rfl) (fun q _ => absurd q hx) (fun _ _ => h)
/-- a call on the text -/
theorem E_invT {stk as : List TV} {a : Int} {r : Option TV} {d' n idx : Nat} {mt' : Mth} (hd : decode mt.2.1 pc = .ok (.invokevirtual idx, 3)) (hM : MKv mt' n) (hL : Cond.methodLink mt.1.cls idx mt'.1 ∈ lw_tbl) (hdp : d' + 1 ≤ d) (hn : as.length = n ∧ stk = as.reverse ++ (4, a) :: st ∧ catL st ≤ 8) (hcl : mt'.1.cls = "java/lang/String") (hC : Cn mt' d' ((4, 0) :: as) sh σ r sh σ) (h : E sc F mt d sh0 sh (pc + 3) ls (r.toList ++ st) sh σ) : E sc F mt d sh0 sh pc ls stk sh σ := by
  intro hl hs hm z1 z2 p l e R s m args below meth c D cA A z ad0 X lsA H locs ad g1 g2 g3 g4 g5
  obtain ⟨hn, rfl, h8⟩ := hn
  obtain ⟨hs1, hs2⟩ := wfl_app.mp hs
  obtain ⟨hsa, hs3⟩ := wfl_cons.mp hs2
  have hT := X.2.2.2.2.2.2.2.1
  have hK := X.2.2.2.2.2.2.2.2.1
  have hR := X.2.2.2.2.2.2.2.2.2.2.2
  obtain ⟨-, -, hS, -⟩ := X.2.2.2.2.2.2.2.2.2.1
  have hMet := hC (wfl_cons.mpr ⟨wfv_s (by omega), wfl_rev.mp hs1⟩) hm sc l D cA A z ad
  rw [List.map_cons, show cv ad z (4, 0) = .ref z.2.1 from rfl] at hMet
  have hpre : PreV s H mt'.1.cls z.2.1 (va_Pc (Value.ref z.2.1 :: as.map (cv ad z)) (PreM sc D cA A z ad sh σ)) (as.map (cv ad z)) :=
    ⟨PreM.blind, (by rw [hcl]; exact vk_recv hS (i := 0) (by omega) g5), fun U hU hW => ⟨rfl, hT.warm hW, va_K.moved hW.alike hK, X.2.2.2.2.2.2.2.2.2.1.go (locs := locs) hW (by rw [hU]; exact g5), (fun q hq => X.2.2.2.2.2.2.2.2.2.2.1 q (Nat.le_trans (by have := g5.1; rw [hU]; exact this) hq)), by rw [hU]; exact g3, g4⟩⟩
  have hfr : (rmD d' (sh.length - sh.length) (tot sh - tot sh)).frames + 1 ≤ R.frames ∧ 8 + (mt'.2.2.1 + 11) + (rmD d' (sh.length - sh.length) (tot sh - tot sh)).locals ≤ R.locals := by
    refine ⟨Nat.le_trans hdp hR.1, Nat.le_trans ?_ hR.2.1⟩
    have h41 := hM.1.2.2.2.2.2
    have : (d' + 1) * LW ≤ d * LW := Nat.mul_le_mul_right _ hdp
    show 8 + (mt'.2.2.1 + 11) + d' * LW ≤ d * LW
    rw [Nat.add_mul] at this
    unfold LW at this ⊢
    omega
  have hws : ∀ w ∈ [Cond.code mt'.1 mt'.2.1 mt'.2.2.1 mt'.2.2.2], ∀ (a' : Array Value) (U : State), s.WarmedH U.vm → w.before a' U = true := fun w hw a' U hW => by
    rw [List.mem_singleton.mp hw]
    exact hT.warm hW _ hM.1.1 rfl a'
  have hnp : ∀ sig, parseMethodDescriptor mt'.1.desc = some sig → n = sig.parameters.length := fun sig hsig => by
    have := hM.1.2.2.2.2.1
    rw [hsig] at this
    exact (Option.some.inj this).symm
  have hcells : sh.length - sh0.length + (sh.length - sh.length) ≤ R.cells ∧ tot sh - tot sh0 + (tot sh - tot sh) ≤ R.slots := ⟨by have := hR.2.2.1; omega, by have := hR.2.2.2; omega⟩
  have hstk : (as.reverse ++ (4, a) :: st).map (cv ad z) = (as.map (cv ad z)).reverse ++ .ref z.2.1 :: st.map (cv ad z) := by
    rw [List.map_append, List.map_cons, List.map_reverse]
    rfl
  have h8' : ((st.map (cv ad z)).map fun v => v.category).sum ≤ 8 := by rw [catL_eq]; exact h8
  exact E_back (mt' := mt') hl hs3 hm z1 z2 X g1 g2 g5 ⟨Nat.le_refl _, Nat.le_refl _⟩ h (va_runV (Ts := []) ⟨X.1, X.2.1, X.2.2.1, X.2.2.2.1, fun w hw => by cases hw⟩ hMet ⟨⟨rfl, rfl, hfr.1, hfr.2, hws, List.mem_singleton.mpr rfl, hT _ hM.1.1 rfl args, hT _ hM.1.2.1 rfl args, hM.1.2.2.2.1, hnp, hT _ hL rfl args⟩, hT _ hM.2.1 rfl args, hT _ hM.2.2 rfl args⟩ hpre rfl (by rw [List.length_map]; exact hn) g2.2.1 hstk (lv_room h8') hd hcells)
end
