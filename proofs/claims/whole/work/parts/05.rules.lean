section
variable {sc : Nat × (Nat → Int32)} {F : FinT} {mt : Mth} {d : Nat} {sh0 shF sh : Shp} {pc : Nat} {ls st : List TV} {σ : Mem}
theorem E_iadd {x y : Int} (hd : decode mt.2.1 pc = .ok (.iadd, 1)) (h : E sc F mt d sh0 shF (pc + 1) ls ((0, w32 (x + y)) :: st) sh σ) : E sc F mt d sh0 shF pc ls ((0, y) :: (0, x) :: st) sh σ := by
  intro hl hs hm z1 z2 p l e R s m args below meth c D cA A z ad0 C lsA H locs ad g1 g2 g3 g4 g5
  obtain ⟨hy, hs⟩ := wfl_cons.mp hs
  obtain ⟨hx, hs⟩ := wfl_cons.mp hs
  refine lv_iadd C.1 C.2.1 hd ?_
  rw [show Int32.ofInt x + Int32.ofInt y = Int32.ofInt (w32 (x + y)) from by rw [w32_of, Int32.ofInt_add]]
  exact h hl (wfl_cons.mpr ⟨wfv_i (w32_R _), hs⟩) hm z1 z2 p l e R s m args below meth c D cA A z ad0 C lsA H locs ad g1 g2 g3 g4 g5

theorem E_ladd {x y : Int} (hd : decode mt.2.1 pc = .ok (.ladd, 1)) (h : E sc F mt d sh0 shF (pc + 1) ls ((1, w64 (x + y)) :: st) sh σ) : E sc F mt d sh0 shF pc ls ((1, y) :: (1, x) :: st) sh σ := by
  intro hl hs hm z1 z2 p l e R s m args below meth c D cA A z ad0 C lsA H locs ad g1 g2 g3 g4 g5
  obtain ⟨hy, hs⟩ := wfl_cons.mp hs
  obtain ⟨hx, hs⟩ := wfl_cons.mp hs
  refine lv_ladd C.1 C.2.1 hd ?_
  rw [show Int64.ofInt x + Int64.ofInt y = Int64.ofInt (w64 (x + y)) from by rw [w64_of, Int64.ofInt_add]]
  exact h hl (wfl_cons.mpr ⟨wfv_l (w64_R _), hs⟩) hm z1 z2 p l e R s m args below meth c D cA A z ad0 C lsA H locs ad g1 g2 g3 g4 g5

theorem E_isub {x y : Int} (hd : decode mt.2.1 pc = .ok (.isub, 1)) (h : E sc F mt d sh0 shF (pc + 1) ls ((0, w32 (x - y)) :: st) sh σ) : E sc F mt d sh0 shF pc ls ((0, y) :: (0, x) :: st) sh σ := by
  intro hl hs hm z1 z2 p l e R s m args below meth c D cA A z ad0 C lsA H locs ad g1 g2 g3 g4 g5
  obtain ⟨hy, hs⟩ := wfl_cons.mp hs
  obtain ⟨hx, hs⟩ := wfl_cons.mp hs
  refine lv_isub C.1 C.2.1 hd ?_
  rw [show Int32.ofInt x - Int32.ofInt y = Int32.ofInt (w32 (x - y)) from by rw [w32_of, Int32.ofInt_sub]]
  exact h hl (wfl_cons.mpr ⟨wfv_i (w32_R _), hs⟩) hm z1 z2 p l e R s m args below meth c D cA A z ad0 C lsA H locs ad g1 g2 g3 g4 g5

theorem E_lsub {x y : Int} (hd : decode mt.2.1 pc = .ok (.lsub, 1)) (h : E sc F mt d sh0 shF (pc + 1) ls ((1, w64 (x - y)) :: st) sh σ) : E sc F mt d sh0 shF pc ls ((1, y) :: (1, x) :: st) sh σ := by
  intro hl hs hm z1 z2 p l e R s m args below meth c D cA A z ad0 C lsA H locs ad g1 g2 g3 g4 g5
  obtain ⟨hy, hs⟩ := wfl_cons.mp hs
  obtain ⟨hx, hs⟩ := wfl_cons.mp hs
  refine lv_lsub C.1 C.2.1 hd ?_
  rw [show Int64.ofInt x - Int64.ofInt y = Int64.ofInt (w64 (x - y)) from by rw [w64_of, Int64.ofInt_sub]]
  exact h hl (wfl_cons.mpr ⟨wfv_l (w64_R _), hs⟩) hm z1 z2 p l e R s m args below meth c D cA A z ad0 C lsA H locs ad g1 g2 g3 g4 g5

theorem E_imul {x y : Int} (hd : decode mt.2.1 pc = .ok (.imul, 1)) (h : E sc F mt d sh0 shF (pc + 1) ls ((0, w32 (x * y)) :: st) sh σ) : E sc F mt d sh0 shF pc ls ((0, y) :: (0, x) :: st) sh σ := by
  intro hl hs hm z1 z2 p l e R s m args below meth c D cA A z ad0 C lsA H locs ad g1 g2 g3 g4 g5
  obtain ⟨hy, hs⟩ := wfl_cons.mp hs
  obtain ⟨hx, hs⟩ := wfl_cons.mp hs
  refine lv_imul C.1 C.2.1 hd ?_
  rw [show Int32.ofInt x * Int32.ofInt y = Int32.ofInt (w32 (x * y)) from by rw [w32_of, Int32.ofInt_mul]]
  exact h hl (wfl_cons.mpr ⟨wfv_i (w32_R _), hs⟩) hm z1 z2 p l e R s m args below meth c D cA A z ad0 C lsA H locs ad g1 g2 g3 g4 g5

theorem E_lmul {x y : Int} (hd : decode mt.2.1 pc = .ok (.lmul, 1)) (h : E sc F mt d sh0 shF (pc + 1) ls ((1, w64 (x * y)) :: st) sh σ) : E sc F mt d sh0 shF pc ls ((1, y) :: (1, x) :: st) sh σ := by
  intro hl hs hm z1 z2 p l e R s m args below meth c D cA A z ad0 C lsA H locs ad g1 g2 g3 g4 g5
  obtain ⟨hy, hs⟩ := wfl_cons.mp hs
  obtain ⟨hx, hs⟩ := wfl_cons.mp hs
  refine lv_lmul C.1 C.2.1 hd ?_
  rw [show Int64.ofInt x * Int64.ofInt y = Int64.ofInt (w64 (x * y)) from by rw [w64_of, Int64.ofInt_mul]]
  exact h hl (wfl_cons.mpr ⟨wfv_l (w64_R _), hs⟩) hm z1 z2 p l e R s m args below meth c D cA A z ad0 C lsA H locs ad g1 g2 g3 g4 g5

theorem E_idiv {x y : Int} (hd : decode mt.2.1 pc = .ok (.idiv, 1)) (h0 : ¬ y = 0) (h : E sc F mt d sh0 shF (pc + 1) ls ((0, w32 (x.tdiv y)) :: st) sh σ) : E sc F mt d sh0 shF pc ls ((0, y) :: (0, x) :: st) sh σ := by
  intro hl hs hm z1 z2 p l e R s m args below meth c D cA A z ad0 C lsA H locs ad g1 g2 g3 g4 g5
  obtain ⟨hy, hs⟩ := wfl_cons.mp hs
  obtain ⟨hx, hs⟩ := wfl_cons.mp hs
  refine lv_idiv C.1 C.2.1 hd (fun q => h0 ((i32_eq0 hy.i).mp q)) ?_
  rw [show Int32.ofInt x / Int32.ofInt y = _ from i32_div hx.i hy.i]
  exact h hl (wfl_cons.mpr ⟨wfv_i (w32_R _), hs⟩) hm z1 z2 p l e R s m args below meth c D cA A z ad0 C lsA H locs ad g1 g2 g3 g4 g5

theorem E_irem {x y : Int} (hd : decode mt.2.1 pc = .ok (.irem, 1)) (h0 : ¬ y = 0) (h : E sc F mt d sh0 shF (pc + 1) ls ((0, w32 (x.tmod y)) :: st) sh σ) : E sc F mt d sh0 shF pc ls ((0, y) :: (0, x) :: st) sh σ := by
  intro hl hs hm z1 z2 p l e R s m args below meth c D cA A z ad0 C lsA H locs ad g1 g2 g3 g4 g5
  obtain ⟨hy, hs⟩ := wfl_cons.mp hs
  obtain ⟨hx, hs⟩ := wfl_cons.mp hs
  refine lv_irem C.1 C.2.1 hd (fun q => h0 ((i32_eq0 hy.i).mp q)) ?_
  rw [show Int32.ofInt x - Int32.ofInt x / Int32.ofInt y * Int32.ofInt y = _ from i32_rem hx.i hy.i]
  exact h hl (wfl_cons.mpr ⟨wfv_i (w32_R _), hs⟩) hm z1 z2 p l e R s m args below meth c D cA A z ad0 C lsA H locs ad g1 g2 g3 g4 g5

theorem E_ldiv {x y : Int} (hd : decode mt.2.1 pc = .ok (.ldiv, 1)) (h0 : ¬ y = 0) (h : E sc F mt d sh0 shF (pc + 1) ls ((1, w64 (x.tdiv y)) :: st) sh σ) : E sc F mt d sh0 shF pc ls ((1, y) :: (1, x) :: st) sh σ := by
  intro hl hs hm z1 z2 p l e R s m args below meth c D cA A z ad0 C lsA H locs ad g1 g2 g3 g4 g5
  obtain ⟨hy, hs⟩ := wfl_cons.mp hs
  obtain ⟨hx, hs⟩ := wfl_cons.mp hs
  refine lv_ldiv C.1 C.2.1 hd (fun q => h0 (by have e := (i64_eq hy.l ⟨by omega, by omega⟩ (y := 0)).mp (q.trans (by decide +kernel)); exact e)) ?_
  rw [show Int64.ofInt x / Int64.ofInt y = _ from i64_div hx.l hy.l]
  exact h hl (wfl_cons.mpr ⟨wfv_l (w64_R _), hs⟩) hm z1 z2 p l e R s m args below meth c D cA A z ad0 C lsA H locs ad g1 g2 g3 g4 g5

theorem E_lrem {x y : Int} (hd : decode mt.2.1 pc = .ok (.lrem, 1)) (h0 : ¬ y = 0) (h : E sc F mt d sh0 shF (pc + 1) ls ((1, w64 (x.tmod y)) :: st) sh σ) : E sc F mt d sh0 shF pc ls ((1, y) :: (1, x) :: st) sh σ := by
  intro hl hs hm z1 z2 p l e R s m args below meth c D cA A z ad0 C lsA H locs ad g1 g2 g3 g4 g5
  obtain ⟨hy, hs⟩ := wfl_cons.mp hs
  obtain ⟨hx, hs⟩ := wfl_cons.mp hs
  refine lv_lrem C.1 C.2.1 hd (fun q => h0 (by have e := (i64_eq hy.l ⟨by omega, by omega⟩ (y := 0)).mp (q.trans (by decide +kernel)); exact e)) ?_
  rw [show Int64.ofInt x - Int64.ofInt x / Int64.ofInt y * Int64.ofInt y = _ from i64_rem hx.l hy.l]
  exact h hl (wfl_cons.mpr ⟨wfv_l (w64_R _), hs⟩) hm z1 z2 p l e R s m args below meth c D cA A z ad0 C lsA H locs ad g1 g2 g3 g4 g5

theorem E_iand {x y : Int} (hd : decode mt.2.1 pc = .ok (.iand, 1)) (h : E sc F mt d sh0 shF (pc + 1) ls ((0, iand x y) :: st) sh σ) : E sc F mt d sh0 shF pc ls ((0, y) :: (0, x) :: st) sh σ := by
  intro hl hs hm z1 z2 p l e R s m args below meth c D cA A z ad0 C lsA H locs ad g1 g2 g3 g4 g5
  obtain ⟨hy, hs⟩ := wfl_cons.mp hs
  obtain ⟨hx, hs⟩ := wfl_cons.mp hs
  refine lv_iand C.1 C.2.1 hd ?_
  rw [show Int32.ofInt x &&& Int32.ofInt y = Int32.ofInt (iand x y) from (Int32.ofInt_toInt _).symm]
  exact h hl (wfl_cons.mpr ⟨wfv_i (i32_R _), hs⟩) hm z1 z2 p l e R s m args below meth c D cA A z ad0 C lsA H locs ad g1 g2 g3 g4 g5

theorem E_ior {x y : Int} (hd : decode mt.2.1 pc = .ok (.ior, 1)) (h : E sc F mt d sh0 shF (pc + 1) ls ((0, ior x y) :: st) sh σ) : E sc F mt d sh0 shF pc ls ((0, y) :: (0, x) :: st) sh σ := by
  intro hl hs hm z1 z2 p l e R s m args below meth c D cA A z ad0 C lsA H locs ad g1 g2 g3 g4 g5
  obtain ⟨hy, hs⟩ := wfl_cons.mp hs
  obtain ⟨hx, hs⟩ := wfl_cons.mp hs
  refine lv_ior C.1 C.2.1 hd ?_
  rw [show Int32.ofInt x ||| Int32.ofInt y = Int32.ofInt (ior x y) from (Int32.ofInt_toInt _).symm]
  exact h hl (wfl_cons.mpr ⟨wfv_i (i32_R _), hs⟩) hm z1 z2 p l e R s m args below meth c D cA A z ad0 C lsA H locs ad g1 g2 g3 g4 g5

theorem E_ixor {x y : Int} (hd : decode mt.2.1 pc = .ok (.ixor, 1)) (h : E sc F mt d sh0 shF (pc + 1) ls ((0, ixor x y) :: st) sh σ) : E sc F mt d sh0 shF pc ls ((0, y) :: (0, x) :: st) sh σ := by
  intro hl hs hm z1 z2 p l e R s m args below meth c D cA A z ad0 C lsA H locs ad g1 g2 g3 g4 g5
  obtain ⟨hy, hs⟩ := wfl_cons.mp hs
  obtain ⟨hx, hs⟩ := wfl_cons.mp hs
  refine lv_ixor C.1 C.2.1 hd ?_
  rw [show Int32.ofInt x ^^^ Int32.ofInt y = Int32.ofInt (ixor x y) from (Int32.ofInt_toInt _).symm]
  exact h hl (wfl_cons.mpr ⟨wfv_i (i32_R _), hs⟩) hm z1 z2 p l e R s m args below meth c D cA A z ad0 C lsA H locs ad g1 g2 g3 g4 g5

theorem E_ishl {x y : Int} (hd : decode mt.2.1 pc = .ok (.ishl, 1)) (h : E sc F mt d sh0 shF (pc + 1) ls ((0, ishl x y) :: st) sh σ) : E sc F mt d sh0 shF pc ls ((0, y) :: (0, x) :: st) sh σ := by
  intro hl hs hm z1 z2 p l e R s m args below meth c D cA A z ad0 C lsA H locs ad g1 g2 g3 g4 g5
  obtain ⟨hy, hs⟩ := wfl_cons.mp hs
  obtain ⟨hx, hs⟩ := wfl_cons.mp hs
  refine lv_ishl C.1 C.2.1 hd ?_
  rw [show Int32.ofInt x <<< (Int32.ofInt y &&& 31) = Int32.ofInt (ishl x y) from (Int32.ofInt_toInt _).symm]
  exact h hl (wfl_cons.mpr ⟨wfv_i (i32_R _), hs⟩) hm z1 z2 p l e R s m args below meth c D cA A z ad0 C lsA H locs ad g1 g2 g3 g4 g5

theorem E_ishr {x y : Int} (hd : decode mt.2.1 pc = .ok (.ishr, 1)) (h : E sc F mt d sh0 shF (pc + 1) ls ((0, ishr x y) :: st) sh σ) : E sc F mt d sh0 shF pc ls ((0, y) :: (0, x) :: st) sh σ := by
  intro hl hs hm z1 z2 p l e R s m args below meth c D cA A z ad0 C lsA H locs ad g1 g2 g3 g4 g5
  obtain ⟨hy, hs⟩ := wfl_cons.mp hs
  obtain ⟨hx, hs⟩ := wfl_cons.mp hs
  refine lv_ishr C.1 C.2.1 hd ?_
  rw [show Int32.ofInt x >>> (Int32.ofInt y &&& 31) = Int32.ofInt (ishr x y) from (Int32.ofInt_toInt _).symm]
  exact h hl (wfl_cons.mpr ⟨wfv_i (i32_R _), hs⟩) hm z1 z2 p l e R s m args below meth c D cA A z ad0 C lsA H locs ad g1 g2 g3 g4 g5

theorem E_land {x y : Int} (hd : decode mt.2.1 pc = .ok (.land, 1)) (h : E sc F mt d sh0 shF (pc + 1) ls ((1, land x y) :: st) sh σ) : E sc F mt d sh0 shF pc ls ((1, y) :: (1, x) :: st) sh σ := by
  intro hl hs hm z1 z2 p l e R s m args below meth c D cA A z ad0 C lsA H locs ad g1 g2 g3 g4 g5
  obtain ⟨hy, hs⟩ := wfl_cons.mp hs
  obtain ⟨hx, hs⟩ := wfl_cons.mp hs
  refine lv_land C.1 C.2.1 hd ?_
  rw [show Int64.ofInt x &&& Int64.ofInt y = Int64.ofInt (land x y) from (Int64.ofInt_toInt _).symm]
  exact h hl (wfl_cons.mpr ⟨wfv_l (i64_R _), hs⟩) hm z1 z2 p l e R s m args below meth c D cA A z ad0 C lsA H locs ad g1 g2 g3 g4 g5

theorem E_lor {x y : Int} (hd : decode mt.2.1 pc = .ok (.lor, 1)) (h : E sc F mt d sh0 shF (pc + 1) ls ((1, lor x y) :: st) sh σ) : E sc F mt d sh0 shF pc ls ((1, y) :: (1, x) :: st) sh σ := by
  intro hl hs hm z1 z2 p l e R s m args below meth c D cA A z ad0 C lsA H locs ad g1 g2 g3 g4 g5
  obtain ⟨hy, hs⟩ := wfl_cons.mp hs
  obtain ⟨hx, hs⟩ := wfl_cons.mp hs
  refine lv_lor C.1 C.2.1 hd ?_
  rw [show Int64.ofInt x ||| Int64.ofInt y = Int64.ofInt (lor x y) from (Int64.ofInt_toInt _).symm]
  exact h hl (wfl_cons.mpr ⟨wfv_l (i64_R _), hs⟩) hm z1 z2 p l e R s m args below meth c D cA A z ad0 C lsA H locs ad g1 g2 g3 g4 g5

theorem E_iushr {x y : Int} (hd : decode mt.2.1 pc = .ok (.iushr, 1)) (h : E sc F mt d sh0 shF (pc + 1) ls ((0, iushr x y) :: st) sh σ) : E sc F mt d sh0 shF pc ls ((0, y) :: (0, x) :: st) sh σ := by
  intro hl hs hm z1 z2 p l e R s m args below meth c D cA A z ad0 C lsA H locs ad g1 g2 g3 g4 g5
  obtain ⟨hy, hs⟩ := wfl_cons.mp hs
  obtain ⟨hx, hs⟩ := wfl_cons.mp hs
  refine lv_iushr C.1 C.2.1 hd (v := Int32.ofInt (iushr x y)) (Int32.ofInt_toInt _).symm ?_
  exact h hl (wfl_cons.mpr ⟨wfv_i (i32_R _), hs⟩) hm z1 z2 p l e R s m args below meth c D cA A z ad0 C lsA H locs ad g1 g2 g3 g4 g5

theorem E_lshl {x y : Int} (hd : decode mt.2.1 pc = .ok (.lshl, 1)) (h : E sc F mt d sh0 shF (pc + 1) ls ((1, lshl x y) :: st) sh σ) : E sc F mt d sh0 shF pc ls ((0, y) :: (1, x) :: st) sh σ := by
  intro hl hs hm z1 z2 p l e R s m args below meth c D cA A z ad0 C lsA H locs ad g1 g2 g3 g4 g5
  obtain ⟨hy, hs⟩ := wfl_cons.mp hs
  obtain ⟨hx, hs⟩ := wfl_cons.mp hs
  refine lv_lshl C.1 C.2.1 hd (v := Int64.ofInt (lshl x y)) (Int64.ofInt_toInt _).symm ?_
  exact h hl (wfl_cons.mpr ⟨wfv_l (i64_R _), hs⟩) hm z1 z2 p l e R s m args below meth c D cA A z ad0 C lsA H locs ad g1 g2 g3 g4 g5

theorem E_ineg {x : Int} (hd : decode mt.2.1 pc = .ok (.ineg, 1)) (h : E sc F mt d sh0 shF (pc + 1) ls ((0, w32 (-x)) :: st) sh σ) : E sc F mt d sh0 shF pc ls ((0, x) :: st) sh σ := by
  intro hl hs hm z1 z2 p l e R s m args below meth c D cA A z ad0 C lsA H locs ad g1 g2 g3 g4 g5
  obtain ⟨hx, hs⟩ := wfl_cons.mp hs
  refine lv_ineg C.1 C.2.1 hd ?_
  rw [show -Int32.ofInt x = Int32.ofInt (w32 (-x)) from by rw [w32_of, Int32.ofInt_neg]]
  exact h hl (wfl_cons.mpr ⟨wfv_i (w32_R _), hs⟩) hm z1 z2 p l e R s m args below meth c D cA A z ad0 C lsA H locs ad g1 g2 g3 g4 g5

theorem E_lneg {x : Int} (hd : decode mt.2.1 pc = .ok (.lneg, 1)) (h : E sc F mt d sh0 shF (pc + 1) ls ((1, w64 (-x)) :: st) sh σ) : E sc F mt d sh0 shF pc ls ((1, x) :: st) sh σ := by
  intro hl hs hm z1 z2 p l e R s m args below meth c D cA A z ad0 C lsA H locs ad g1 g2 g3 g4 g5
  obtain ⟨hx, hs⟩ := wfl_cons.mp hs
  refine lv_lneg C.1 C.2.1 hd ?_
  rw [show -Int64.ofInt x = Int64.ofInt (w64 (-x)) from by rw [w64_of, Int64.ofInt_neg]]
  exact h hl (wfl_cons.mpr ⟨wfv_l (w64_R _), hs⟩) hm z1 z2 p l e R s m args below meth c D cA A z ad0 C lsA H locs ad g1 g2 g3 g4 g5

theorem E_i2l {x : Int} (hd : decode mt.2.1 pc = .ok (.i2l, 1)) (h : E sc F mt d sh0 shF (pc + 1) ls ((1, x) :: st) sh σ) : E sc F mt d sh0 shF pc ls ((0, x) :: st) sh σ := by
  intro hl hs hm z1 z2 p l e R s m args below meth c D cA A z ad0 C lsA H locs ad g1 g2 g3 g4 g5
  obtain ⟨hx, hs⟩ := wfl_cons.mp hs
  refine lv_i2l C.1 C.2.1 hd (v := Int64.ofInt x) (by apply Int64.toInt_inj.mp; rw [Int32.toInt_toInt64, R32_to hx.i, R64_to (R32_64 hx.i)]) ?_
  exact h hl (wfl_cons.mpr ⟨wfv_l (R32_64 hx.i), hs⟩) hm z1 z2 p l e R s m args below meth c D cA A z ad0 C lsA H locs ad g1 g2 g3 g4 g5

theorem E_l2i {x : Int} (hd : decode mt.2.1 pc = .ok (.l2i, 1)) (h : E sc F mt d sh0 shF (pc + 1) ls ((0, w32 x) :: st) sh σ) : E sc F mt d sh0 shF pc ls ((1, x) :: st) sh σ := by
  intro hl hs hm z1 z2 p l e R s m args below meth c D cA A z ad0 C lsA H locs ad g1 g2 g3 g4 g5
  obtain ⟨hx, hs⟩ := wfl_cons.mp hs
  refine lv_l2i C.1 C.2.1 hd (v := Int32.ofInt (w32 x)) (by rw [w32_of, Int64.toInt32_ofInt]) ?_
  exact h hl (wfl_cons.mpr ⟨wfv_i (w32_R _), hs⟩) hm z1 z2 p l e R s m args below meth c D cA A z ad0 C lsA H locs ad g1 g2 g3 g4 g5

theorem E_i2b {x : Int} (hd : decode mt.2.1 pc = .ok (.i2b, 1)) (h : E sc F mt d sh0 shF (pc + 1) ls ((0, w8 x) :: st) sh σ) : E sc F mt d sh0 shF pc ls ((0, x) :: st) sh σ := by
  intro hl hs hm z1 z2 p l e R s m args below meth c D cA A z ad0 C lsA H locs ad g1 g2 g3 g4 g5
  obtain ⟨hx, hs⟩ := wfl_cons.mp hs
  refine lv_i2b C.1 C.2.1 hd (v := Int32.ofInt (w8 x)) (by rw [Int32.toInt8_ofInt]; exact (Int32.ofInt_int8ToInt _).symm) ?_
  exact h hl (wfl_cons.mpr ⟨wfv_i (w8_R _), hs⟩) hm z1 z2 p l e R s m args below meth c D cA A z ad0 C lsA H locs ad g1 g2 g3 g4 g5

theorem E_i2s {x : Int} (hd : decode mt.2.1 pc = .ok (.i2s, 1)) (h : E sc F mt d sh0 shF (pc + 1) ls ((0, w16 x) :: st) sh σ) : E sc F mt d sh0 shF pc ls ((0, x) :: st) sh σ := by
  intro hl hs hm z1 z2 p l e R s m args below meth c D cA A z ad0 C lsA H locs ad g1 g2 g3 g4 g5
  obtain ⟨hx, hs⟩ := wfl_cons.mp hs
  refine lv_i2s C.1 C.2.1 hd (v := Int32.ofInt (w16 x)) (by rw [Int32.toInt16_ofInt]; exact (Int32.ofInt_int16ToInt _).symm) ?_
  exact h hl (wfl_cons.mpr ⟨wfv_i (w16_R _), hs⟩) hm z1 z2 p l e R s m args below meth c D cA A z ad0 C lsA H locs ad g1 g2 g3 g4 g5

theorem E_i2c {x : Int} (hd : decode mt.2.1 pc = .ok (.i2c, 1)) (h : E sc F mt d sh0 shF (pc + 1) ls ((0, i2c x) :: st) sh σ) : E sc F mt d sh0 shF pc ls ((0, x) :: st) sh σ := by
  intro hl hs hm z1 z2 p l e R s m args below meth c D cA A z ad0 C lsA H locs ad g1 g2 g3 g4 g5
  obtain ⟨hx, hs⟩ := wfl_cons.mp hs
  refine lv_i2c C.1 C.2.1 hd (v := Int32.ofInt (i2c x)) (Int32.ofInt_toInt _).symm ?_
  exact h hl (wfl_cons.mpr ⟨wfv_i (i32_R _), hs⟩) hm z1 z2 p l e R s m args below meth c D cA A z ad0 C lsA H locs ad g1 g2 g3 g4 g5

theorem E_lcmp {x y : Int} (hd : decode mt.2.1 pc = .ok (.lcmp, 1)) (h : E sc F mt d sh0 shF (pc + 1) ls ((0, lcmp x y) :: st) sh σ) : E sc F mt d sh0 shF pc ls ((1, y) :: (1, x) :: st) sh σ := by
  intro hl hs hm z1 z2 p l e R s m args below meth c D cA A z ad0 C lsA H locs ad g1 g2 g3 g4 g5
  obtain ⟨hy, hs⟩ := wfl_cons.mp hs
  obtain ⟨hx, hs⟩ := wfl_cons.mp hs
  refine W.lcmp C.1 C.2.1 hd ?_
  rw [show lg_cmp (Int64.ofInt x) (Int64.ofInt y) = Int32.ofInt (lcmp x y) from by
    unfold lg_cmp lcmp
    simp only [gt_iff_lt, i64_lt hy.l hx.l, i64_eq hx.l hy.l]
    split
    · decide +kernel
    · split <;> decide +kernel]
  exact h hl (wfl_cons.mpr ⟨wfv_i (lcmp_R _ _), hs⟩) hm z1 z2 p l e R s m args below meth c D cA A z ad0 C lsA H locs ad g1 g2 g3 g4 g5

theorem E_iconst {n x : Int} (hd : decode mt.2.1 pc = .ok (.iconst n, 1)) (hv : Int32.ofInt n = Int32.ofInt x ∧ R32 x) (h : E sc F mt d sh0 shF (pc + 1) ls ((0, x) :: st) sh σ) : E sc F mt d sh0 shF pc ls st sh σ := by
  intro hl hs hm z1 z2 p l e R s m args below meth c D cA A z ad0 C lsA H locs ad g1 g2 g3 g4 g5
  refine lv_iconst C.1 C.2.1 hd hv.1 ?_
  exact h hl (wfl_cons.mpr ⟨wfv_i hv.2, hs⟩) hm z1 z2 p l e R s m args below meth c D cA A z ad0 C lsA H locs ad g1 g2 g3 g4 g5

theorem E_bipush {n x : Int} (hd : decode mt.2.1 pc = .ok (.bipush n, 2)) (hv : (Int8.ofInt n).toInt32 = Int32.ofInt x ∧ R32 x) (h : E sc F mt d sh0 shF (pc + 2) ls ((0, x) :: st) sh σ) : E sc F mt d sh0 shF pc ls st sh σ := by
  intro hl hs hm z1 z2 p l e R s m args below meth c D cA A z ad0 C lsA H locs ad g1 g2 g3 g4 g5
  refine lv_bipush C.1 C.2.1 hd hv.1 ?_
  exact h hl (wfl_cons.mpr ⟨wfv_i hv.2, hs⟩) hm z1 z2 p l e R s m args below meth c D cA A z ad0 C lsA H locs ad g1 g2 g3 g4 g5

theorem E_sipush {n x : Int} (hd : decode mt.2.1 pc = .ok (.sipush n, 3)) (hv : (Int16.ofInt n).toInt32 = Int32.ofInt x ∧ R32 x) (h : E sc F mt d sh0 shF (pc + 3) ls ((0, x) :: st) sh σ) : E sc F mt d sh0 shF pc ls st sh σ := by
  intro hl hs hm z1 z2 p l e R s m args below meth c D cA A z ad0 C lsA H locs ad g1 g2 g3 g4 g5
  refine lv_sipush C.1 C.2.1 hd hv.1 ?_
  exact h hl (wfl_cons.mpr ⟨wfv_i hv.2, hs⟩) hm z1 z2 p l e R s m args below meth c D cA A z ad0 C lsA H locs ad g1 g2 g3 g4 g5

theorem E_lconst {n : Fin 2} {x : Int} (hd : decode mt.2.1 pc = .ok (.lconst n, 1)) (hv : Int64.ofNat (n : Nat) = Int64.ofInt x ∧ R64 x) (h : E sc F mt d sh0 shF (pc + 1) ls ((1, x) :: st) sh σ) : E sc F mt d sh0 shF pc ls st sh σ := by
  intro hl hs hm z1 z2 p l e R s m args below meth c D cA A z ad0 C lsA H locs ad g1 g2 g3 g4 g5
  refine lv_lconst C.1 C.2.1 hd hv.1 ?_
  exact h hl (wfl_cons.mpr ⟨wfv_l hv.2, hs⟩) hm z1 z2 p l e R s m args below meth c D cA A z ad0 C lsA H locs ad g1 g2 g3 g4 g5

theorem E_ldc2 {n : Nat} {x : Int} (hd : decode mt.2.1 pc = .ok (.ldc2_w n, 3)) (hv : Cond.constantLong mt.1.cls n (Int64.ofInt x) ∈ lw_tbl ∧ R64 x) (h : E sc F mt d sh0 shF (pc + 3) ls ((1, x) :: st) sh σ) : E sc F mt d sh0 shF pc ls st sh σ := by
  intro hl hs hm z1 z2 p l e R s m args below meth c D cA A z ad0 C lsA H locs ad g1 g2 g3 g4 g5
  refine lv_ldc2 C.1 C.2.1 C.2.2.2.1 (C.2.2.2.2.2.2.2.1 _ hv.1 rfl args) hd ?_
  exact h hl (wfl_cons.mpr ⟨wfv_l hv.2, hs⟩) hm z1 z2 p l e R s m args below meth c D cA A z ad0 C lsA H locs ad g1 g2 g3 g4 g5

theorem E_ldc {n : Nat} {x : Int} (hd : decode mt.2.1 pc = .ok (.ldc n, 2)) (hv : Cond.constant mt.1.cls n (Int32.ofInt x) ∈ lw_tbl ∧ R32 x) (h : E sc F mt d sh0 shF (pc + 2) ls ((0, x) :: st) sh σ) : E sc F mt d sh0 shF pc ls st sh σ := by
  intro hl hs hm z1 z2 p l e R s m args below meth c D cA A z ad0 C lsA H locs ad g1 g2 g3 g4 g5
  refine lv_ldc C.1 C.2.1 C.2.2.2.1 (C.2.2.2.2.2.2.2.1 _ hv.1 rfl args) hd ?_
  exact h hl (wfl_cons.mpr ⟨wfv_i hv.2, hs⟩) hm z1 z2 p l e R s m args below meth c D cA A z ad0 C lsA H locs ad g1 g2 g3 g4 g5

theorem E_iload_n {k : Fin 4} {x : Int} (hd : decode mt.2.1 pc = .ok (.iload_n k, 1)) (hk : ls[(k : Nat)]? = some (0, x)) (h : E sc F mt d sh0 shF (pc + 1) ls ((0, x) :: st) sh σ) : E sc F mt d sh0 shF pc ls st sh σ := by
  intro hl hs hm z1 z2 p l e R s m args below meth c D cA A z ad0 C lsA H locs ad g1 g2 g3 g4 g5
  refine lv_iload_n C.1 C.2.1 hd rfl (g2.2.2.2 _ _ hk (by simp)) ?_
  exact h hl (wfl_cons.mpr ⟨hl _ (List.mem_of_getElem? hk), hs⟩) hm z1 z2 p l e R s m args below meth c D cA A z ad0 C lsA H locs ad g1 g2 g3 g4 g5

theorem E_iload {i : Nat} {x : Int} (hd : decode mt.2.1 pc = .ok (.iload i, 2)) (hk : ls[i]? = some (0, x)) (h : E sc F mt d sh0 shF (pc + 2) ls ((0, x) :: st) sh σ) : E sc F mt d sh0 shF pc ls st sh σ := by
  intro hl hs hm z1 z2 p l e R s m args below meth c D cA A z ad0 C lsA H locs ad g1 g2 g3 g4 g5
  refine lv_iload C.1 C.2.1 hd (g2.2.2.2 _ _ hk (by simp)) ?_
  exact h hl (wfl_cons.mpr ⟨hl _ (List.mem_of_getElem? hk), hs⟩) hm z1 z2 p l e R s m args below meth c D cA A z ad0 C lsA H locs ad g1 g2 g3 g4 g5

theorem E_lload_n {k : Fin 4} {x : Int} (hd : decode mt.2.1 pc = .ok (.lload_n k, 1)) (hk : ls[(k : Nat)]? = some (1, x)) (h : E sc F mt d sh0 shF (pc + 1) ls ((1, x) :: st) sh σ) : E sc F mt d sh0 shF pc ls st sh σ := by
  intro hl hs hm z1 z2 p l e R s m args below meth c D cA A z ad0 C lsA H locs ad g1 g2 g3 g4 g5
  refine lv_lload_n C.1 C.2.1 hd rfl (g2.2.2.2 _ _ hk (by simp)) ?_
  exact h hl (wfl_cons.mpr ⟨hl _ (List.mem_of_getElem? hk), hs⟩) hm z1 z2 p l e R s m args below meth c D cA A z ad0 C lsA H locs ad g1 g2 g3 g4 g5

theorem E_lload {i : Nat} {x : Int} (hd : decode mt.2.1 pc = .ok (.lload i, 2)) (hk : ls[i]? = some (1, x)) (h : E sc F mt d sh0 shF (pc + 2) ls ((1, x) :: st) sh σ) : E sc F mt d sh0 shF pc ls st sh σ := by
  intro hl hs hm z1 z2 p l e R s m args below meth c D cA A z ad0 C lsA H locs ad g1 g2 g3 g4 g5
  refine lv_lload C.1 C.2.1 hd (g2.2.2.2 _ _ hk (by simp)) ?_
  exact h hl (wfl_cons.mpr ⟨hl _ (List.mem_of_getElem? hk), hs⟩) hm z1 z2 p l e R s m args below meth c D cA A z ad0 C lsA H locs ad g1 g2 g3 g4 g5

theorem cv_ref {ad : Nat → Nat} {z : Ats} {t : Nat} {x : Int} (ht : 2 ≤ t) : cv ad z (t, x) = .null ∨ ∃ a, cv ad z (t, x) = .ref a := by
  unfold cv
  split
  · dsimp only at *; omega
  · dsimp only at *; omega
  · split
    · exact Or.inl rfl
    · exact Or.inr ⟨_, rfl⟩
  · exact Or.inr ⟨_, rfl⟩
  · exact Or.inr ⟨_, rfl⟩
  · exact Or.inr ⟨_, rfl⟩
  · cases z.2.2.2 with
    | none => exact Or.inl rfl
    | some a => exact Or.inr ⟨_, rfl⟩
theorem E_aload_n {k : Fin 4} {t : Nat} {x : Int} (hd : decode mt.2.1 pc = .ok (.aload_n k, 1)) (hk : ls[(k : Nat)]? = some (t, x)) (ht : 2 ≤ t ∧ t ≠ 9) (h : E sc F mt d sh0 shF (pc + 1) ls ((t, x) :: st) sh σ) : E sc F mt d sh0 shF pc ls st sh σ := by
  intro hl hs hm z1 z2 p l e0 R s m args below meth c D cA A z ad0 C lsA H locs ad g1 g2 g3 g4 g5
  have e := g2.2.2.2 _ _ hk ht.2
  have h2 := h hl (wfl_cons.mpr ⟨hl _ (List.mem_of_getElem? hk), hs⟩) hm z1 z2 p l e0 R s m args below meth c D cA A z ad0 C lsA H locs ad g1 g2 g3 g4 g5
  rw [List.map_cons] at h2
  rcases cv_ref (ad := ad) (z := z) (x := x) ht.1 with q | ⟨a, q⟩
  · rw [q] at e h2
    exact lv_aload_nN C.1 C.2.1 hd rfl e h2
  · rw [q] at e h2
    exact lv_aload_n C.1 C.2.1 hd rfl e h2

theorem E_aload {i : Nat} {t : Nat} {x : Int} (hd : decode mt.2.1 pc = .ok (.aload i, 2)) (hk : ls[i]? = some (t, x)) (ht : 2 ≤ t ∧ t ≠ 9) (h : E sc F mt d sh0 shF (pc + 2) ls ((t, x) :: st) sh σ) : E sc F mt d sh0 shF pc ls st sh σ := by
  intro hl hs hm z1 z2 p l e0 R s m args below meth c D cA A z ad0 C lsA H locs ad g1 g2 g3 g4 g5
  have e := g2.2.2.2 _ _ hk ht.2
  have h2 := h hl (wfl_cons.mpr ⟨hl _ (List.mem_of_getElem? hk), hs⟩) hm z1 z2 p l e0 R s m args below meth c D cA A z ad0 C lsA H locs ad g1 g2 g3 g4 g5
  rw [List.map_cons] at h2
  rcases cv_ref (ad := ad) (z := z) (x := x) ht.1 with q | ⟨a, q⟩
  · rw [q] at e h2
    exact lv_aloadN C.1 C.2.1 hd e h2
  · rw [q] at e h2
    exact lv_aload C.1 C.2.1 hd e h2

end
