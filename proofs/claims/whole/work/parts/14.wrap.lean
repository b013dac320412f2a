/-! ===== the cells that a run has, once both objects are made ===== -/
def Sh : Shp := [(11, 20), (38, 4), (22, 900), (7, 12), (21, 23), (9, 16), (20, 10), (20, 10), (20, 10), (20, 10), (21, 10), (20, 4), (23, 4), (21, 4), (5, 8), (20, 60), (20, 60), (20, 60), (20, 60), (20, 60), (10, 3), (9, 16), (20, 10), (20, 10), (20, 10), (20, 10), (21, 10), (20, 4), (23, 4), (21, 4), (6, 6), (5, 8), (20, 60), (20, 60), (20, 60), (20, 60), (20, 60), (20, 3), (39, 3), (35, 3), (4, 10), (20, 60), (9, 16), (20, 10), (20, 10), (20, 10), (20, 10), (21, 10), (20, 4), (23, 4), (21, 4), (4, 10), (20, 60), (3, 4), (0, 10), (20, 6), (23, 6), (20, 6), (1, 5), (2, 2), (8, 3), (21, 60), (8, 3), (21, 60), (8, 3), (21, 60), (8, 3), (21, 60), (9, 16), (20, 10), (20, 10), (20, 10), (20, 10), (21, 10), (20, 4), (23, 4), (21, 4), (5, 8), (20, 60), (20, 60), (20, 60), (20, 60), (20, 60), (9, 16), (20, 10), (20, 10), (20, 10), (20, 10), (21, 10), (20, 4), (23, 4), (21, 4), (5, 8), (20, 60), (20, 60), (20, 60), (20, 60), (20, 60), (9, 16), (20, 10), (20, 10), (20, 10), (20, 10), (21, 10), (20, 4), (23, 4), (21, 4), (5, 8), (20, 60), (20, 60), (20, 60), (20, 60), (20, 60), (12, 45), (20, 4), (20, 4), (21, 240), (22, 900), (20, 1635), (20, 55), (21, 70), (20, 10), (23, 61), (20, 6), (20, 6), (20, 10), (21, 11), (20, 5)]
/-- how often a loop may go round, how deep a recursion may go, in the readings of the methods -/
def FU : Nat := 200000
abbrev FR : Nat := 40
theorem okX0 : CLok 0 RX0 TX0 10 tyX0 := ⟨rfl, inX0, by decide +kernel, tyX0_ok, nmX0, rfl, by decide⟩
theorem okX1 : CLok 1 RX1 TX1 5 tyX1 := ⟨rfl, inX1, by decide +kernel, tyX1_ok, nmX1, rfl, by decide⟩
theorem okX2 : CLok 2 RX2 TX2 2 tyX2 := ⟨rfl, inX2, by decide +kernel, tyX2_ok, nmX2, rfl, by decide⟩
theorem okX3 : CLok 3 RX3 TX3 4 tyX3 := ⟨rfl, inX3, by decide +kernel, tyX3_ok, nmX3, rfl, by decide⟩
theorem okX4 : CLok 4 RX4 TX4 10 tyX4 := ⟨rfl, inX4, by decide +kernel, tyX4_ok, nmX4, rfl, by decide⟩
theorem okX5 : CLok 5 RX5 TX5 8 tyX5 := ⟨rfl, inX5, by decide +kernel, tyX5_ok, nmX5, rfl, by decide⟩
theorem okX6 : CLok 6 RX6 TX6 6 tyX6 := ⟨rfl, inX6, by decide +kernel, tyX6_ok, nmX6, rfl, by decide⟩
theorem okX7 : CLok 7 RX7 TX7 12 tyX7 := ⟨rfl, inX7, by decide +kernel, tyX7_ok, nmX7, rfl, by decide⟩
theorem okX8 : CLok 8 RX8 TX8 3 tyX8 := ⟨rfl, inX8, by decide +kernel, tyX8_ok, nmX8, rfl, by decide⟩
theorem okX9 : CLok 9 RX9 TX9 16 tyX9 := ⟨rfl, inX9, by decide +kernel, tyX9_ok, nmX9, rfl, by decide⟩
theorem okX10 : CLok 10 RX10 TX10 3 tyX10 := ⟨rfl, inX10, by decide +kernel, tyX10_ok, nmX10, rfl, by decide⟩
theorem okX11 : CLok 11 RX11 TX11 20 tyX11 := ⟨rfl, inX11, by decide +kernel, tyX11_ok, nmX11, rfl, by decide⟩
theorem okX12 : CLok 12 RX12 TX12 45 tyX12 := ⟨rfl, inX12, by decide +kernel, tyX12_ok, nmX12, rfl, by decide⟩
theorem ite_ok {α : Type} {c : Bool} {a : Option α} {o : α} (h : (if c = true then a else none) = some o) : c = true ∧ a = some o := by
  split at h
  · next q => exact ⟨q, h⟩
  · cases h
def rng32 (n : Int) : Bool := decide (-2147483648 ≤ n) && decide (n ≤ 2147483647)
def rng8 (n : Int) : Bool := decide (-128 ≤ n) && decide (n ≤ 127)
def rng16 (n : Int) : Bool := decide (-32768 ≤ n) && decide (n ≤ 32767)
theorem c32 {n : Int} (h : rng32 n = true) : Int32.ofInt n = Int32.ofInt n ∧ R32 n := by
  simp only [rng32, Bool.and_eq_true, decide_eq_true_eq] at h
  exact ⟨rfl, h⟩
theorem c8 {n : Int} (h : rng8 n = true) : (Int8.ofInt n).toInt32 = Int32.ofInt n ∧ R32 n := by
  simp only [rng8, Bool.and_eq_true, decide_eq_true_eq] at h
  refine ⟨?_, ⟨by omega, by omega⟩⟩
  apply Int32.toInt_inj.mp
  rw [Int8.toInt_toInt32, R32_to ⟨by omega, by omega⟩]
  exact Int8.toInt_ofInt_of_le (by omega) (by omega)
theorem c16 {n : Int} (h : rng16 n = true) : (Int16.ofInt n).toInt32 = Int32.ofInt n ∧ R32 n := by
  simp only [rng16, Bool.and_eq_true, decide_eq_true_eq] at h
  refine ⟨?_, ⟨by omega, by omega⟩⟩
  apply Int32.toInt_inj.mp
  rw [Int16.toInt_toInt32, R32_to ⟨by omega, by omega⟩]
  exact Int16.toInt_ofInt_of_le (by omega) (by omega)
theorem cl0 : Int64.ofNat ((0 : Fin 2) : Nat) = Int64.ofInt 0 ∧ R64 0 := ⟨by decide +kernel, ⟨by decide, by decide⟩⟩
theorem cl1 : Int64.ofNat ((1 : Fin 2) : Nat) = Int64.ofInt 1 ∧ R64 1 := ⟨by decide +kernel, ⟨by decide, by decide⟩⟩
theorem lk_out {d x : Int} : ∀ {ps : List (Int × Int)}, x ∉ ps.map Prod.fst → Op.lookupswitch.offset ps d x = d
  | [], _ => rfl
  | (a, o) :: r, h => by
    rw [Op.lookupswitch.offset_cons, if_neg (fun q => h (by rw [← q]; exact List.mem_cons_self)), lk_out (fun q => h (List.mem_cons_of_mem _ q))]
theorem cpw_n : Cond.native arraycopyName ∈ lw_tbl := List.mem_append_right _ (List.mem_of_getElem? (i := 593) (by decide +kernel))
theorem cpw_s : Cond.static arraycopyName ∈ lw_tbl := List.mem_append_right _ (List.mem_of_getElem? (i := 592) (by decide +kernel))
theorem cpw_i : Cond.initialized "java/lang/System" ∈ lw_tbl := List.mem_append_right _ (List.mem_of_getElem? (i := 18) (by decide +kernel))
theorem cpw {own : String} {idx : Nat} (h : Cond.methodLink own idx arraycopyName ∈ lw_tbl) : Cond.methodLink own idx arraycopyName ∈ lw_tbl ∧ Cond.native arraycopyName ∈ lw_tbl ∧ Cond.static arraycopyName ∈ lw_tbl ∧ Cond.initialized "java/lang/System" ∈ lw_tbl := ⟨h, cpw_n, cpw_s, cpw_i⟩
section
variable {sc : Nat × (Nat → Int32)} {F : FinT} {mt : Mth} {d : Nat} {sh0 shF sh : Shp} {pc : Nat} {ls st : List TV} {σ : Mem}
theorem E_ldc_w {n : Nat} {x : Int} (hd : decode mt.2.1 pc = .ok (.ldc_w n, 3)) (hv : Cond.constant mt.1.cls n (Int32.ofInt x) ∈ lw_tbl ∧ R32 x) (h : E sc F mt d sh0 shF (pc + 3) ls ((0, x) :: st) sh σ) : E sc F mt d sh0 shF pc ls st sh σ := by
  intro hl hs hm z1 z2 p l e R s m args below meth c D cA A z ad0 C lsA H locs ad g1 g2 g3 g4 g5
  refine lv_ldcw C.1 C.2.1 C.2.2.2.1 (C.2.2.2.2.2.2.2.1 _ hv.1 rfl args) hd ?_
  exact h hl (wfl_cons.mpr ⟨wfv_i hv.2, hs⟩) hm z1 z2 p l e R s m args below meth c D cA A z ad0 C lsA H locs ad g1 g2 g3 g4 g5
theorem E_dupT {t : Nat} {x : Int} (hd : decode mt.2.1 pc = .ok (.dup, 1)) (hv : t ≠ 1) (h : E sc F mt d sh0 shF (pc + 1) ls ((t, x) :: (t, x) :: st) sh σ) : E sc F mt d sh0 shF pc ls ((t, x) :: st) sh σ := E_dup hd hv h
theorem E_popT {t : Nat} {x : Int} (hd : decode mt.2.1 pc = .ok (.pop, 1)) (hv : t ≠ 1) (h : E sc F mt d sh0 shF (pc + 1) ls st sh σ) : E sc F mt d sh0 shF pc ls ((t, x) :: st) sh σ := E_pop hd hv h
theorem E_dup2T {t u : Nat} {x y : Int} (hd : decode mt.2.1 pc = .ok (.dup2, 1)) (hv : t ≠ 1 ∧ u ≠ 1) (h : E sc F mt d sh0 shF (pc + 1) ls ((t, x) :: (u, y) :: (t, x) :: (u, y) :: st) sh σ) : E sc F mt d sh0 shF pc ls ((t, x) :: (u, y) :: st) sh σ := E_dup2 hd hv h
/-- a call that makes no cell: of an object's method, of a static one; with an answer, without -/
theorem E_cV {stk as : List TV} {a x : Int} {t : Nat} {σ' : Mem} {d' n idx ci N : Nat} {mt' : Mth} {C : String} {T : u_T} {ty : Nat → FieldType} (hd : decode mt.2.1 pc = .ok (.invokevirtual idx, 3)) (hM : MKv mt' n) (hL : NL mt.1.cls idx mt'.1) (hdp : d' + 1 ≤ d) (hn : as.length = n ∧ stk = as.reverse ++ (2, a) :: st ∧ catL st ≤ 8) (K : CLok ci C T N ty) (hcl : mt'.1.cls = C) (hC : isO sh ci a = true ∧ Cn mt' d' ((2, a) :: as) sh σ (some (t, x)) sh σ') (h : E sc F mt d sh0 sh (pc + 3) ls ((t, x) :: st) sh σ') : E sc F mt d sh0 sh pc ls stk sh σ :=
  E_invV hd hM hL hdp hn K hcl hC.1 hC.2 ⟨Nat.le_refl _, Nat.le_refl _, Nat.le_refl _, Nat.le_refl _⟩ h
theorem E_cVv {stk as : List TV} {a : Int} {σ' : Mem} {d' n idx ci N : Nat} {mt' : Mth} {C : String} {T : u_T} {ty : Nat → FieldType} (hd : decode mt.2.1 pc = .ok (.invokevirtual idx, 3)) (hM : MKv mt' n) (hL : NL mt.1.cls idx mt'.1) (hdp : d' + 1 ≤ d) (hn : as.length = n ∧ stk = as.reverse ++ (2, a) :: st ∧ catL st ≤ 8) (K : CLok ci C T N ty) (hcl : mt'.1.cls = C) (hC : isO sh ci a = true ∧ Cn mt' d' ((2, a) :: as) sh σ none sh σ') (h : E sc F mt d sh0 sh (pc + 3) ls st sh σ') : E sc F mt d sh0 sh pc ls stk sh σ :=
  E_invV hd hM hL hdp hn K hcl hC.1 hC.2 ⟨Nat.le_refl _, Nat.le_refl _, Nat.le_refl _, Nat.le_refl _⟩ h
theorem E_cS {stk as : List TV} {x : Int} {t : Nat} {σ' : Mem} {d' n idx : Nat} {mt' : Mth} (hd : decode mt.2.1 pc = .ok (.invokestatic idx, 3)) (hM : MKs mt' n) (hL : NL mt.1.cls idx mt'.1) (hdp : d' + 1 ≤ d) (hn : as.length = n ∧ stk = as.reverse ++ st ∧ catL st ≤ 8) (hC : Cn mt' d' as sh σ (some (t, x)) sh σ') (h : E sc F mt d sh0 sh (pc + 3) ls ((t, x) :: st) sh σ') : E sc F mt d sh0 sh pc ls stk sh σ :=
  E_invS hd hM hL hdp hn hC ⟨Nat.le_refl _, Nat.le_refl _, Nat.le_refl _, Nat.le_refl _⟩ h
theorem E_cSv {stk as : List TV} {σ' : Mem} {d' n idx : Nat} {mt' : Mth} (hd : decode mt.2.1 pc = .ok (.invokestatic idx, 3)) (hM : MKs mt' n) (hL : NL mt.1.cls idx mt'.1) (hdp : d' + 1 ≤ d) (hn : as.length = n ∧ stk = as.reverse ++ st ∧ catL st ≤ 8) (hC : Cn mt' d' as sh σ none sh σ') (h : E sc F mt d sh0 sh (pc + 3) ls st sh σ') : E sc F mt d sh0 sh pc ls stk sh σ :=
  E_invS hd hM hL hdp hn hC ⟨Nat.le_refl _, Nat.le_refl _, Nat.le_refl _, Nat.le_refl _⟩ h
end
