/-! ===== the same rules where the way is known: for what is made once ===== -/
section
variable {sc : Nat × (Nat → Int32)} {F : FinT} {mt : Mth} {d : Nat} {sh0 shF sh : Shp} {pc : Nat} {ls st : List TV} {σ : Mem}
theorem isO_app {k : Nat} {a : Int} {l : Shp} (h : isO sh k a = true) : isO (sh ++ l) k a = true := by
  obtain ⟨h0, h1⟩ := isO_iff.mp h
  exact isO_iff.mpr ⟨h0, by rw [List.getElem?_append_left (List.getElem?_eq_some_iff.mp h1).1]; exact h1⟩
theorem isO_nn {k : Nat} {a : Int} (h : isO sh k a = true) : 0 ≤ a := (isO_iff.mp h).1
theorem E_getD {ci j t idx : Nat} {a x : Int} {C : String} {T : u_T} {N : Nat} {ty : Nat → FieldType} (hd : decode mt.2.1 pc = .ok (.getfield idx, 3)) (K : CLok ci C T N ty) (hw : FL mt.1.cls idx (T j)) (hj : j < N ∧ ftag ci j = t) (ha : isO sh ci a = true) (hx : σ a.toNat j = x) (k : E sc F mt d sh0 shF (pc + 3) ls ((t, x) :: st) sh σ) : E sc F mt d sh0 shF pc ls ((2, a) :: st) sh σ :=
  E_get (f := fun y => if y = x then some () else none) (o := ()) hd K hw hj (by simp [gf, ha, hx]) (fun y hy => by
    split at hy
    · next q => rw [q]; exact k
    · cases hy)
theorem E_putD {ci j t idx : Nat} {a v : Int} {σ' : Mem} {C : String} {T : u_T} {N : Nat} {ty : Nat → FieldType} (hd : decode mt.2.1 pc = .ok (.putfield idx, 3)) (K : CLok ci C T N ty) (hw : FL mt.1.cls idx (T j)) (hj : j < N ∧ ftag ci j = t) (hok : okT (ty j) t v) (hfin : (T j).2.2.2 = false ∨ ((T j).2.2.2 = true ∧ mt.1.name = "<init>" ∧ (T j).1 = mt.1.cls ∧ Cond.fieldLink mt.1.cls idx (T j).1 (T j).2.1 (T j).2.2.1 ∈ lw_tbl)) (ha : isO sh ci a = true) (hσ : upm σ a.toNat j v = σ') (k : E sc F mt d sh0 shF (pc + 3) ls st sh σ') : E sc F mt d sh0 shF pc ls ((t, v) :: (2, a) :: st) sh σ :=
  E_put (f := fun s => some s) (o := upm σ a.toNat j v) hd K hw hj hok hfin (by simp [pf, ha]) (fun s hs => by cases hs; rw [hσ]; exact k)
theorem E_iastD {a i v : Int} {σ' : Mem} (hd : decode mt.2.1 pc = .ok (.iastore, 1)) (ha : isA sh 20 a i = true) (hσ : upm σ a.toNat i.toNat v = σ') (k : E sc F mt d sh0 shF (pc + 1) ls st sh σ') : E sc F mt d sh0 shF pc ls ((0, v) :: (0, i) :: (2, a) :: st) sh σ :=
  E_iastore (f := fun s => some s) (o := upm σ a.toNat i.toNat v) hd (by simp [st_, ha]) (fun s hs => by cases hs; rw [hσ]; exact k)
theorem E_lastD {a i v : Int} {σ' : Mem} (hd : decode mt.2.1 pc = .ok (.lastore, 1)) (ha : isA sh 21 a i = true) (hσ : upm σ a.toNat i.toNat v = σ') (k : E sc F mt d sh0 shF (pc + 1) ls st sh σ') : E sc F mt d sh0 shF pc ls ((1, v) :: (0, i) :: (2, a) :: st) sh σ :=
  E_lastore (f := fun s => some s) (o := upm σ a.toNat i.toNat v) hd (by simp [st_, ha]) (fun s hs => by cases hs; rw [hσ]; exact k)
theorem E_laldD {a i x : Int} (hd : decode mt.2.1 pc = .ok (.laload, 1)) (ha : isA sh 21 a i = true) (hx : σ a.toNat i.toNat = x) (k : E sc F mt d sh0 shF (pc + 1) ls ((1, x) :: st) sh σ) : E sc F mt d sh0 shF pc ls ((0, i) :: (2, a) :: st) sh σ :=
  E_laload (f := fun y => if y = x then some () else none) (o := ()) hd (by simp [al, ha, hx]) (fun y hy => by
    split at hy
    · next q => rw [q]; exact k
    · cases hy)
theorem E_aastD {kd t0 ci N : Nat} {C : String} {T : u_T} {ty : Nat → FieldType} {a i v : Int} {σ' : Mem} (hd : decode mt.2.1 pc = .ok (.aastore, 1)) (hk : qk kd t0 C) (K : CLok ci C T N ty) (hv : isO sh ci v = true) (ha : isA sh kd a i = true) (hσ : upm σ a.toNat i.toNat v = σ') (k : E sc F mt d sh0 shF (pc + 1) ls st sh σ') : E sc F mt d sh0 shF pc ls ((2, v) :: (0, i) :: (2, a) :: st) sh σ :=
  E_aastore (f := fun s => some s) (o := upm σ a.toNat i.toNat v) hd hk K hv (by simp [st_, ha]) (fun s hs => by cases hs; rw [hσ]; exact k)
theorem E_newD {idx ci N n : Nat} {C : String} {T : u_T} {ty : Nat → FieldType} {sh' : Shp} {σ' : Mem} (hd : decode mt.2.1 pc = .ok (.new idx, 3)) (K : CLok ci C T N ty) (hD0 : okD ci N ty) (hw : Cond.classLink mt.1.cls idx C ∈ lw_tbl ∧ Cond.instantiable C N ∈ lw_tbl ∧ Cond.initialized C ∈ lw_tbl) (hn : n = sh.length) (hs' : sh ++ [(ci, N)] = sh') (hσ : nwm σ n ci = σ') (hgr : sh.length + 1 ≤ shF.length ∧ tot sh + N ≤ tot shF) (h : E sc F mt d sh0 shF (pc + 3) ls ((2, (n : Int)) :: st) sh' σ') : E sc F mt d sh0 shF pc ls st sh σ := by
  subst hn; subst hs'; subst hσ
  exact E_new hd K hD0 hw rfl hgr h
theorem E_newarrD {idx : ArrayType} {kd t0 n N : Nat} {ty : FieldType} {k : Int} {sh' : Shp} {σ' : Mem} (hd : decode mt.2.1 pc = .ok (.newarray idx, 2)) (hty : newarray.typeOf idx = ty) (hw : Cond.arrayClass ty ∈ lw_tbl) (hk : (kd = 20 ∧ t0 = 0 ∧ ty = .int) ∨ (kd = 21 ∧ t0 = 1 ∧ ty = .long) ∨ (kd = 22 ∧ t0 = 2 ∧ ty = .byte) ∨ (kd = 23 ∧ t0 = 3 ∧ ty = .boolean)) (hN : k = (N : Int) ∧ N ≤ 60000000) (hn : n = sh.length) (hs' : sh ++ [(kd, N)] = sh') (hσ : nwm σ n kd = σ') (hgr : sh.length + 1 ≤ shF.length ∧ tot sh + N ≤ tot shF) (h : E sc F mt d sh0 shF (pc + 2) ls ((2, (n : Int)) :: st) sh' σ') : E sc F mt d sh0 shF pc ls ((0, k) :: st) sh σ := by
  obtain ⟨rfl, hN⟩ := hN
  subst hn; subst hs'; subst hσ
  exact E_newarr hd hty hw hk ⟨by omega, by omega⟩ rfl (by simpa using hgr) (by simpa using h)
theorem E_newrefD {idx kd t0 n N : Nat} {C : String} {k : Int} {sh' : Shp} {σ' : Mem} (hd : decode mt.2.1 pc = .ok (.anewarray idx, 3)) (hw : Cond.classLink mt.1.cls idx C ∈ lw_tbl ∧ Cond.arrayOver (.object C) ∈ lw_tbl) (hk : qk kd t0 C) (hN : k = (N : Int) ∧ N ≤ 60000000) (hn : n = sh.length) (hs' : sh ++ [(kd, N)] = sh') (hσ : nwm σ n kd = σ') (hgr : sh.length + 1 ≤ shF.length ∧ tot sh + N ≤ tot shF) (h : E sc F mt d sh0 shF (pc + 3) ls ((2, (n : Int)) :: st) sh' σ') : E sc F mt d sh0 shF pc ls ((0, k) :: st) sh σ := by
  obtain ⟨rfl, hN⟩ := hN
  subst hn; subst hs'; subst hσ
  exact E_newref hd hw hk ⟨by omega, by omega⟩ rfl (by simpa using hgr) (by simpa using h)
theorem E_iI {stk as : List TV} {a : Int} {sh' : Shp} {σ' : Mem} {d' n idx : Nat} {mt' : Mth} (hd : decode mt.2.1 pc = .ok (.invokespecial idx, 3)) (hM : MKi mt' n) (hL : NL mt.1.cls idx mt'.1) (hdp : d' + 1 ≤ d) (hn : as.length = n ∧ stk = as.reverse ++ (2, a) :: st ∧ catL st ≤ 8) (ha : 0 ≤ a) (hC : Cn mt' d' ((2, a) :: as) sh σ none sh' σ') (hgr : sh.length ≤ sh'.length ∧ tot sh ≤ tot sh' ∧ sh'.length ≤ shF.length ∧ tot sh' ≤ tot shF) (h : E sc F mt d sh0 shF (pc + 3) ls st sh' σ') : E sc F mt d sh0 shF pc ls stk sh σ := E_invI hd hM hL hdp hn ha hC hgr h
theorem E_iincD {i : Nat} {n : Int} {ls' : List TV} {x y : Int} (hd : decode mt.2.1 pc = .ok (.iinc i n, 3)) (hi : ls[i]? = some (0, x)) (hy : w32 (x + n) = y) (hk : i < mt.2.2.1 ∧ stL ls i (0, y) = ls') (h : E sc F mt d sh0 shF (pc + 3) ls' st sh σ) : E sc F mt d sh0 shF pc ls st sh σ := by
  subst hy
  exact E_iinc hd hi hk h
theorem E_ifeq_f {x : Int} {off : Int} {tgt : Nat} (hd : decode mt.2.1 pc = .ok (.ifCond .eq off, 3)) (ht : (pc : Int) + off = (tgt : Int)) (hx : ¬ x = 0) (h : E sc F mt d sh0 shF (pc + 3) ls st sh σ) : E sc F mt d sh0 shF pc ls ((0, x) :: st) sh σ :=
  E_if_eq (P := ()) (Q := ()) (o := ()) hd ht (by split <;> rfl) (fun q _ => absurd q hx) (fun _ _ => h)
theorem E_ifne_f {x : Int} {off : Int} {tgt : Nat} (hd : decode mt.2.1 pc = .ok (.ifCond .ne off, 3)) (ht : (pc : Int) + off = (tgt : Int)) (hx : x = 0) (h : E sc F mt d sh0 shF (pc + 3) ls st sh σ) : E sc F mt d sh0 shF pc ls ((0, x) :: st) sh σ :=
  E_if_ne (P := ()) (Q := ()) (o := ()) hd ht (by split <;> rfl) (fun _ _ => h) (fun q _ => absurd hx q)
theorem E_iflt_f {x : Int} {off : Int} {tgt : Nat} (hd : decode mt.2.1 pc = .ok (.ifCond .lt off, 3)) (ht : (pc : Int) + off = (tgt : Int)) (hx : ¬ x < 0) (h : E sc F mt d sh0 shF (pc + 3) ls st sh σ) : E sc F mt d sh0 shF pc ls ((0, x) :: st) sh σ :=
  E_if_lt (P := ()) (Q := ()) (o := ()) hd ht (by split <;> rfl) (fun q _ => absurd q hx) (fun _ _ => h)
theorem E_icmplt_t {x y : Int} {off : Int} {tgt : Nat} (hd : decode mt.2.1 pc = .ok (.if_icmp .lt off, 3)) (ht : (pc : Int) + off = (tgt : Int)) (hx : x < y) (h : E sc F mt d sh0 shF tgt ls st sh σ) : E sc F mt d sh0 shF pc ls ((0, y) :: (0, x) :: st) sh σ :=
  E_icmp_lt (P := ()) (Q := ()) (o := ()) hd ht (by split <;> rfl) (fun _ _ => h) (fun q _ => absurd hx q)
theorem E_icmpge_t {x y : Int} {off : Int} {tgt : Nat} (hd : decode mt.2.1 pc = .ok (.if_icmp .ge off, 3)) (ht : (pc : Int) + off = (tgt : Int)) (hx : y ≤ x) (h : E sc F mt d sh0 shF tgt ls st sh σ) : E sc F mt d sh0 shF pc ls ((0, y) :: (0, x) :: st) sh σ :=
  E_icmp_ge (P := ()) (Q := ()) (o := ()) hd ht (by split <;> rfl) (fun _ _ => h) (fun q _ => absurd hx q)
theorem E_icmpge_f {x y : Int} {off : Int} {tgt : Nat} (hd : decode mt.2.1 pc = .ok (.if_icmp .ge off, 3)) (ht : (pc : Int) + off = (tgt : Int)) (hx : ¬ y ≤ x) (h : E sc F mt d sh0 shF (pc + 3) ls st sh σ) : E sc F mt d sh0 shF pc ls ((0, y) :: (0, x) :: st) sh σ :=
  E_icmp_ge (P := ()) (Q := ()) (o := ()) hd ht (by split <;> rfl) (fun q _ => absurd q hx) (fun _ _ => h)
theorem E_icmpne_t {x y : Int} {off : Int} {tgt : Nat} (hd : decode mt.2.1 pc = .ok (.if_icmp .ne off, 3)) (ht : (pc : Int) + off = (tgt : Int)) (hx : ¬ x = y) (h : E sc F mt d sh0 shF tgt ls st sh σ) : E sc F mt d sh0 shF pc ls ((0, y) :: (0, x) :: st) sh σ :=
  E_icmp_ne (P := ()) (Q := ()) (o := ()) hd ht (by split <;> rfl) (fun q _ => absurd q hx) (fun _ _ => h)
theorem E_icmpne_f {x y : Int} {off : Int} {tgt : Nat} (hd : decode mt.2.1 pc = .ok (.if_icmp .ne off, 3)) (ht : (pc : Int) + off = (tgt : Int)) (hx : x = y) (h : E sc F mt d sh0 shF (pc + 3) ls st sh σ) : E sc F mt d sh0 shF pc ls ((0, y) :: (0, x) :: st) sh σ :=
  E_icmp_ne (P := ()) (Q := ()) (o := ()) hd ht (by split <;> rfl) (fun _ _ => h) (fun q _ => absurd hx q)
end
