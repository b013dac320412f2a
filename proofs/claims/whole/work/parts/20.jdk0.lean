theorem d_JI_bitCount_0 : decode mt_JI_bitCount.2.1 0 = .ok (.iload_n 0, 1) := by decide +kernel
theorem d_JI_bitCount_1 : decode mt_JI_bitCount.2.1 1 = .ok (.iload_n 0, 1) := by decide +kernel
theorem d_JI_bitCount_2 : decode mt_JI_bitCount.2.1 2 = .ok (.iconst 1, 1) := by decide +kernel
theorem d_JI_bitCount_3 : decode mt_JI_bitCount.2.1 3 = .ok (.iushr, 1) := by decide +kernel
theorem d_JI_bitCount_4 : decode mt_JI_bitCount.2.1 4 = .ok (.ldc_w 265, 3) := by decide +kernel
theorem d_JI_bitCount_7 : decode mt_JI_bitCount.2.1 7 = .ok (.iand, 1) := by decide +kernel
theorem d_JI_bitCount_8 : decode mt_JI_bitCount.2.1 8 = .ok (.isub, 1) := by decide +kernel
theorem d_JI_bitCount_9 : decode mt_JI_bitCount.2.1 9 = .ok (.istore_n 0, 1) := by decide +kernel
theorem d_JI_bitCount_10 : decode mt_JI_bitCount.2.1 10 = .ok (.iload_n 0, 1) := by decide +kernel
theorem d_JI_bitCount_11 : decode mt_JI_bitCount.2.1 11 = .ok (.ldc_w 266, 3) := by decide +kernel
theorem d_JI_bitCount_14 : decode mt_JI_bitCount.2.1 14 = .ok (.iand, 1) := by decide +kernel
theorem d_JI_bitCount_15 : decode mt_JI_bitCount.2.1 15 = .ok (.iload_n 0, 1) := by decide +kernel
theorem d_JI_bitCount_16 : decode mt_JI_bitCount.2.1 16 = .ok (.iconst 2, 1) := by decide +kernel
theorem d_JI_bitCount_17 : decode mt_JI_bitCount.2.1 17 = .ok (.iushr, 1) := by decide +kernel
theorem d_JI_bitCount_18 : decode mt_JI_bitCount.2.1 18 = .ok (.ldc_w 266, 3) := by decide +kernel
theorem d_JI_bitCount_21 : decode mt_JI_bitCount.2.1 21 = .ok (.iand, 1) := by decide +kernel
theorem d_JI_bitCount_22 : decode mt_JI_bitCount.2.1 22 = .ok (.iadd, 1) := by decide +kernel
theorem d_JI_bitCount_23 : decode mt_JI_bitCount.2.1 23 = .ok (.istore_n 0, 1) := by decide +kernel
theorem d_JI_bitCount_24 : decode mt_JI_bitCount.2.1 24 = .ok (.iload_n 0, 1) := by decide +kernel
theorem d_JI_bitCount_25 : decode mt_JI_bitCount.2.1 25 = .ok (.iload_n 0, 1) := by decide +kernel
theorem d_JI_bitCount_26 : decode mt_JI_bitCount.2.1 26 = .ok (.iconst 4, 1) := by decide +kernel
theorem d_JI_bitCount_27 : decode mt_JI_bitCount.2.1 27 = .ok (.iushr, 1) := by decide +kernel
theorem d_JI_bitCount_28 : decode mt_JI_bitCount.2.1 28 = .ok (.iadd, 1) := by decide +kernel
theorem d_JI_bitCount_29 : decode mt_JI_bitCount.2.1 29 = .ok (.ldc_w 267, 3) := by decide +kernel
theorem d_JI_bitCount_32 : decode mt_JI_bitCount.2.1 32 = .ok (.iand, 1) := by decide +kernel
theorem d_JI_bitCount_33 : decode mt_JI_bitCount.2.1 33 = .ok (.istore_n 0, 1) := by decide +kernel
theorem d_JI_bitCount_34 : decode mt_JI_bitCount.2.1 34 = .ok (.iload_n 0, 1) := by decide +kernel
theorem d_JI_bitCount_35 : decode mt_JI_bitCount.2.1 35 = .ok (.iload_n 0, 1) := by decide +kernel
theorem d_JI_bitCount_36 : decode mt_JI_bitCount.2.1 36 = .ok (.bipush 8, 2) := by decide +kernel
theorem d_JI_bitCount_38 : decode mt_JI_bitCount.2.1 38 = .ok (.iushr, 1) := by decide +kernel
theorem d_JI_bitCount_39 : decode mt_JI_bitCount.2.1 39 = .ok (.iadd, 1) := by decide +kernel
theorem d_JI_bitCount_40 : decode mt_JI_bitCount.2.1 40 = .ok (.istore_n 0, 1) := by decide +kernel
theorem d_JI_bitCount_41 : decode mt_JI_bitCount.2.1 41 = .ok (.iload_n 0, 1) := by decide +kernel
theorem d_JI_bitCount_42 : decode mt_JI_bitCount.2.1 42 = .ok (.iload_n 0, 1) := by decide +kernel
theorem d_JI_bitCount_43 : decode mt_JI_bitCount.2.1 43 = .ok (.bipush 16, 2) := by decide +kernel
theorem d_JI_bitCount_45 : decode mt_JI_bitCount.2.1 45 = .ok (.iushr, 1) := by decide +kernel
theorem d_JI_bitCount_46 : decode mt_JI_bitCount.2.1 46 = .ok (.iadd, 1) := by decide +kernel
theorem d_JI_bitCount_47 : decode mt_JI_bitCount.2.1 47 = .ok (.istore_n 0, 1) := by decide +kernel
theorem d_JI_bitCount_48 : decode mt_JI_bitCount.2.1 48 = .ok (.iload_n 0, 1) := by decide +kernel
theorem d_JI_bitCount_49 : decode mt_JI_bitCount.2.1 49 = .ok (.bipush 63, 2) := by decide +kernel
theorem d_JI_bitCount_51 : decode mt_JI_bitCount.2.1 51 = .ok (.iand, 1) := by decide +kernel
theorem d_JI_bitCount_52 : decode mt_JI_bitCount.2.1 52 = .ok (.ireturn, 1) := by decide +kernel
noncomputable def f_JI_bitCount_b0 (v0 : Int) (σ : Mem) : Option (Int) :=
  some (iand (w32 (w32 (iand (w32 (w32 (iand (w32 (v0 - (iand (iushr v0 1) 1431655765))) 858993459 + (iand (iushr (w32 (v0 - (iand (iushr v0 1) 1431655765))) 2) 858993459)) + (iushr (w32 (iand (w32 (v0 - (iand (iushr v0 1) 1431655765))) 858993459 + (iand (iushr (w32 (v0 - (iand (iushr v0 1) 1431655765))) 2) 858993459))) 4))) 252645135 + (iushr (iand (w32 (w32 (iand (w32 (v0 - (iand (iushr v0 1) 1431655765))) 858993459 + (iand (iushr (w32 (v0 - (iand (iushr v0 1) 1431655765))) 2) 858993459)) + (iushr (w32 (iand (w32 (v0 - (iand (iushr v0 1) 1431655765))) 858993459 + (iand (iushr (w32 (v0 - (iand (iushr v0 1) 1431655765))) 2) 858993459))) 4))) 252645135) 8)) + (iushr (w32 (iand (w32 (w32 (iand (w32 (v0 - (iand (iushr v0 1) 1431655765))) 858993459 + (iand (iushr (w32 (v0 - (iand (iushr v0 1) 1431655765))) 2) 858993459)) + (iushr (w32 (iand (w32 (v0 - (iand (iushr v0 1) 1431655765))) 858993459 + (iand (iushr (w32 (v0 - (iand (iushr v0 1) 1431655765))) 2) 858993459))) 4))) 252645135 + (iushr (iand (w32 (w32 (iand (w32 (v0 - (iand (iushr v0 1) 1431655765))) 858993459 + (iand (iushr (w32 (v0 - (iand (iushr v0 1) 1431655765))) 2) 858993459)) + (iushr (w32 (iand (w32 (v0 - (iand (iushr v0 1) 1431655765))) 858993459 + (iand (iushr (w32 (v0 - (iand (iushr v0 1) 1431655765))) 2) 858993459))) 4))) 252645135) 8))) 16))) 63)
theorem L_JI_bitCount_b0 {sc : Nat × (Nat → Int32)} {o : Int} {σ : Mem} {v0 : Int} (h : f_JI_bitCount_b0 v0 σ = some o) : E sc (Fm Sh (some (0, o)) Sh σ) mt_JI_bitCount 1 Sh Sh 0 [(0, v0)] [] Sh σ := by
  unfold f_JI_bitCount_b0 at h
  refine E_iload_n d_JI_bitCount_0 rfl ?_
  refine E_iload_n d_JI_bitCount_1 rfl ?_
  refine E_iconst d_JI_bitCount_2 (c32 rfl) ?_
  refine E_iushr d_JI_bitCount_3 ?_
  refine E_ldc_w d_JI_bitCount_4 kw_JI_265 ?_
  refine E_iand d_JI_bitCount_7 ?_
  refine E_isub d_JI_bitCount_8 ?_
  refine E_istore_n d_JI_bitCount_9 (ls' := [(0, w32 (v0 - (iand (iushr v0 1) 1431655765)))]) ⟨by decide, rfl⟩ ?_
  refine E_iload_n d_JI_bitCount_10 rfl ?_
  refine E_ldc_w d_JI_bitCount_11 kw_JI_266 ?_
  refine E_iand d_JI_bitCount_14 ?_
  refine E_iload_n d_JI_bitCount_15 rfl ?_
  refine E_iconst d_JI_bitCount_16 (c32 rfl) ?_
  refine E_iushr d_JI_bitCount_17 ?_
  refine E_ldc_w d_JI_bitCount_18 kw_JI_266 ?_
  refine E_iand d_JI_bitCount_21 ?_
  refine E_iadd d_JI_bitCount_22 ?_
  refine E_istore_n d_JI_bitCount_23 (ls' := [(0, w32 (iand (w32 (v0 - (iand (iushr v0 1) 1431655765))) 858993459 + (iand (iushr (w32 (v0 - (iand (iushr v0 1) 1431655765))) 2) 858993459)))]) ⟨by decide, rfl⟩ ?_
  refine E_iload_n d_JI_bitCount_24 rfl ?_
  refine E_iload_n d_JI_bitCount_25 rfl ?_
  refine E_iconst d_JI_bitCount_26 (c32 rfl) ?_
  refine E_iushr d_JI_bitCount_27 ?_
  refine E_iadd d_JI_bitCount_28 ?_
  refine E_ldc_w d_JI_bitCount_29 kw_JI_267 ?_
  refine E_iand d_JI_bitCount_32 ?_
  refine E_istore_n d_JI_bitCount_33 (ls' := [(0, iand (w32 (w32 (iand (w32 (v0 - (iand (iushr v0 1) 1431655765))) 858993459 + (iand (iushr (w32 (v0 - (iand (iushr v0 1) 1431655765))) 2) 858993459)) + (iushr (w32 (iand (w32 (v0 - (iand (iushr v0 1) 1431655765))) 858993459 + (iand (iushr (w32 (v0 - (iand (iushr v0 1) 1431655765))) 2) 858993459))) 4))) 252645135)]) ⟨by decide, rfl⟩ ?_
  refine E_iload_n d_JI_bitCount_34 rfl ?_
  refine E_iload_n d_JI_bitCount_35 rfl ?_
  refine E_bipush d_JI_bitCount_36 (c8 rfl) ?_
  refine E_iushr d_JI_bitCount_38 ?_
  refine E_iadd d_JI_bitCount_39 ?_
  refine E_istore_n d_JI_bitCount_40 (ls' := [(0, w32 (iand (w32 (w32 (iand (w32 (v0 - (iand (iushr v0 1) 1431655765))) 858993459 + (iand (iushr (w32 (v0 - (iand (iushr v0 1) 1431655765))) 2) 858993459)) + (iushr (w32 (iand (w32 (v0 - (iand (iushr v0 1) 1431655765))) 858993459 + (iand (iushr (w32 (v0 - (iand (iushr v0 1) 1431655765))) 2) 858993459))) 4))) 252645135 + (iushr (iand (w32 (w32 (iand (w32 (v0 - (iand (iushr v0 1) 1431655765))) 858993459 + (iand (iushr (w32 (v0 - (iand (iushr v0 1) 1431655765))) 2) 858993459)) + (iushr (w32 (iand (w32 (v0 - (iand (iushr v0 1) 1431655765))) 858993459 + (iand (iushr (w32 (v0 - (iand (iushr v0 1) 1431655765))) 2) 858993459))) 4))) 252645135) 8)))]) ⟨by decide, rfl⟩ ?_
  refine E_iload_n d_JI_bitCount_41 rfl ?_
  refine E_iload_n d_JI_bitCount_42 rfl ?_
  refine E_bipush d_JI_bitCount_43 (c8 rfl) ?_
  refine E_iushr d_JI_bitCount_45 ?_
  refine E_iadd d_JI_bitCount_46 ?_
  refine E_istore_n d_JI_bitCount_47 (ls' := [(0, w32 (w32 (iand (w32 (w32 (iand (w32 (v0 - (iand (iushr v0 1) 1431655765))) 858993459 + (iand (iushr (w32 (v0 - (iand (iushr v0 1) 1431655765))) 2) 858993459)) + (iushr (w32 (iand (w32 (v0 - (iand (iushr v0 1) 1431655765))) 858993459 + (iand (iushr (w32 (v0 - (iand (iushr v0 1) 1431655765))) 2) 858993459))) 4))) 252645135 + (iushr (iand (w32 (w32 (iand (w32 (v0 - (iand (iushr v0 1) 1431655765))) 858993459 + (iand (iushr (w32 (v0 - (iand (iushr v0 1) 1431655765))) 2) 858993459)) + (iushr (w32 (iand (w32 (v0 - (iand (iushr v0 1) 1431655765))) 858993459 + (iand (iushr (w32 (v0 - (iand (iushr v0 1) 1431655765))) 2) 858993459))) 4))) 252645135) 8)) + (iushr (w32 (iand (w32 (w32 (iand (w32 (v0 - (iand (iushr v0 1) 1431655765))) 858993459 + (iand (iushr (w32 (v0 - (iand (iushr v0 1) 1431655765))) 2) 858993459)) + (iushr (w32 (iand (w32 (v0 - (iand (iushr v0 1) 1431655765))) 858993459 + (iand (iushr (w32 (v0 - (iand (iushr v0 1) 1431655765))) 2) 858993459))) 4))) 252645135 + (iushr (iand (w32 (w32 (iand (w32 (v0 - (iand (iushr v0 1) 1431655765))) 858993459 + (iand (iushr (w32 (v0 - (iand (iushr v0 1) 1431655765))) 2) 858993459)) + (iushr (w32 (iand (w32 (v0 - (iand (iushr v0 1) 1431655765))) 858993459 + (iand (iushr (w32 (v0 - (iand (iushr v0 1) 1431655765))) 2) 858993459))) 4))) 252645135) 8))) 16)))]) ⟨by decide, rfl⟩ ?_
  refine E_iload_n d_JI_bitCount_48 rfl ?_
  refine E_bipush d_JI_bitCount_49 (c8 rfl) ?_
  refine E_iand d_JI_bitCount_51 ?_
  cases h
  exact E_iret d_JI_bitCount_52 rfl
noncomputable def f_JI_bitCount (v0 : Int) (σ : Mem) : Option (Int) := f_JI_bitCount_b0 v0 σ
theorem L_JI_bitCount {o : Int} {v0 : Int} {σ : Mem} (h : f_JI_bitCount v0 σ = some o) : Cn mt_JI_bitCount 1 [(0, v0)] Sh σ (some (0, o)) Sh σ := Cn_of mk_JI_bitCount.1.2.2.1 (Nat.le_of_ble_eq_true rfl) (fun sc => L_JI_bitCount_b0 h)
