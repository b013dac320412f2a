theorem d_X11_twoPlacesWhy_0 : decode mt_X11_twoPlacesWhy.2.1 0 = .ok (.aload_n 0, 1) := by decide +kernel
theorem d_X11_twoPlacesWhy_1 : decode mt_X11_twoPlacesWhy.2.1 1 = .ok (.getfield 31, 3) := by decide +kernel
theorem d_X11_twoPlacesWhy_4 : decode mt_X11_twoPlacesWhy.2.1 4 = .ok (.iload_n 1, 1) := by decide +kernel
theorem d_X11_twoPlacesWhy_5 : decode mt_X11_twoPlacesWhy.2.1 5 = .ok (.i2l, 1) := by decide +kernel
theorem d_X11_twoPlacesWhy_6 : decode mt_X11_twoPlacesWhy.2.1 6 = .ok (.invokevirtual 290, 3) := by decide +kernel
theorem d_X11_twoPlacesWhy_9 : decode mt_X11_twoPlacesWhy.2.1 9 = .ok (.ifCond .eq 19, 3) := by decide +kernel
theorem d_X11_twoPlacesWhy_12 : decode mt_X11_twoPlacesWhy.2.1 12 = .ok (.aload_n 0, 1) := by decide +kernel
theorem d_X11_twoPlacesWhy_13 : decode mt_X11_twoPlacesWhy.2.1 13 = .ok (.getfield 31, 3) := by decide +kernel
theorem d_X11_twoPlacesWhy_16 : decode mt_X11_twoPlacesWhy.2.1 16 = .ok (.iload_n 2, 1) := by decide +kernel
theorem d_X11_twoPlacesWhy_17 : decode mt_X11_twoPlacesWhy.2.1 17 = .ok (.i2l, 1) := by decide +kernel
theorem d_X11_twoPlacesWhy_18 : decode mt_X11_twoPlacesWhy.2.1 18 = .ok (.invokevirtual 290, 3) := by decide +kernel
theorem d_X11_twoPlacesWhy_21 : decode mt_X11_twoPlacesWhy.2.1 21 = .ok (.ifCond .eq 7, 3) := by decide +kernel
theorem d_X11_twoPlacesWhy_24 : decode mt_X11_twoPlacesWhy.2.1 24 = .ok (.iconst 0, 1) := by decide +kernel
theorem d_X11_twoPlacesWhy_25 : decode mt_X11_twoPlacesWhy.2.1 25 = .ok (.goto 4, 3) := by decide +kernel
theorem d_X11_twoPlacesWhy_28 : decode mt_X11_twoPlacesWhy.2.1 28 = .ok (.iconst 2, 1) := by decide +kernel
theorem d_X11_twoPlacesWhy_29 : decode mt_X11_twoPlacesWhy.2.1 29 = .ok (.ireturn, 1) := by decide +kernel
noncomputable def f_X11_twoPlacesWhy_b0 (v0 v1 v2 : Int) (σ : Mem) : Option (Int) :=
  (gf Sh σ 11 v0 3).bind fun x1 =>
  (f_X9_isPlace x1 v1 σ).bind fun r2 =>
  if r2 = 0 then
    some (2)
  else
    (gf Sh σ 11 v0 3).bind fun x4 =>
    (f_X9_isPlace x4 v2 σ).bind fun r5 =>
    if r5 = 0 then
      some (2)
    else
      some (0)
theorem L_X11_twoPlacesWhy_b0 {sc : Nat × (Nat → Int32)} {o : Int} {σ : Mem} {v0 v1 v2 : Int} (h : f_X11_twoPlacesWhy_b0 v0 v1 v2 σ = some o) : E sc (Fm Sh (some (0, o)) Sh σ) mt_X11_twoPlacesWhy 2 Sh Sh 0 [(2, v0), (0, v1), (0, v2)] [] Sh σ := by
  unfold f_X11_twoPlacesWhy_b0 at h
  refine E_aload_n d_X11_twoPlacesWhy_0 rfl (by decide) ?_
  refine E_get d_X11_twoPlacesWhy_1 okX11 fl_X11_31 ⟨by decide, rfl⟩ h (fun x1 h => ?_)
  refine E_iload_n d_X11_twoPlacesWhy_4 rfl ?_
  refine E_i2l d_X11_twoPlacesWhy_5 ?_
  refine bd h (fun r2 q3 h => ?_)
  refine E_cV (as := [(1, v1)]) (st := []) (a := x1) d_X11_twoPlacesWhy_6 mk_X9_isPlace nl_X11_290 (by omega) ⟨rfl, rfl, Nat.le_of_ble_eq_true rfl⟩ okX9 rfl (L_X9_isPlace q3) ?_
  refine E_if_eq (tgt := 28) d_X11_twoPlacesWhy_9 (by decide) h (fun _ h => ?_) (fun _ h => ?_)
  · refine E_iconst d_X11_twoPlacesWhy_28 (c32 rfl) ?_
    cases h
    exact E_iret d_X11_twoPlacesWhy_29 rfl
  · refine E_aload_n d_X11_twoPlacesWhy_12 rfl (by decide) ?_
    refine E_get d_X11_twoPlacesWhy_13 okX11 fl_X11_31 ⟨by decide, rfl⟩ h (fun x4 h => ?_)
    refine E_iload_n d_X11_twoPlacesWhy_16 rfl ?_
    refine E_i2l d_X11_twoPlacesWhy_17 ?_
    refine bd h (fun r5 q6 h => ?_)
    refine E_cV (as := [(1, v2)]) (st := []) (a := x4) d_X11_twoPlacesWhy_18 mk_X9_isPlace nl_X11_290 (by omega) ⟨rfl, rfl, Nat.le_of_ble_eq_true rfl⟩ okX9 rfl (L_X9_isPlace q6) ?_
    refine E_if_eq (tgt := 28) d_X11_twoPlacesWhy_21 (by decide) h (fun _ h => ?_) (fun _ h => ?_)
    · refine E_iconst d_X11_twoPlacesWhy_28 (c32 rfl) ?_
      cases h
      exact E_iret d_X11_twoPlacesWhy_29 rfl
    · refine E_iconst d_X11_twoPlacesWhy_24 (c32 rfl) ?_
      refine E_goto (tgt := 29) d_X11_twoPlacesWhy_25 (by decide) ?_
      cases h
      exact E_iret d_X11_twoPlacesWhy_29 rfl
noncomputable def f_X11_twoPlacesWhy (v0 v1 v2 : Int) (σ : Mem) : Option (Int) := if isO Sh 11 v0 = true then f_X11_twoPlacesWhy_b0 v0 v1 v2 σ else none
theorem L_X11_twoPlacesWhy {o : Int} {v0 v1 v2 : Int} {σ : Mem} (h : f_X11_twoPlacesWhy v0 v1 v2 σ = some o) : (isO Sh 11 v0 = true ∧ Cn mt_X11_twoPlacesWhy 2 [(2, v0), (0, v1), (0, v2)] Sh σ (some (0, o)) Sh σ) := ⟨(ite_ok h).1, Cn_of mk_X11_twoPlacesWhy.1.2.2.1 (Nat.le_of_ble_eq_true rfl) (fun sc => L_X11_twoPlacesWhy_b0 (ite_ok h).2)⟩
theorem d_X11_far_0 : decode mt_X11_far.2.1 0 = .ok (.aload_n 0, 1) := by decide +kernel
theorem d_X11_far_1 : decode mt_X11_far.2.1 1 = .ok (.aload_n 0, 1) := by decide +kernel
theorem d_X11_far_2 : decode mt_X11_far.2.1 2 = .ok (.iload_n 1, 1) := by decide +kernel
theorem d_X11_far_3 : decode mt_X11_far.2.1 3 = .ok (.iload_n 2, 1) := by decide +kernel
theorem d_X11_far_4 : decode mt_X11_far.2.1 4 = .ok (.invokevirtual 313, 3) := by decide +kernel
theorem d_X11_far_7 : decode mt_X11_far.2.1 7 = .ok (.invokevirtual 132, 3) := by decide +kernel
theorem d_X11_far_10 : decode mt_X11_far.2.1 10 = .ok (.ifCond .eq 5, 3) := by decide +kernel
theorem d_X11_far_13 : decode mt_X11_far.2.1 13 = .ok (.iconst (-1), 1) := by decide +kernel
theorem d_X11_far_14 : decode mt_X11_far.2.1 14 = .ok (.ireturn, 1) := by decide +kernel
theorem d_X11_far_15 : decode mt_X11_far.2.1 15 = .ok (.iload_n 1, 1) := by decide +kernel
theorem d_X11_far_16 : decode mt_X11_far.2.1 16 = .ok (.iload_n 2, 1) := by decide +kernel
theorem d_X11_far_17 : decode mt_X11_far.2.1 17 = .ok (.isub, 1) := by decide +kernel
theorem d_X11_far_18 : decode mt_X11_far.2.1 18 = .ok (.invokestatic 316, 3) := by decide +kernel
theorem d_X11_far_21 : decode mt_X11_far.2.1 21 = .ok (.istore_n 3, 1) := by decide +kernel
theorem d_X11_far_22 : decode mt_X11_far.2.1 22 = .ok (.iload_n 3, 1) := by decide +kernel
theorem d_X11_far_23 : decode mt_X11_far.2.1 23 = .ok (.aload_n 0, 1) := by decide +kernel
theorem d_X11_far_24 : decode mt_X11_far.2.1 24 = .ok (.getfield 31, 3) := by decide +kernel
theorem d_X11_far_27 : decode mt_X11_far.2.1 27 = .ok (.getfield 196, 3) := by decide +kernel
theorem d_X11_far_30 : decode mt_X11_far.2.1 30 = .ok (.iload_n 3, 1) := by decide +kernel
theorem d_X11_far_31 : decode mt_X11_far.2.1 31 = .ok (.isub, 1) := by decide +kernel
theorem d_X11_far_32 : decode mt_X11_far.2.1 32 = .ok (.invokestatic 321, 3) := by decide +kernel
theorem d_X11_far_35 : decode mt_X11_far.2.1 35 = .ok (.ireturn, 1) := by decide +kernel
noncomputable def f_X11_far_b0 (v0 v1 v2 : Int) (σ : Mem) : Option (Int × Mem) :=
  (f_X11_twoPlacesWhy v0 v1 v2 σ).bind fun r1 =>
  (f_X11_refused v0 r1 σ).bind fun r3 =>
  if r3.1 = 0 then
    (gf Sh r3.2 11 v0 3).bind fun x5 =>
    (gf Sh r3.2 9 x5 0).bind fun x6 =>
    some (imin (iabs (w32 (v1 - v2))) (w32 (x6 - (iabs (w32 (v1 - v2))))), r3.2)
  else
    some ((-1), r3.2)
theorem L_X11_far_b0 {sc : Nat × (Nat → Int32)} {o : Int × Mem} {v0 v1 v2 : Int} {σ : Mem} (h : f_X11_far_b0 v0 v1 v2 σ = some o) : E sc (Fm Sh (some (0, o.1)) Sh o.2) mt_X11_far 3 Sh Sh 0 [(2, v0), (0, v1), (0, v2), (9, 0)] [] Sh σ := by
  unfold f_X11_far_b0 at h
  refine E_aload_n d_X11_far_0 rfl (by decide) ?_
  refine E_aload_n d_X11_far_1 rfl (by decide) ?_
  refine E_iload_n d_X11_far_2 rfl ?_
  refine E_iload_n d_X11_far_3 rfl ?_
  refine bd h (fun r1 q2 h => ?_)
  refine E_cV (as := [(0, v1), (0, v2)]) (st := [(2, v0)]) (a := v0) d_X11_far_4 mk_X11_twoPlacesWhy nl_X11_313 (by omega) ⟨rfl, rfl, Nat.le_of_ble_eq_true rfl⟩ okX11 rfl (L_X11_twoPlacesWhy q2) ?_
  refine bd h (fun r3 q4 h => ?_)
  refine E_cV (as := [(0, r1)]) (st := []) (a := v0) d_X11_far_7 mk_X11_refused nl_X11_132 (by omega) ⟨rfl, rfl, Nat.le_of_ble_eq_true rfl⟩ okX11 rfl (L_X11_refused q4) ?_
  refine E_if_eq (tgt := 15) d_X11_far_10 (by decide) h (fun _ h => ?_) (fun _ h => ?_)
  · refine E_iload_n d_X11_far_15 rfl ?_
    refine E_iload_n d_X11_far_16 rfl ?_
    refine E_isub d_X11_far_17 ?_
    refine E_iabs d_X11_far_18 nl_X11_316 (by omega) (Nat.le_of_ble_eq_true rfl) ?_
    refine E_istore_n d_X11_far_21 (ls' := [(2, v0), (0, v1), (0, v2), (0, iabs (w32 (v1 - v2)))]) ⟨by decide, rfl⟩ ?_
    refine E_iload_n d_X11_far_22 rfl ?_
    refine E_aload_n d_X11_far_23 rfl (by decide) ?_
    refine E_get d_X11_far_24 okX11 fl_X11_31 ⟨by decide, rfl⟩ h (fun x5 h => ?_)
    refine E_get d_X11_far_27 okX9 fl_X11_196 ⟨by decide, rfl⟩ h (fun x6 h => ?_)
    refine E_iload_n d_X11_far_30 rfl ?_
    refine E_isub d_X11_far_31 ?_
    refine E_imin d_X11_far_32 nl_X11_321 (by omega) (Nat.le_of_ble_eq_true rfl) ?_
    cases h
    exact E_iret d_X11_far_35 rfl
  · refine E_iconst d_X11_far_13 (c32 rfl) ?_
    cases h
    exact E_iret d_X11_far_14 rfl
noncomputable def f_X11_far (v0 v1 v2 : Int) (σ : Mem) : Option (Int × Mem) := if isO Sh 11 v0 = true then f_X11_far_b0 v0 v1 v2 σ else none
theorem L_X11_far {o : Int × Mem} {v0 v1 v2 : Int} {σ : Mem} (h : f_X11_far v0 v1 v2 σ = some o) : (isO Sh 11 v0 = true ∧ Cn mt_X11_far 3 [(2, v0), (0, v1), (0, v2)] Sh σ (some (0, o.1)) Sh o.2) := ⟨(ite_ok h).1, Cn_of mk_X11_far.1.2.2.1 (Nat.le_of_ble_eq_true rfl) (fun sc => L_X11_far_b0 (ite_ok h).2)⟩
theorem d_X11_mercy_0 : decode mt_X11_mercy.2.1 0 = .ok (.aload_n 0, 1) := by decide +kernel
theorem d_X11_mercy_1 : decode mt_X11_mercy.2.1 1 = .ok (.iload_n 1, 1) := by decide +kernel
theorem d_X11_mercy_2 : decode mt_X11_mercy.2.1 2 = .ok (.iload_n 2, 1) := by decide +kernel
theorem d_X11_mercy_3 : decode mt_X11_mercy.2.1 3 = .ok (.invokevirtual 313, 3) := by decide +kernel
theorem d_X11_mercy_6 : decode mt_X11_mercy.2.1 6 = .ok (.istore_n 3, 1) := by decide +kernel
theorem d_X11_mercy_7 : decode mt_X11_mercy.2.1 7 = .ok (.iload_n 3, 1) := by decide +kernel
theorem d_X11_mercy_8 : decode mt_X11_mercy.2.1 8 = .ok (.ifCond .ne 18, 3) := by decide +kernel
theorem d_X11_mercy_11 : decode mt_X11_mercy.2.1 11 = .ok (.aload_n 0, 1) := by decide +kernel
theorem d_X11_mercy_12 : decode mt_X11_mercy.2.1 12 = .ok (.getfield 31, 3) := by decide +kernel
theorem d_X11_mercy_15 : decode mt_X11_mercy.2.1 15 = .ok (.iload_n 1, 1) := by decide +kernel
theorem d_X11_mercy_16 : decode mt_X11_mercy.2.1 16 = .ok (.i2l, 1) := by decide +kernel
theorem d_X11_mercy_17 : decode mt_X11_mercy.2.1 17 = .ok (.invokevirtual 294, 3) := by decide +kernel
theorem d_X11_mercy_20 : decode mt_X11_mercy.2.1 20 = .ok (.ifCond .ne 6, 3) := by decide +kernel
theorem d_X11_mercy_23 : decode mt_X11_mercy.2.1 23 = .ok (.bipush 8, 2) := by decide +kernel
theorem d_X11_mercy_25 : decode mt_X11_mercy.2.1 25 = .ok (.istore_n 3, 1) := by decide +kernel
theorem d_X11_mercy_26 : decode mt_X11_mercy.2.1 26 = .ok (.aload_n 0, 1) := by decide +kernel
theorem d_X11_mercy_27 : decode mt_X11_mercy.2.1 27 = .ok (.iload_n 3, 1) := by decide +kernel
theorem d_X11_mercy_28 : decode mt_X11_mercy.2.1 28 = .ok (.invokevirtual 132, 3) := by decide +kernel
theorem d_X11_mercy_31 : decode mt_X11_mercy.2.1 31 = .ok (.ifCond .eq 5, 3) := by decide +kernel
theorem d_X11_mercy_34 : decode mt_X11_mercy.2.1 34 = .ok (.iconst (-1), 1) := by decide +kernel
theorem d_X11_mercy_35 : decode mt_X11_mercy.2.1 35 = .ok (.ireturn, 1) := by decide +kernel
theorem d_X11_mercy_36 : decode mt_X11_mercy.2.1 36 = .ok (.aload_n 0, 1) := by decide +kernel
theorem d_X11_mercy_37 : decode mt_X11_mercy.2.1 37 = .ok (.getfield 31, 3) := by decide +kernel
theorem d_X11_mercy_40 : decode mt_X11_mercy.2.1 40 = .ok (.iload_n 1, 1) := by decide +kernel
theorem d_X11_mercy_41 : decode mt_X11_mercy.2.1 41 = .ok (.iload_n 2, 1) := by decide +kernel
theorem d_X11_mercy_42 : decode mt_X11_mercy.2.1 42 = .ok (.iconst 0, 1) := by decide +kernel
theorem d_X11_mercy_43 : decode mt_X11_mercy.2.1 43 = .ok (.invokevirtual 260, 3) := by decide +kernel
theorem d_X11_mercy_46 : decode mt_X11_mercy.2.1 46 = .ok (.ireturn, 1) := by decide +kernel
noncomputable def f_X11_mercy_b26 (v0 v1 v2 v3 : Int) (σ : Mem) : Option (Int × Mem) :=
  (f_X11_refused v0 v3 σ).bind fun r6 =>
  if r6.1 = 0 then
    (gf Sh r6.2 11 v0 3).bind fun x8 =>
    (f_X9_mercyFor x8 v1 v2 0 r6.2).bind fun r9 =>
    some (r9, r6.2)
  else
    some ((-1), r6.2)
theorem L_X11_mercy_b26 {sc : Nat × (Nat → Int32)} {o : Int × Mem} {v0 v1 v2 v3 : Int} {σ : Mem} (h : f_X11_mercy_b26 v0 v1 v2 v3 σ = some o) : E sc (Fm Sh (some (0, o.1)) Sh o.2) mt_X11_mercy 3 Sh Sh 26 [(2, v0), (0, v1), (0, v2), (0, v3)] [] Sh σ := by
  unfold f_X11_mercy_b26 at h
  refine E_aload_n d_X11_mercy_26 rfl (by decide) ?_
  refine E_iload_n d_X11_mercy_27 rfl ?_
  refine bd h (fun r6 q7 h => ?_)
  refine E_cV (as := [(0, v3)]) (st := []) (a := v0) d_X11_mercy_28 mk_X11_refused nl_X11_132 (by omega) ⟨rfl, rfl, Nat.le_of_ble_eq_true rfl⟩ okX11 rfl (L_X11_refused q7) ?_
  refine E_if_eq (tgt := 36) d_X11_mercy_31 (by decide) h (fun _ h => ?_) (fun _ h => ?_)
  · refine E_aload_n d_X11_mercy_36 rfl (by decide) ?_
    refine E_get d_X11_mercy_37 okX11 fl_X11_31 ⟨by decide, rfl⟩ h (fun x8 h => ?_)
    refine E_iload_n d_X11_mercy_40 rfl ?_
    refine E_iload_n d_X11_mercy_41 rfl ?_
    refine E_iconst d_X11_mercy_42 (c32 rfl) ?_
    refine bd h (fun r9 q10 h => ?_)
    refine E_cV (as := [(0, v1), (0, v2), (0, 0)]) (st := []) (a := x8) d_X11_mercy_43 mk_X9_mercyFor nl_X11_260 (by omega) ⟨rfl, rfl, Nat.le_of_ble_eq_true rfl⟩ okX9 rfl (L_X9_mercyFor q10) ?_
    cases h
    exact E_iret d_X11_mercy_46 rfl
  · refine E_iconst d_X11_mercy_34 (c32 rfl) ?_
    cases h
    exact E_iret d_X11_mercy_35 rfl
noncomputable def f_X11_mercy_b0 (v0 v1 v2 : Int) (σ : Mem) : Option (Int × Mem) :=
  (f_X11_twoPlacesWhy v0 v1 v2 σ).bind fun r1 =>
  if r1 = 0 then
    (gf Sh σ 11 v0 3).bind fun x3 =>
    (f_X9_isStone x3 v1 σ).bind fun r4 =>
    if r4 = 0 then
      f_X11_mercy_b26 v0 v1 v2 8 σ
    else
      f_X11_mercy_b26 v0 v1 v2 r1 σ
  else
    f_X11_mercy_b26 v0 v1 v2 r1 σ
theorem L_X11_mercy_b0 {sc : Nat × (Nat → Int32)} {o : Int × Mem} {v0 v1 v2 : Int} {σ : Mem} (h : f_X11_mercy_b0 v0 v1 v2 σ = some o) : E sc (Fm Sh (some (0, o.1)) Sh o.2) mt_X11_mercy 3 Sh Sh 0 [(2, v0), (0, v1), (0, v2), (9, 0)] [] Sh σ := by
  unfold f_X11_mercy_b0 at h
  refine E_aload_n d_X11_mercy_0 rfl (by decide) ?_
  refine E_iload_n d_X11_mercy_1 rfl ?_
  refine E_iload_n d_X11_mercy_2 rfl ?_
  refine bd h (fun r1 q2 h => ?_)
  refine E_cV (as := [(0, v1), (0, v2)]) (st := []) (a := v0) d_X11_mercy_3 mk_X11_twoPlacesWhy nl_X11_313 (by omega) ⟨rfl, rfl, Nat.le_of_ble_eq_true rfl⟩ okX11 rfl (L_X11_twoPlacesWhy q2) ?_
  refine E_istore_n d_X11_mercy_6 (ls' := [(2, v0), (0, v1), (0, v2), (0, r1)]) ⟨by decide, rfl⟩ ?_
  refine E_iload_n d_X11_mercy_7 rfl ?_
  refine E_if_ne (tgt := 26) d_X11_mercy_8 (by decide) h (fun _ h => ?_) (fun _ h => ?_)
  · refine E_aload_n d_X11_mercy_11 rfl (by decide) ?_
    refine E_get d_X11_mercy_12 okX11 fl_X11_31 ⟨by decide, rfl⟩ h (fun x3 h => ?_)
    refine E_iload_n d_X11_mercy_15 rfl ?_
    refine E_i2l d_X11_mercy_16 ?_
    refine bd h (fun r4 q5 h => ?_)
    refine E_cV (as := [(1, v1)]) (st := []) (a := x3) d_X11_mercy_17 mk_X9_isStone nl_X11_294 (by omega) ⟨rfl, rfl, Nat.le_of_ble_eq_true rfl⟩ okX9 rfl (L_X9_isStone q5) ?_
    refine E_if_ne (tgt := 26) d_X11_mercy_20 (by decide) h (fun _ h => ?_) (fun _ h => ?_)
    · refine E_bipush d_X11_mercy_23 (c8 rfl) ?_
      refine E_istore_n d_X11_mercy_25 (ls' := [(2, v0), (0, v1), (0, v2), (0, 8)]) ⟨by decide, rfl⟩ ?_
      exact (L_X11_mercy_b26 h)
    · exact (L_X11_mercy_b26 h)
  · exact (L_X11_mercy_b26 h)
noncomputable def f_X11_mercy (v0 v1 v2 : Int) (σ : Mem) : Option (Int × Mem) := if isO Sh 11 v0 = true then f_X11_mercy_b0 v0 v1 v2 σ else none
theorem L_X11_mercy {o : Int × Mem} {v0 v1 v2 : Int} {σ : Mem} (h : f_X11_mercy v0 v1 v2 σ = some o) : (isO Sh 11 v0 = true ∧ Cn mt_X11_mercy 3 [(2, v0), (0, v1), (0, v2)] Sh σ (some (0, o.1)) Sh o.2) := ⟨(ite_ok h).1, Cn_of mk_X11_mercy.1.2.2.1 (Nat.le_of_ble_eq_true rfl) (fun sc => L_X11_mercy_b0 (ite_ok h).2)⟩
theorem d_X11_turned_0 : decode mt_X11_turned.2.1 0 = .ok (.aload_n 0, 1) := by decide +kernel
theorem d_X11_turned_1 : decode mt_X11_turned.2.1 1 = .ok (.aload_n 0, 1) := by decide +kernel
theorem d_X11_turned_2 : decode mt_X11_turned.2.1 2 = .ok (.iload_n 1, 1) := by decide +kernel
theorem d_X11_turned_3 : decode mt_X11_turned.2.1 3 = .ok (.iload_n 2, 1) := by decide +kernel
theorem d_X11_turned_4 : decode mt_X11_turned.2.1 4 = .ok (.invokevirtual 274, 3) := by decide +kernel
theorem d_X11_turned_7 : decode mt_X11_turned.2.1 7 = .ok (.invokevirtual 132, 3) := by decide +kernel
theorem d_X11_turned_10 : decode mt_X11_turned.2.1 10 = .ok (.ifCond .eq 5, 3) := by decide +kernel
theorem d_X11_turned_13 : decode mt_X11_turned.2.1 13 = .ok (.iconst (-1), 1) := by decide +kernel
theorem d_X11_turned_14 : decode mt_X11_turned.2.1 14 = .ok (.ireturn, 1) := by decide +kernel
theorem d_X11_turned_15 : decode mt_X11_turned.2.1 15 = .ok (.aload_n 0, 1) := by decide +kernel
theorem d_X11_turned_16 : decode mt_X11_turned.2.1 16 = .ok (.getfield 31, 3) := by decide +kernel
theorem d_X11_turned_19 : decode mt_X11_turned.2.1 19 = .ok (.iload_n 1, 1) := by decide +kernel
theorem d_X11_turned_20 : decode mt_X11_turned.2.1 20 = .ok (.iload_n 2, 1) := by decide +kernel
theorem d_X11_turned_21 : decode mt_X11_turned.2.1 21 = .ok (.iconst 0, 1) := by decide +kernel
theorem d_X11_turned_22 : decode mt_X11_turned.2.1 22 = .ok (.invokevirtual 324, 3) := by decide +kernel
theorem d_X11_turned_25 : decode mt_X11_turned.2.1 25 = .ok (.ireturn, 1) := by decide +kernel
noncomputable def f_X11_turned_b0 (v0 v1 v2 : Int) (σ : Mem) : Option (Int × Mem) :=
  (f_X11_guiltWhy v0 v1 v2 σ).bind fun r1 =>
  (f_X11_refused v0 r1 σ).bind fun r3 =>
  if r3.1 = 0 then
    (gf Sh r3.2 11 v0 3).bind fun x5 =>
    (f_X9_turningFrom x5 v1 v2 0 r3.2).bind fun r6 =>
    some (r6, r3.2)
  else
    some ((-1), r3.2)
theorem L_X11_turned_b0 {sc : Nat × (Nat → Int32)} {o : Int × Mem} {v0 v1 v2 : Int} {σ : Mem} (h : f_X11_turned_b0 v0 v1 v2 σ = some o) : E sc (Fm Sh (some (0, o.1)) Sh o.2) mt_X11_turned 4 Sh Sh 0 [(2, v0), (0, v1), (0, v2)] [] Sh σ := by
  unfold f_X11_turned_b0 at h
  refine E_aload_n d_X11_turned_0 rfl (by decide) ?_
  refine E_aload_n d_X11_turned_1 rfl (by decide) ?_
  refine E_iload_n d_X11_turned_2 rfl ?_
  refine E_iload_n d_X11_turned_3 rfl ?_
  refine bd h (fun r1 q2 h => ?_)
  refine E_cV (as := [(0, v1), (0, v2)]) (st := [(2, v0)]) (a := v0) d_X11_turned_4 mk_X11_guiltWhy nl_X11_274 (by omega) ⟨rfl, rfl, Nat.le_of_ble_eq_true rfl⟩ okX11 rfl (L_X11_guiltWhy q2) ?_
  refine bd h (fun r3 q4 h => ?_)
  refine E_cV (as := [(0, r1)]) (st := []) (a := v0) d_X11_turned_7 mk_X11_refused nl_X11_132 (by omega) ⟨rfl, rfl, Nat.le_of_ble_eq_true rfl⟩ okX11 rfl (L_X11_refused q4) ?_
  refine E_if_eq (tgt := 15) d_X11_turned_10 (by decide) h (fun _ h => ?_) (fun _ h => ?_)
  · refine E_aload_n d_X11_turned_15 rfl (by decide) ?_
    refine E_get d_X11_turned_16 okX11 fl_X11_31 ⟨by decide, rfl⟩ h (fun x5 h => ?_)
    refine E_iload_n d_X11_turned_19 rfl ?_
    refine E_iload_n d_X11_turned_20 rfl ?_
    refine E_iconst d_X11_turned_21 (c32 rfl) ?_
    refine bd h (fun r6 q7 h => ?_)
    refine E_cV (as := [(0, v1), (0, v2), (0, 0)]) (st := []) (a := x5) d_X11_turned_22 mk_X9_turningFrom nl_X11_324 (by omega) ⟨rfl, rfl, Nat.le_of_ble_eq_true rfl⟩ okX9 rfl (L_X9_turningFrom q7) ?_
    cases h
    exact E_iret d_X11_turned_25 rfl
  · refine E_iconst d_X11_turned_13 (c32 rfl) ?_
    cases h
    exact E_iret d_X11_turned_14 rfl
noncomputable def f_X11_turned (v0 v1 v2 : Int) (σ : Mem) : Option (Int × Mem) := if isO Sh 11 v0 = true then f_X11_turned_b0 v0 v1 v2 σ else none
theorem L_X11_turned {o : Int × Mem} {v0 v1 v2 : Int} {σ : Mem} (h : f_X11_turned v0 v1 v2 σ = some o) : (isO Sh 11 v0 = true ∧ Cn mt_X11_turned 4 [(2, v0), (0, v1), (0, v2)] Sh σ (some (0, o.1)) Sh o.2) := ⟨(ite_ok h).1, Cn_of mk_X11_turned.1.2.2.1 (Nat.le_of_ble_eq_true rfl) (fun sc => L_X11_turned_b0 (ite_ok h).2)⟩
theorem d_X11_verdict_0 : decode mt_X11_verdict.2.1 0 = .ok (.aload_n 0, 1) := by decide +kernel
theorem d_X11_verdict_1 : decode mt_X11_verdict.2.1 1 = .ok (.aload_n 0, 1) := by decide +kernel
theorem d_X11_verdict_2 : decode mt_X11_verdict.2.1 2 = .ok (.iload_n 1, 1) := by decide +kernel
theorem d_X11_verdict_3 : decode mt_X11_verdict.2.1 3 = .ok (.iload_n 2, 1) := by decide +kernel
theorem d_X11_verdict_4 : decode mt_X11_verdict.2.1 4 = .ok (.invokevirtual 274, 3) := by decide +kernel
theorem d_X11_verdict_7 : decode mt_X11_verdict.2.1 7 = .ok (.invokevirtual 132, 3) := by decide +kernel
theorem d_X11_verdict_10 : decode mt_X11_verdict.2.1 10 = .ok (.ifCond .eq 5, 3) := by decide +kernel
theorem d_X11_verdict_13 : decode mt_X11_verdict.2.1 13 = .ok (.iconst (-1), 1) := by decide +kernel
theorem d_X11_verdict_14 : decode mt_X11_verdict.2.1 14 = .ok (.ireturn, 1) := by decide +kernel
theorem d_X11_verdict_15 : decode mt_X11_verdict.2.1 15 = .ok (.aload_n 0, 1) := by decide +kernel
theorem d_X11_verdict_16 : decode mt_X11_verdict.2.1 16 = .ok (.getfield 31, 3) := by decide +kernel
theorem d_X11_verdict_19 : decode mt_X11_verdict.2.1 19 = .ok (.iload_n 1, 1) := by decide +kernel
theorem d_X11_verdict_20 : decode mt_X11_verdict.2.1 20 = .ok (.iload_n 2, 1) := by decide +kernel
theorem d_X11_verdict_21 : decode mt_X11_verdict.2.1 21 = .ok (.iconst 0, 1) := by decide +kernel
theorem d_X11_verdict_22 : decode mt_X11_verdict.2.1 22 = .ok (.invokevirtual 327, 3) := by decide +kernel
theorem d_X11_verdict_25 : decode mt_X11_verdict.2.1 25 = .ok (.ifCond .eq 7, 3) := by decide +kernel
theorem d_X11_verdict_28 : decode mt_X11_verdict.2.1 28 = .ok (.iconst 1, 1) := by decide +kernel
theorem d_X11_verdict_29 : decode mt_X11_verdict.2.1 29 = .ok (.goto 4, 3) := by decide +kernel
theorem d_X11_verdict_32 : decode mt_X11_verdict.2.1 32 = .ok (.iconst 0, 1) := by decide +kernel
theorem d_X11_verdict_33 : decode mt_X11_verdict.2.1 33 = .ok (.ireturn, 1) := by decide +kernel
noncomputable def f_X11_verdict_b0 (v0 v1 v2 : Int) (σ : Mem) : Option (Int × Mem) :=
  (f_X11_guiltWhy v0 v1 v2 σ).bind fun r1 =>
  (f_X11_refused v0 r1 σ).bind fun r3 =>
  if r3.1 = 0 then
    (gf Sh r3.2 11 v0 3).bind fun x5 =>
    (f_X9_condemns x5 v1 v2 0 r3.2).bind fun r6 =>
    if r6 = 0 then
      some (0, r3.2)
    else
      some (1, r3.2)
  else
    some ((-1), r3.2)
theorem L_X11_verdict_b0 {sc : Nat × (Nat → Int32)} {o : Int × Mem} {v0 v1 v2 : Int} {σ : Mem} (h : f_X11_verdict_b0 v0 v1 v2 σ = some o) : E sc (Fm Sh (some (0, o.1)) Sh o.2) mt_X11_verdict 5 Sh Sh 0 [(2, v0), (0, v1), (0, v2)] [] Sh σ := by
  unfold f_X11_verdict_b0 at h
  refine E_aload_n d_X11_verdict_0 rfl (by decide) ?_
  refine E_aload_n d_X11_verdict_1 rfl (by decide) ?_
  refine E_iload_n d_X11_verdict_2 rfl ?_
  refine E_iload_n d_X11_verdict_3 rfl ?_
  refine bd h (fun r1 q2 h => ?_)
  refine E_cV (as := [(0, v1), (0, v2)]) (st := [(2, v0)]) (a := v0) d_X11_verdict_4 mk_X11_guiltWhy nl_X11_274 (by omega) ⟨rfl, rfl, Nat.le_of_ble_eq_true rfl⟩ okX11 rfl (L_X11_guiltWhy q2) ?_
  refine bd h (fun r3 q4 h => ?_)
  refine E_cV (as := [(0, r1)]) (st := []) (a := v0) d_X11_verdict_7 mk_X11_refused nl_X11_132 (by omega) ⟨rfl, rfl, Nat.le_of_ble_eq_true rfl⟩ okX11 rfl (L_X11_refused q4) ?_
  refine E_if_eq (tgt := 15) d_X11_verdict_10 (by decide) h (fun _ h => ?_) (fun _ h => ?_)
  · refine E_aload_n d_X11_verdict_15 rfl (by decide) ?_
    refine E_get d_X11_verdict_16 okX11 fl_X11_31 ⟨by decide, rfl⟩ h (fun x5 h => ?_)
    refine E_iload_n d_X11_verdict_19 rfl ?_
    refine E_iload_n d_X11_verdict_20 rfl ?_
    refine E_iconst d_X11_verdict_21 (c32 rfl) ?_
    refine bd h (fun r6 q7 h => ?_)
    refine E_cV (as := [(0, v1), (0, v2), (0, 0)]) (st := []) (a := x5) d_X11_verdict_22 mk_X9_condemns nl_X11_327 (by omega) ⟨rfl, rfl, Nat.le_of_ble_eq_true rfl⟩ okX9 rfl (L_X9_condemns q7) ?_
    refine E_if_eq (tgt := 32) d_X11_verdict_25 (by decide) h (fun _ h => ?_) (fun _ h => ?_)
    · refine E_iconst d_X11_verdict_32 (c32 rfl) ?_
      cases h
      exact E_iret d_X11_verdict_33 rfl
    · refine E_iconst d_X11_verdict_28 (c32 rfl) ?_
      refine E_goto (tgt := 33) d_X11_verdict_29 (by decide) ?_
      cases h
      exact E_iret d_X11_verdict_33 rfl
  · refine E_iconst d_X11_verdict_13 (c32 rfl) ?_
    cases h
    exact E_iret d_X11_verdict_14 rfl
noncomputable def f_X11_verdict (v0 v1 v2 : Int) (σ : Mem) : Option (Int × Mem) := if isO Sh 11 v0 = true then f_X11_verdict_b0 v0 v1 v2 σ else none
theorem L_X11_verdict {o : Int × Mem} {v0 v1 v2 : Int} {σ : Mem} (h : f_X11_verdict v0 v1 v2 σ = some o) : (isO Sh 11 v0 = true ∧ Cn mt_X11_verdict 5 [(2, v0), (0, v1), (0, v2)] Sh σ (some (0, o.1)) Sh o.2) := ⟨(ite_ok h).1, Cn_of mk_X11_verdict.1.2.2.1 (Nat.le_of_ble_eq_true rfl) (fun sc => L_X11_verdict_b0 (ite_ok h).2)⟩
theorem d_X11_guiltOfStonesWhy_0 : decode mt_X11_guiltOfStonesWhy.2.1 0 = .ok (.iload_n 1, 1) := by decide +kernel
theorem d_X11_guiltOfStonesWhy_1 : decode mt_X11_guiltOfStonesWhy.2.1 1 = .ok (.i2l, 1) := by decide +kernel
theorem d_X11_guiltOfStonesWhy_2 : decode mt_X11_guiltOfStonesWhy.2.1 2 = .ok (.invokestatic 310, 3) := by decide +kernel
theorem d_X11_guiltOfStonesWhy_5 : decode mt_X11_guiltOfStonesWhy.2.1 5 = .ok (.ifCond .eq 7, 3) := by decide +kernel
theorem d_X11_guiltOfStonesWhy_8 : decode mt_X11_guiltOfStonesWhy.2.1 8 = .ok (.iload_n 2, 1) := by decide +kernel
theorem d_X11_guiltOfStonesWhy_9 : decode mt_X11_guiltOfStonesWhy.2.1 9 = .ok (.ifCond .ne 5, 3) := by decide +kernel
theorem d_X11_guiltOfStonesWhy_12 : decode mt_X11_guiltOfStonesWhy.2.1 12 = .ok (.iconst 5, 1) := by decide +kernel
theorem d_X11_guiltOfStonesWhy_13 : decode mt_X11_guiltOfStonesWhy.2.1 13 = .ok (.ireturn, 1) := by decide +kernel
theorem d_X11_guiltOfStonesWhy_14 : decode mt_X11_guiltOfStonesWhy.2.1 14 = .ok (.aload_n 0, 1) := by decide +kernel
theorem d_X11_guiltOfStonesWhy_15 : decode mt_X11_guiltOfStonesWhy.2.1 15 = .ok (.getfield 31, 3) := by decide +kernel
theorem d_X11_guiltOfStonesWhy_18 : decode mt_X11_guiltOfStonesWhy.2.1 18 = .ok (.getfield 236, 3) := by decide +kernel
theorem d_X11_guiltOfStonesWhy_21 : decode mt_X11_guiltOfStonesWhy.2.1 21 = .ok (.ifCond .ne 8, 3) := by decide +kernel
theorem d_X11_guiltOfStonesWhy_24 : decode mt_X11_guiltOfStonesWhy.2.1 24 = .ok (.bipush 8, 2) := by decide +kernel
theorem d_X11_guiltOfStonesWhy_26 : decode mt_X11_guiltOfStonesWhy.2.1 26 = .ok (.goto 4, 3) := by decide +kernel
theorem d_X11_guiltOfStonesWhy_29 : decode mt_X11_guiltOfStonesWhy.2.1 29 = .ok (.iconst 0, 1) := by decide +kernel
theorem d_X11_guiltOfStonesWhy_30 : decode mt_X11_guiltOfStonesWhy.2.1 30 = .ok (.ireturn, 1) := by decide +kernel
noncomputable def f_X11_guiltOfStonesWhy_b0 (v0 v1 v2 : Int) (σ : Mem) : Option (Int) :=
  (f_X11_isGuilt v1 σ).bind fun r1 =>
  if r1 = 0 then
    some (5)
  else
    if v2 = 0 then
      some (5)
    else
      (gf Sh σ 11 v0 3).bind fun x3 =>
      (gf Sh σ 9 x3 1).bind fun x4 =>
      if x4 = 0 then
        some (8)
      else
        some (0)
theorem L_X11_guiltOfStonesWhy_b0 {sc : Nat × (Nat → Int32)} {o : Int} {σ : Mem} {v0 v1 v2 : Int} (h : f_X11_guiltOfStonesWhy_b0 v0 v1 v2 σ = some o) : E sc (Fm Sh (some (0, o)) Sh σ) mt_X11_guiltOfStonesWhy 2 Sh Sh 0 [(2, v0), (0, v1), (0, v2)] [] Sh σ := by
  unfold f_X11_guiltOfStonesWhy_b0 at h
  refine E_iload_n d_X11_guiltOfStonesWhy_0 rfl ?_
  refine E_i2l d_X11_guiltOfStonesWhy_1 ?_
  refine bd h (fun r1 q2 h => ?_)
  refine E_cS (as := [(1, v1)]) (st := []) d_X11_guiltOfStonesWhy_2 mk_X11_isGuilt nl_X11_310 (by omega) ⟨rfl, rfl, Nat.le_of_ble_eq_true rfl⟩ (L_X11_isGuilt q2) ?_
  refine E_if_eq (tgt := 12) d_X11_guiltOfStonesWhy_5 (by decide) h (fun _ h => ?_) (fun _ h => ?_)
  · refine E_iconst d_X11_guiltOfStonesWhy_12 (c32 rfl) ?_
    cases h
    exact E_iret d_X11_guiltOfStonesWhy_13 rfl
  · refine E_iload_n d_X11_guiltOfStonesWhy_8 rfl ?_
    refine E_if_ne (tgt := 14) d_X11_guiltOfStonesWhy_9 (by decide) h (fun _ h => ?_) (fun _ h => ?_)
    · refine E_iconst d_X11_guiltOfStonesWhy_12 (c32 rfl) ?_
      cases h
      exact E_iret d_X11_guiltOfStonesWhy_13 rfl
    · refine E_aload_n d_X11_guiltOfStonesWhy_14 rfl (by decide) ?_
      refine E_get d_X11_guiltOfStonesWhy_15 okX11 fl_X11_31 ⟨by decide, rfl⟩ h (fun x3 h => ?_)
      refine E_get d_X11_guiltOfStonesWhy_18 okX9 fl_X11_236 ⟨by decide, rfl⟩ h (fun x4 h => ?_)
      refine E_if_ne (tgt := 29) d_X11_guiltOfStonesWhy_21 (by decide) h (fun _ h => ?_) (fun _ h => ?_)
      · refine E_bipush d_X11_guiltOfStonesWhy_24 (c8 rfl) ?_
        refine E_goto (tgt := 30) d_X11_guiltOfStonesWhy_26 (by decide) ?_
        cases h
        exact E_iret d_X11_guiltOfStonesWhy_30 rfl
      · refine E_iconst d_X11_guiltOfStonesWhy_29 (c32 rfl) ?_
        cases h
        exact E_iret d_X11_guiltOfStonesWhy_30 rfl
noncomputable def f_X11_guiltOfStonesWhy (v0 v1 v2 : Int) (σ : Mem) : Option (Int) := if isO Sh 11 v0 = true then f_X11_guiltOfStonesWhy_b0 v0 v1 v2 σ else none
theorem L_X11_guiltOfStonesWhy {o : Int} {v0 v1 v2 : Int} {σ : Mem} (h : f_X11_guiltOfStonesWhy v0 v1 v2 σ = some o) : (isO Sh 11 v0 = true ∧ Cn mt_X11_guiltOfStonesWhy 2 [(2, v0), (0, v1), (0, v2)] Sh σ (some (0, o)) Sh σ) := ⟨(ite_ok h).1, Cn_of mk_X11_guiltOfStonesWhy.1.2.2.1 (Nat.le_of_ble_eq_true rfl) (fun sc => L_X11_guiltOfStonesWhy_b0 (ite_ok h).2)⟩
theorem d_X11_stand_0 : decode mt_X11_stand.2.1 0 = .ok (.aload_n 0, 1) := by decide +kernel
theorem d_X11_stand_1 : decode mt_X11_stand.2.1 1 = .ok (.aload_n 0, 1) := by decide +kernel
theorem d_X11_stand_2 : decode mt_X11_stand.2.1 2 = .ok (.iload_n 1, 1) := by decide +kernel
theorem d_X11_stand_3 : decode mt_X11_stand.2.1 3 = .ok (.iconst 1, 1) := by decide +kernel
theorem d_X11_stand_4 : decode mt_X11_stand.2.1 4 = .ok (.invokevirtual 331, 3) := by decide +kernel
theorem d_X11_stand_7 : decode mt_X11_stand.2.1 7 = .ok (.invokevirtual 132, 3) := by decide +kernel
theorem d_X11_stand_10 : decode mt_X11_stand.2.1 10 = .ok (.ifCond .eq 5, 3) := by decide +kernel
theorem d_X11_stand_13 : decode mt_X11_stand.2.1 13 = .ok (.iconst (-1), 1) := by decide +kernel
theorem d_X11_stand_14 : decode mt_X11_stand.2.1 14 = .ok (.ireturn, 1) := by decide +kernel
theorem d_X11_stand_15 : decode mt_X11_stand.2.1 15 = .ok (.aload_n 0, 1) := by decide +kernel
theorem d_X11_stand_16 : decode mt_X11_stand.2.1 16 = .ok (.getfield 31, 3) := by decide +kernel
theorem d_X11_stand_19 : decode mt_X11_stand.2.1 19 = .ok (.iload_n 1, 1) := by decide +kernel
theorem d_X11_stand_20 : decode mt_X11_stand.2.1 20 = .ok (.iconst 1, 1) := by decide +kernel
theorem d_X11_stand_21 : decode mt_X11_stand.2.1 21 = .ok (.invokevirtual 334, 3) := by decide +kernel
theorem d_X11_stand_24 : decode mt_X11_stand.2.1 24 = .ok (.ireturn, 1) := by decide +kernel
noncomputable def f_X11_stand_b0 (v0 v1 : Int) (σ : Mem) : Option (Int × Mem) :=
  (f_X11_guiltOfStonesWhy v0 v1 1 σ).bind fun r1 =>
  (f_X11_refused v0 r1 σ).bind fun r3 =>
  if r3.1 = 0 then
    (gf Sh r3.2 11 v0 3).bind fun x5 =>
    (f_X9_bestPlace x5 v1 1 r3.2).bind fun r6 =>
    some (r6, r3.2)
  else
    some ((-1), r3.2)
theorem L_X11_stand_b0 {sc : Nat × (Nat → Int32)} {o : Int × Mem} {v0 v1 : Int} {σ : Mem} (h : f_X11_stand_b0 v0 v1 σ = some o) : E sc (Fm Sh (some (0, o.1)) Sh o.2) mt_X11_stand 6 Sh Sh 0 [(2, v0), (0, v1)] [] Sh σ := by
  unfold f_X11_stand_b0 at h
  refine E_aload_n d_X11_stand_0 rfl (by decide) ?_
  refine E_aload_n d_X11_stand_1 rfl (by decide) ?_
  refine E_iload_n d_X11_stand_2 rfl ?_
  refine E_iconst d_X11_stand_3 (c32 rfl) ?_
  refine bd h (fun r1 q2 h => ?_)
  refine E_cV (as := [(0, v1), (0, 1)]) (st := [(2, v0)]) (a := v0) d_X11_stand_4 mk_X11_guiltOfStonesWhy nl_X11_331 (by omega) ⟨rfl, rfl, Nat.le_of_ble_eq_true rfl⟩ okX11 rfl (L_X11_guiltOfStonesWhy q2) ?_
  refine bd h (fun r3 q4 h => ?_)
  refine E_cV (as := [(0, r1)]) (st := []) (a := v0) d_X11_stand_7 mk_X11_refused nl_X11_132 (by omega) ⟨rfl, rfl, Nat.le_of_ble_eq_true rfl⟩ okX11 rfl (L_X11_refused q4) ?_
  refine E_if_eq (tgt := 15) d_X11_stand_10 (by decide) h (fun _ h => ?_) (fun _ h => ?_)
  · refine E_aload_n d_X11_stand_15 rfl (by decide) ?_
    refine E_get d_X11_stand_16 okX11 fl_X11_31 ⟨by decide, rfl⟩ h (fun x5 h => ?_)
    refine E_iload_n d_X11_stand_19 rfl ?_
    refine E_iconst d_X11_stand_20 (c32 rfl) ?_
    refine bd h (fun r6 q7 h => ?_)
    refine E_cV (as := [(0, v1), (0, 1)]) (st := []) (a := x5) d_X11_stand_21 mk_X9_bestPlace nl_X11_334 (by omega) ⟨rfl, rfl, Nat.le_of_ble_eq_true rfl⟩ okX9 rfl (L_X9_bestPlace q7) ?_
    cases h
    exact E_iret d_X11_stand_24 rfl
  · refine E_iconst d_X11_stand_13 (c32 rfl) ?_
    cases h
    exact E_iret d_X11_stand_14 rfl
noncomputable def f_X11_stand (v0 v1 : Int) (σ : Mem) : Option (Int × Mem) := if isO Sh 11 v0 = true then f_X11_stand_b0 v0 v1 σ else none
theorem L_X11_stand {o : Int × Mem} {v0 v1 : Int} {σ : Mem} (h : f_X11_stand v0 v1 σ = some o) : (isO Sh 11 v0 = true ∧ Cn mt_X11_stand 6 [(2, v0), (0, v1)] Sh σ (some (0, o.1)) Sh o.2) := ⟨(ite_ok h).1, Cn_of mk_X11_stand.1.2.2.1 (Nat.le_of_ble_eq_true rfl) (fun sc => L_X11_stand_b0 (ite_ok h).2)⟩
theorem d_X11_fall_0 : decode mt_X11_fall.2.1 0 = .ok (.aload_n 0, 1) := by decide +kernel
theorem d_X11_fall_1 : decode mt_X11_fall.2.1 1 = .ok (.aload_n 0, 1) := by decide +kernel
theorem d_X11_fall_2 : decode mt_X11_fall.2.1 2 = .ok (.iload_n 1, 1) := by decide +kernel
theorem d_X11_fall_3 : decode mt_X11_fall.2.1 3 = .ok (.iconst 1, 1) := by decide +kernel
theorem d_X11_fall_4 : decode mt_X11_fall.2.1 4 = .ok (.invokevirtual 331, 3) := by decide +kernel
theorem d_X11_fall_7 : decode mt_X11_fall.2.1 7 = .ok (.invokevirtual 132, 3) := by decide +kernel
theorem d_X11_fall_10 : decode mt_X11_fall.2.1 10 = .ok (.ifCond .eq 5, 3) := by decide +kernel
theorem d_X11_fall_13 : decode mt_X11_fall.2.1 13 = .ok (.iconst (-1), 1) := by decide +kernel
theorem d_X11_fall_14 : decode mt_X11_fall.2.1 14 = .ok (.ireturn, 1) := by decide +kernel
theorem d_X11_fall_15 : decode mt_X11_fall.2.1 15 = .ok (.aload_n 0, 1) := by decide +kernel
theorem d_X11_fall_16 : decode mt_X11_fall.2.1 16 = .ok (.getfield 31, 3) := by decide +kernel
theorem d_X11_fall_19 : decode mt_X11_fall.2.1 19 = .ok (.iload_n 1, 1) := by decide +kernel
theorem d_X11_fall_20 : decode mt_X11_fall.2.1 20 = .ok (.iconst (-1), 1) := by decide +kernel
theorem d_X11_fall_21 : decode mt_X11_fall.2.1 21 = .ok (.invokevirtual 334, 3) := by decide +kernel
theorem d_X11_fall_24 : decode mt_X11_fall.2.1 24 = .ok (.ireturn, 1) := by decide +kernel
noncomputable def f_X11_fall_b0 (v0 v1 : Int) (σ : Mem) : Option (Int × Mem) :=
  (f_X11_guiltOfStonesWhy v0 v1 1 σ).bind fun r1 =>
  (f_X11_refused v0 r1 σ).bind fun r3 =>
  if r3.1 = 0 then
    (gf Sh r3.2 11 v0 3).bind fun x5 =>
    (f_X9_bestPlace x5 v1 (-1) r3.2).bind fun r6 =>
    some (r6, r3.2)
  else
    some ((-1), r3.2)
theorem L_X11_fall_b0 {sc : Nat × (Nat → Int32)} {o : Int × Mem} {v0 v1 : Int} {σ : Mem} (h : f_X11_fall_b0 v0 v1 σ = some o) : E sc (Fm Sh (some (0, o.1)) Sh o.2) mt_X11_fall 6 Sh Sh 0 [(2, v0), (0, v1)] [] Sh σ := by
  unfold f_X11_fall_b0 at h
  refine E_aload_n d_X11_fall_0 rfl (by decide) ?_
  refine E_aload_n d_X11_fall_1 rfl (by decide) ?_
  refine E_iload_n d_X11_fall_2 rfl ?_
  refine E_iconst d_X11_fall_3 (c32 rfl) ?_
  refine bd h (fun r1 q2 h => ?_)
  refine E_cV (as := [(0, v1), (0, 1)]) (st := [(2, v0)]) (a := v0) d_X11_fall_4 mk_X11_guiltOfStonesWhy nl_X11_331 (by omega) ⟨rfl, rfl, Nat.le_of_ble_eq_true rfl⟩ okX11 rfl (L_X11_guiltOfStonesWhy q2) ?_
  refine bd h (fun r3 q4 h => ?_)
  refine E_cV (as := [(0, r1)]) (st := []) (a := v0) d_X11_fall_7 mk_X11_refused nl_X11_132 (by omega) ⟨rfl, rfl, Nat.le_of_ble_eq_true rfl⟩ okX11 rfl (L_X11_refused q4) ?_
  refine E_if_eq (tgt := 15) d_X11_fall_10 (by decide) h (fun _ h => ?_) (fun _ h => ?_)
  · refine E_aload_n d_X11_fall_15 rfl (by decide) ?_
    refine E_get d_X11_fall_16 okX11 fl_X11_31 ⟨by decide, rfl⟩ h (fun x5 h => ?_)
    refine E_iload_n d_X11_fall_19 rfl ?_
    refine E_iconst d_X11_fall_20 (c32 rfl) ?_
    refine bd h (fun r6 q7 h => ?_)
    refine E_cV (as := [(0, v1), (0, (-1))]) (st := []) (a := x5) d_X11_fall_21 mk_X9_bestPlace nl_X11_334 (by omega) ⟨rfl, rfl, Nat.le_of_ble_eq_true rfl⟩ okX9 rfl (L_X9_bestPlace q7) ?_
    cases h
    exact E_iret d_X11_fall_24 rfl
  · refine E_iconst d_X11_fall_13 (c32 rfl) ?_
    cases h
    exact E_iret d_X11_fall_14 rfl
noncomputable def f_X11_fall (v0 v1 : Int) (σ : Mem) : Option (Int × Mem) := if isO Sh 11 v0 = true then f_X11_fall_b0 v0 v1 σ else none
theorem L_X11_fall {o : Int × Mem} {v0 v1 : Int} {σ : Mem} (h : f_X11_fall v0 v1 σ = some o) : (isO Sh 11 v0 = true ∧ Cn mt_X11_fall 6 [(2, v0), (0, v1)] Sh σ (some (0, o.1)) Sh o.2) := ⟨(ite_ok h).1, Cn_of mk_X11_fall.1.2.2.1 (Nat.le_of_ble_eq_true rfl) (fun sc => L_X11_fall_b0 (ite_ok h).2)⟩
theorem d_X11_least_0 : decode mt_X11_least.2.1 0 = .ok (.iconst (-1), 1) := by decide +kernel
theorem d_X11_least_1 : decode mt_X11_least.2.1 1 = .ok (.istore_n 2, 1) := by decide +kernel
theorem d_X11_least_2 : decode mt_X11_least.2.1 2 = .ok (.iconst 2, 1) := by decide +kernel
theorem d_X11_least_3 : decode mt_X11_least.2.1 3 = .ok (.istore_n 3, 1) := by decide +kernel
theorem d_X11_least_4 : decode mt_X11_least.2.1 4 = .ok (.aload_n 0, 1) := by decide +kernel
theorem d_X11_least_5 : decode mt_X11_least.2.1 5 = .ok (.getfield 31, 3) := by decide +kernel
theorem d_X11_least_8 : decode mt_X11_least.2.1 8 = .ok (.iload_n 1, 1) := by decide +kernel
theorem d_X11_least_9 : decode mt_X11_least.2.1 9 = .ok (.i2l, 1) := by decide +kernel
theorem d_X11_least_10 : decode mt_X11_least.2.1 10 = .ok (.invokevirtual 290, 3) := by decide +kernel
theorem d_X11_least_13 : decode mt_X11_least.2.1 13 = .ok (.ifCond .eq 24, 3) := by decide +kernel
theorem d_X11_least_16 : decode mt_X11_least.2.1 16 = .ok (.aload_n 0, 1) := by decide +kernel
theorem d_X11_least_17 : decode mt_X11_least.2.1 17 = .ok (.getfield 31, 3) := by decide +kernel
theorem d_X11_least_20 : decode mt_X11_least.2.1 20 = .ok (.iload_n 1, 1) := by decide +kernel
theorem d_X11_least_21 : decode mt_X11_least.2.1 21 = .ok (.invokevirtual 337, 3) := by decide +kernel
theorem d_X11_least_24 : decode mt_X11_least.2.1 24 = .ok (.istore_n 2, 1) := by decide +kernel
theorem d_X11_least_25 : decode mt_X11_least.2.1 25 = .ok (.iload_n 2, 1) := by decide +kernel
theorem d_X11_least_26 : decode mt_X11_least.2.1 26 = .ok (.iconst (-1), 1) := by decide +kernel
theorem d_X11_least_27 : decode mt_X11_least.2.1 27 = .ok (.if_icmp .ne 8, 3) := by decide +kernel
theorem d_X11_least_30 : decode mt_X11_least.2.1 30 = .ok (.bipush 8, 2) := by decide +kernel
theorem d_X11_least_32 : decode mt_X11_least.2.1 32 = .ok (.goto 4, 3) := by decide +kernel
theorem d_X11_least_35 : decode mt_X11_least.2.1 35 = .ok (.iconst 0, 1) := by decide +kernel
theorem d_X11_least_36 : decode mt_X11_least.2.1 36 = .ok (.istore_n 3, 1) := by decide +kernel
theorem d_X11_least_37 : decode mt_X11_least.2.1 37 = .ok (.aload_n 0, 1) := by decide +kernel
theorem d_X11_least_38 : decode mt_X11_least.2.1 38 = .ok (.iload_n 3, 1) := by decide +kernel
theorem d_X11_least_39 : decode mt_X11_least.2.1 39 = .ok (.invokevirtual 132, 3) := by decide +kernel
theorem d_X11_least_42 : decode mt_X11_least.2.1 42 = .ok (.ifCond .eq 7, 3) := by decide +kernel
theorem d_X11_least_45 : decode mt_X11_least.2.1 45 = .ok (.iconst (-1), 1) := by decide +kernel
theorem d_X11_least_46 : decode mt_X11_least.2.1 46 = .ok (.goto 4, 3) := by decide +kernel
theorem d_X11_least_49 : decode mt_X11_least.2.1 49 = .ok (.iload_n 2, 1) := by decide +kernel
theorem d_X11_least_50 : decode mt_X11_least.2.1 50 = .ok (.ireturn, 1) := by decide +kernel
noncomputable def f_X11_least_b37 (v0 v2 v3 : Int) (σ : Mem) : Option (Int × Mem) :=
  (f_X11_refused v0 v3 σ).bind fun r7 =>
  if r7.1 = 0 then
    some (v2, r7.2)
  else
    some ((-1), r7.2)
theorem L_X11_least_b37 {sc : Nat × (Nat → Int32)} {o : Int × Mem} {v0 v2 v3 : Int} {σ : Mem} (h : f_X11_least_b37 v0 v2 v3 σ = some o) : E sc (Fm Sh (some (0, o.1)) Sh o.2) mt_X11_least 6 Sh Sh 37 [(2, v0), (9, 0), (0, v2), (0, v3)] [] Sh σ := by
  unfold f_X11_least_b37 at h
  refine E_aload_n d_X11_least_37 rfl (by decide) ?_
  refine E_iload_n d_X11_least_38 rfl ?_
  refine bd h (fun r7 q8 h => ?_)
  refine E_cV (as := [(0, v3)]) (st := []) (a := v0) d_X11_least_39 mk_X11_refused nl_X11_132 (by omega) ⟨rfl, rfl, Nat.le_of_ble_eq_true rfl⟩ okX11 rfl (L_X11_refused q8) ?_
  refine E_if_eq (tgt := 49) d_X11_least_42 (by decide) h (fun _ h => ?_) (fun _ h => ?_)
  · refine E_iload_n d_X11_least_49 rfl ?_
    cases h
    exact E_iret d_X11_least_50 rfl
  · refine E_iconst d_X11_least_45 (c32 rfl) ?_
    refine E_goto (tgt := 50) d_X11_least_46 (by decide) ?_
    cases h
    exact E_iret d_X11_least_50 rfl
noncomputable def f_X11_least_b36 (v0 v2 s0 : Int) (σ : Mem) : Option (Int × Mem) :=
  f_X11_least_b37 v0 v2 s0 σ
theorem L_X11_least_b36 {sc : Nat × (Nat → Int32)} {o : Int × Mem} {v0 v2 s0 : Int} {σ : Mem} (h : f_X11_least_b36 v0 v2 s0 σ = some o) : E sc (Fm Sh (some (0, o.1)) Sh o.2) mt_X11_least 6 Sh Sh 36 [(2, v0), (9, 0), (0, v2), (9, 0)] [(0, s0)] Sh σ := by
  unfold f_X11_least_b36 at h
  refine E_istore_n d_X11_least_36 (ls' := [(2, v0), (9, 0), (0, v2), (0, s0)]) ⟨by decide, rfl⟩ ?_
  exact (L_X11_least_b37 h)
noncomputable def f_X11_least_b0 (v0 v1 : Int) (σ : Mem) : Option (Int × Mem) :=
  (gf Sh σ 11 v0 3).bind fun x1 =>
  (f_X9_isPlace x1 v1 σ).bind fun r2 =>
  if r2 = 0 then
    f_X11_least_b37 v0 (-1) 2 σ
  else
    (gf Sh σ 11 v0 3).bind fun x4 =>
    (f_X9_leastGuilt x4 v1 σ).bind fun r5 =>
    if r5 = (-1) then
      f_X11_least_b36 v0 r5 8 σ
    else
      f_X11_least_b36 v0 r5 0 σ
theorem L_X11_least_b0 {sc : Nat × (Nat → Int32)} {o : Int × Mem} {v0 v1 : Int} {σ : Mem} (h : f_X11_least_b0 v0 v1 σ = some o) : E sc (Fm Sh (some (0, o.1)) Sh o.2) mt_X11_least 6 Sh Sh 0 [(2, v0), (0, v1), (9, 0), (9, 0)] [] Sh σ := by
  unfold f_X11_least_b0 at h
  refine E_iconst d_X11_least_0 (c32 rfl) ?_
  refine E_istore_n d_X11_least_1 (ls' := [(2, v0), (0, v1), (0, (-1)), (9, 0)]) ⟨by decide, rfl⟩ ?_
  refine E_iconst d_X11_least_2 (c32 rfl) ?_
  refine E_istore_n d_X11_least_3 (ls' := [(2, v0), (0, v1), (0, (-1)), (0, 2)]) ⟨by decide, rfl⟩ ?_
  refine E_aload_n d_X11_least_4 rfl (by decide) ?_
  refine E_get d_X11_least_5 okX11 fl_X11_31 ⟨by decide, rfl⟩ h (fun x1 h => ?_)
  refine E_iload_n d_X11_least_8 rfl ?_
  refine E_i2l d_X11_least_9 ?_
  refine bd h (fun r2 q3 h => ?_)
  refine E_cV (as := [(1, v1)]) (st := []) (a := x1) d_X11_least_10 mk_X9_isPlace nl_X11_290 (by omega) ⟨rfl, rfl, Nat.le_of_ble_eq_true rfl⟩ okX9 rfl (L_X9_isPlace q3) ?_
  refine E_if_eq (tgt := 37) d_X11_least_13 (by decide) h (fun _ h => ?_) (fun _ h => ?_)
  · exact E_weak (ls' := [(2, v0), (9, 0), (0, (-1)), (0, 2)]) ⟨Or.inr rfl, Or.inl rfl, Or.inr rfl, Or.inr rfl, trivial⟩ (L_X11_least_b37 h)
  · refine E_aload_n d_X11_least_16 rfl (by decide) ?_
    refine E_get d_X11_least_17 okX11 fl_X11_31 ⟨by decide, rfl⟩ h (fun x4 h => ?_)
    refine E_iload_n d_X11_least_20 rfl ?_
    refine bd h (fun r5 q6 h => ?_)
    refine E_cV (as := [(0, v1)]) (st := []) (a := x4) d_X11_least_21 mk_X9_leastGuilt nl_X11_337 (by omega) ⟨rfl, rfl, Nat.le_of_ble_eq_true rfl⟩ okX9 rfl (L_X9_leastGuilt q6) ?_
    refine E_istore_n d_X11_least_24 (ls' := [(2, v0), (0, v1), (0, r5), (0, 2)]) ⟨by decide, rfl⟩ ?_
    refine E_iload_n d_X11_least_25 rfl ?_
    refine E_iconst d_X11_least_26 (c32 rfl) ?_
    refine E_icmp_ne (tgt := 35) d_X11_least_27 (by decide) h (fun _ h => ?_) (fun _ h => ?_)
    · refine E_bipush d_X11_least_30 (c8 rfl) ?_
      refine E_goto (tgt := 36) d_X11_least_32 (by decide) ?_
      exact E_weak (ls' := [(2, v0), (9, 0), (0, r5), (9, 0)]) ⟨Or.inr rfl, Or.inl rfl, Or.inr rfl, Or.inl rfl, trivial⟩ (L_X11_least_b36 h)
    · refine E_iconst d_X11_least_35 (c32 rfl) ?_
      exact E_weak (ls' := [(2, v0), (9, 0), (0, r5), (9, 0)]) ⟨Or.inr rfl, Or.inl rfl, Or.inr rfl, Or.inl rfl, trivial⟩ (L_X11_least_b36 h)
noncomputable def f_X11_least (v0 v1 : Int) (σ : Mem) : Option (Int × Mem) := if isO Sh 11 v0 = true then f_X11_least_b0 v0 v1 σ else none
theorem L_X11_least {o : Int × Mem} {v0 v1 : Int} {σ : Mem} (h : f_X11_least v0 v1 σ = some o) : (isO Sh 11 v0 = true ∧ Cn mt_X11_least 6 [(2, v0), (0, v1)] Sh σ (some (0, o.1)) Sh o.2) := ⟨(ite_ok h).1, Cn_of mk_X11_least.1.2.2.1 (Nat.le_of_ble_eq_true rfl) (fun sc => L_X11_least_b0 (ite_ok h).2)⟩
theorem d_X11_freeIn_0 : decode mt_X11_freeIn.2.1 0 = .ok (.iconst (-1), 1) := by decide +kernel
theorem d_X11_freeIn_1 : decode mt_X11_freeIn.2.1 1 = .ok (.istore_n 3, 1) := by decide +kernel
theorem d_X11_freeIn_2 : decode mt_X11_freeIn.2.1 2 = .ok (.aload_n 0, 1) := by decide +kernel
theorem d_X11_freeIn_3 : decode mt_X11_freeIn.2.1 3 = .ok (.iload_n 1, 1) := by decide +kernel
theorem d_X11_freeIn_4 : decode mt_X11_freeIn.2.1 4 = .ok (.iload_n 2, 1) := by decide +kernel
theorem d_X11_freeIn_5 : decode mt_X11_freeIn.2.1 5 = .ok (.invokevirtual 274, 3) := by decide +kernel
theorem d_X11_freeIn_8 : decode mt_X11_freeIn.2.1 8 = .ok (.istore 4, 2) := by decide +kernel
theorem d_X11_freeIn_10 : decode mt_X11_freeIn.2.1 10 = .ok (.iload 4, 2) := by decide +kernel
theorem d_X11_freeIn_12 : decode mt_X11_freeIn.2.1 12 = .ok (.ifCond .ne 26, 3) := by decide +kernel
theorem d_X11_freeIn_15 : decode mt_X11_freeIn.2.1 15 = .ok (.aload_n 0, 1) := by decide +kernel
theorem d_X11_freeIn_16 : decode mt_X11_freeIn.2.1 16 = .ok (.getfield 31, 3) := by decide +kernel
theorem d_X11_freeIn_19 : decode mt_X11_freeIn.2.1 19 = .ok (.iload_n 1, 1) := by decide +kernel
theorem d_X11_freeIn_20 : decode mt_X11_freeIn.2.1 20 = .ok (.iload_n 2, 1) := by decide +kernel
theorem d_X11_freeIn_21 : decode mt_X11_freeIn.2.1 21 = .ok (.invokevirtual 340, 3) := by decide +kernel
theorem d_X11_freeIn_24 : decode mt_X11_freeIn.2.1 24 = .ok (.istore_n 3, 1) := by decide +kernel
theorem d_X11_freeIn_25 : decode mt_X11_freeIn.2.1 25 = .ok (.iload_n 3, 1) := by decide +kernel
theorem d_X11_freeIn_26 : decode mt_X11_freeIn.2.1 26 = .ok (.iconst (-1), 1) := by decide +kernel
theorem d_X11_freeIn_27 : decode mt_X11_freeIn.2.1 27 = .ok (.if_icmp .ne 8, 3) := by decide +kernel
theorem d_X11_freeIn_30 : decode mt_X11_freeIn.2.1 30 = .ok (.bipush 8, 2) := by decide +kernel
theorem d_X11_freeIn_32 : decode mt_X11_freeIn.2.1 32 = .ok (.goto 4, 3) := by decide +kernel
theorem d_X11_freeIn_35 : decode mt_X11_freeIn.2.1 35 = .ok (.iconst 0, 1) := by decide +kernel
theorem d_X11_freeIn_36 : decode mt_X11_freeIn.2.1 36 = .ok (.istore 4, 2) := by decide +kernel
theorem d_X11_freeIn_38 : decode mt_X11_freeIn.2.1 38 = .ok (.aload_n 0, 1) := by decide +kernel
theorem d_X11_freeIn_39 : decode mt_X11_freeIn.2.1 39 = .ok (.iload 4, 2) := by decide +kernel
theorem d_X11_freeIn_41 : decode mt_X11_freeIn.2.1 41 = .ok (.invokevirtual 132, 3) := by decide +kernel
theorem d_X11_freeIn_44 : decode mt_X11_freeIn.2.1 44 = .ok (.ifCond .eq 7, 3) := by decide +kernel
theorem d_X11_freeIn_47 : decode mt_X11_freeIn.2.1 47 = .ok (.iconst (-1), 1) := by decide +kernel
theorem d_X11_freeIn_48 : decode mt_X11_freeIn.2.1 48 = .ok (.goto 4, 3) := by decide +kernel
theorem d_X11_freeIn_51 : decode mt_X11_freeIn.2.1 51 = .ok (.iload_n 3, 1) := by decide +kernel
theorem d_X11_freeIn_52 : decode mt_X11_freeIn.2.1 52 = .ok (.ireturn, 1) := by decide +kernel
noncomputable def f_X11_freeIn_b38 (v0 v3 v4 : Int) (σ : Mem) : Option (Int × Mem) :=
  (f_X11_refused v0 v4 σ).bind fun r6 =>
  if r6.1 = 0 then
    some (v3, r6.2)
  else
    some ((-1), r6.2)
theorem L_X11_freeIn_b38 {sc : Nat × (Nat → Int32)} {o : Int × Mem} {v0 v3 v4 : Int} {σ : Mem} (h : f_X11_freeIn_b38 v0 v3 v4 σ = some o) : E sc (Fm Sh (some (0, o.1)) Sh o.2) mt_X11_freeIn 6 Sh Sh 38 [(2, v0), (9, 0), (9, 0), (0, v3), (0, v4)] [] Sh σ := by
  unfold f_X11_freeIn_b38 at h
  refine E_aload_n d_X11_freeIn_38 rfl (by decide) ?_
  refine E_iload d_X11_freeIn_39 rfl ?_
  refine bd h (fun r6 q7 h => ?_)
  refine E_cV (as := [(0, v4)]) (st := []) (a := v0) d_X11_freeIn_41 mk_X11_refused nl_X11_132 (by omega) ⟨rfl, rfl, Nat.le_of_ble_eq_true rfl⟩ okX11 rfl (L_X11_refused q7) ?_
  refine E_if_eq (tgt := 51) d_X11_freeIn_44 (by decide) h (fun _ h => ?_) (fun _ h => ?_)
  · refine E_iload_n d_X11_freeIn_51 rfl ?_
    cases h
    exact E_iret d_X11_freeIn_52 rfl
  · refine E_iconst d_X11_freeIn_47 (c32 rfl) ?_
    refine E_goto (tgt := 52) d_X11_freeIn_48 (by decide) ?_
    cases h
    exact E_iret d_X11_freeIn_52 rfl
noncomputable def f_X11_freeIn_b36 (v0 v3 s0 : Int) (σ : Mem) : Option (Int × Mem) :=
  f_X11_freeIn_b38 v0 v3 s0 σ
theorem L_X11_freeIn_b36 {sc : Nat × (Nat → Int32)} {o : Int × Mem} {v0 v3 s0 : Int} {σ : Mem} (h : f_X11_freeIn_b36 v0 v3 s0 σ = some o) : E sc (Fm Sh (some (0, o.1)) Sh o.2) mt_X11_freeIn 6 Sh Sh 36 [(2, v0), (9, 0), (9, 0), (0, v3), (9, 0)] [(0, s0)] Sh σ := by
  unfold f_X11_freeIn_b36 at h
  refine E_istore d_X11_freeIn_36 (ls' := [(2, v0), (9, 0), (9, 0), (0, v3), (0, s0)]) ⟨by decide, rfl⟩ ?_
  exact (L_X11_freeIn_b38 h)
noncomputable def f_X11_freeIn_b0 (v0 v1 v2 : Int) (σ : Mem) : Option (Int × Mem) :=
  (f_X11_guiltWhy v0 v1 v2 σ).bind fun r1 =>
  if r1 = 0 then
    (gf Sh σ 11 v0 3).bind fun x3 =>
    (f_X9_yearsToFree x3 v1 v2 σ).bind fun r4 =>
    if r4 = (-1) then
      f_X11_freeIn_b36 v0 r4 8 σ
    else
      f_X11_freeIn_b36 v0 r4 0 σ
  else
    f_X11_freeIn_b38 v0 (-1) r1 σ
theorem L_X11_freeIn_b0 {sc : Nat × (Nat → Int32)} {o : Int × Mem} {v0 v1 v2 : Int} {σ : Mem} (h : f_X11_freeIn_b0 v0 v1 v2 σ = some o) : E sc (Fm Sh (some (0, o.1)) Sh o.2) mt_X11_freeIn 6 Sh Sh 0 [(2, v0), (0, v1), (0, v2), (9, 0), (9, 0)] [] Sh σ := by
  unfold f_X11_freeIn_b0 at h
  refine E_iconst d_X11_freeIn_0 (c32 rfl) ?_
  refine E_istore_n d_X11_freeIn_1 (ls' := [(2, v0), (0, v1), (0, v2), (0, (-1)), (9, 0)]) ⟨by decide, rfl⟩ ?_
  refine E_aload_n d_X11_freeIn_2 rfl (by decide) ?_
  refine E_iload_n d_X11_freeIn_3 rfl ?_
  refine E_iload_n d_X11_freeIn_4 rfl ?_
  refine bd h (fun r1 q2 h => ?_)
  refine E_cV (as := [(0, v1), (0, v2)]) (st := []) (a := v0) d_X11_freeIn_5 mk_X11_guiltWhy nl_X11_274 (by omega) ⟨rfl, rfl, Nat.le_of_ble_eq_true rfl⟩ okX11 rfl (L_X11_guiltWhy q2) ?_
  refine E_istore d_X11_freeIn_8 (ls' := [(2, v0), (0, v1), (0, v2), (0, (-1)), (0, r1)]) ⟨by decide, rfl⟩ ?_
  refine E_iload d_X11_freeIn_10 rfl ?_
  refine E_if_ne (tgt := 38) d_X11_freeIn_12 (by decide) h (fun _ h => ?_) (fun _ h => ?_)
  · refine E_aload_n d_X11_freeIn_15 rfl (by decide) ?_
    refine E_get d_X11_freeIn_16 okX11 fl_X11_31 ⟨by decide, rfl⟩ h (fun x3 h => ?_)
    refine E_iload_n d_X11_freeIn_19 rfl ?_
    refine E_iload_n d_X11_freeIn_20 rfl ?_
    refine bd h (fun r4 q5 h => ?_)
    refine E_cV (as := [(0, v1), (0, v2)]) (st := []) (a := x3) d_X11_freeIn_21 mk_X9_yearsToFree nl_X11_340 (by omega) ⟨rfl, rfl, Nat.le_of_ble_eq_true rfl⟩ okX9 rfl (L_X9_yearsToFree q5) ?_
    refine E_istore_n d_X11_freeIn_24 (ls' := [(2, v0), (0, v1), (0, v2), (0, r4), (0, r1)]) ⟨by decide, rfl⟩ ?_
    refine E_iload_n d_X11_freeIn_25 rfl ?_
    refine E_iconst d_X11_freeIn_26 (c32 rfl) ?_
    refine E_icmp_ne (tgt := 35) d_X11_freeIn_27 (by decide) h (fun _ h => ?_) (fun _ h => ?_)
    · refine E_bipush d_X11_freeIn_30 (c8 rfl) ?_
      refine E_goto (tgt := 36) d_X11_freeIn_32 (by decide) ?_
      exact E_weak (ls' := [(2, v0), (9, 0), (9, 0), (0, r4), (9, 0)]) ⟨Or.inr rfl, Or.inl rfl, Or.inl rfl, Or.inr rfl, Or.inl rfl, trivial⟩ (L_X11_freeIn_b36 h)
    · refine E_iconst d_X11_freeIn_35 (c32 rfl) ?_
      exact E_weak (ls' := [(2, v0), (9, 0), (9, 0), (0, r4), (9, 0)]) ⟨Or.inr rfl, Or.inl rfl, Or.inl rfl, Or.inr rfl, Or.inl rfl, trivial⟩ (L_X11_freeIn_b36 h)
  · exact E_weak (ls' := [(2, v0), (9, 0), (9, 0), (0, (-1)), (0, r1)]) ⟨Or.inr rfl, Or.inl rfl, Or.inl rfl, Or.inr rfl, Or.inr rfl, trivial⟩ (L_X11_freeIn_b38 h)
noncomputable def f_X11_freeIn (v0 v1 v2 : Int) (σ : Mem) : Option (Int × Mem) := if isO Sh 11 v0 = true then f_X11_freeIn_b0 v0 v1 v2 σ else none
theorem L_X11_freeIn {o : Int × Mem} {v0 v1 v2 : Int} {σ : Mem} (h : f_X11_freeIn v0 v1 v2 σ = some o) : (isO Sh 11 v0 = true ∧ Cn mt_X11_freeIn 6 [(2, v0), (0, v1), (0, v2)] Sh σ (some (0, o.1)) Sh o.2) := ⟨(ite_ok h).1, Cn_of mk_X11_freeIn.1.2.2.1 (Nat.le_of_ble_eq_true rfl) (fun sc => L_X11_freeIn_b0 (ite_ok h).2)⟩
theorem d_X11_threesWhy_0 : decode mt_X11_threesWhy.2.1 0 = .ok (.iload_n 1, 1) := by decide +kernel
theorem d_X11_threesWhy_1 : decode mt_X11_threesWhy.2.1 1 = .ok (.invokestatic 125, 3) := by decide +kernel
theorem d_X11_threesWhy_4 : decode mt_X11_threesWhy.2.1 4 = .ok (.ifCond .ne 5, 3) := by decide +kernel
theorem d_X11_threesWhy_7 : decode mt_X11_threesWhy.2.1 7 = .ok (.iconst 1, 1) := by decide +kernel
theorem d_X11_threesWhy_8 : decode mt_X11_threesWhy.2.1 8 = .ok (.ireturn, 1) := by decide +kernel
theorem d_X11_threesWhy_9 : decode mt_X11_threesWhy.2.1 9 = .ok (.aload_n 0, 1) := by decide +kernel
theorem d_X11_threesWhy_10 : decode mt_X11_threesWhy.2.1 10 = .ok (.getfield 11, 3) := by decide +kernel
theorem d_X11_threesWhy_13 : decode mt_X11_threesWhy.2.1 13 = .ok (.iload_n 1, 1) := by decide +kernel
theorem d_X11_threesWhy_14 : decode mt_X11_threesWhy.2.1 14 = .ok (.aaload, 1) := by decide +kernel
theorem d_X11_threesWhy_15 : decode mt_X11_threesWhy.2.1 15 = .ok (.invokevirtual 163, 3) := by decide +kernel
theorem d_X11_threesWhy_18 : decode mt_X11_threesWhy.2.1 18 = .ok (.ifCond .eq 5, 3) := by decide +kernel
theorem d_X11_threesWhy_21 : decode mt_X11_threesWhy.2.1 21 = .ok (.iconst 3, 1) := by decide +kernel
theorem d_X11_threesWhy_22 : decode mt_X11_threesWhy.2.1 22 = .ok (.ireturn, 1) := by decide +kernel
theorem d_X11_threesWhy_23 : decode mt_X11_threesWhy.2.1 23 = .ok (.ldc2_w 374, 3) := by decide +kernel
theorem d_X11_threesWhy_26 : decode mt_X11_threesWhy.2.1 26 = .ok (.iload_n 2, 1) := by decide +kernel
theorem d_X11_threesWhy_27 : decode mt_X11_threesWhy.2.1 27 = .ok (.i2l, 1) := by decide +kernel
theorem d_X11_threesWhy_28 : decode mt_X11_threesWhy.2.1 28 = .ok (.lmul, 1) := by decide +kernel
theorem d_X11_threesWhy_29 : decode mt_X11_threesWhy.2.1 29 = .ok (.aload_n 0, 1) := by decide +kernel
theorem d_X11_threesWhy_30 : decode mt_X11_threesWhy.2.1 30 = .ok (.getfield 11, 3) := by decide +kernel
theorem d_X11_threesWhy_33 : decode mt_X11_threesWhy.2.1 33 = .ok (.iload_n 1, 1) := by decide +kernel
theorem d_X11_threesWhy_34 : decode mt_X11_threesWhy.2.1 34 = .ok (.aaload, 1) := by decide +kernel
theorem d_X11_threesWhy_35 : decode mt_X11_threesWhy.2.1 35 = .ok (.getfield 376, 3) := by decide +kernel
theorem d_X11_threesWhy_38 : decode mt_X11_threesWhy.2.1 38 = .ok (.i2l, 1) := by decide +kernel
theorem d_X11_threesWhy_39 : decode mt_X11_threesWhy.2.1 39 = .ok (.lcmp, 1) := by decide +kernel
theorem d_X11_threesWhy_40 : decode mt_X11_threesWhy.2.1 40 = .ok (.ifCond .le 5, 3) := by decide +kernel
theorem d_X11_threesWhy_43 : decode mt_X11_threesWhy.2.1 43 = .ok (.iconst 4, 1) := by decide +kernel
theorem d_X11_threesWhy_44 : decode mt_X11_threesWhy.2.1 44 = .ok (.ireturn, 1) := by decide +kernel
theorem d_X11_threesWhy_45 : decode mt_X11_threesWhy.2.1 45 = .ok (.iload_n 2, 1) := by decide +kernel
theorem d_X11_threesWhy_46 : decode mt_X11_threesWhy.2.1 46 = .ok (.ifCond .lt 8, 3) := by decide +kernel
theorem d_X11_threesWhy_49 : decode mt_X11_threesWhy.2.1 49 = .ok (.iload_n 2, 1) := by decide +kernel
theorem d_X11_threesWhy_50 : decode mt_X11_threesWhy.2.1 50 = .ok (.iload_n 3, 1) := by decide +kernel
theorem d_X11_threesWhy_51 : decode mt_X11_threesWhy.2.1 51 = .ok (.if_icmp .le 7, 3) := by decide +kernel
theorem d_X11_threesWhy_54 : decode mt_X11_threesWhy.2.1 54 = .ok (.iconst 5, 1) := by decide +kernel
theorem d_X11_threesWhy_55 : decode mt_X11_threesWhy.2.1 55 = .ok (.goto 4, 3) := by decide +kernel
theorem d_X11_threesWhy_58 : decode mt_X11_threesWhy.2.1 58 = .ok (.iconst 0, 1) := by decide +kernel
theorem d_X11_threesWhy_59 : decode mt_X11_threesWhy.2.1 59 = .ok (.ireturn, 1) := by decide +kernel
noncomputable def f_X11_threesWhy_b54 (σ : Mem) : Option (Int) :=
  some (5)
theorem L_X11_threesWhy_b54 {sc : Nat × (Nat → Int32)} {o : Int} {σ : Mem} (h : f_X11_threesWhy_b54  σ = some o) : E sc (Fm Sh (some (0, o)) Sh σ) mt_X11_threesWhy 2 Sh Sh 54 [(9, 0), (9, 0), (9, 0), (9, 0)] [] Sh σ := by
  unfold f_X11_threesWhy_b54 at h
  refine E_iconst d_X11_threesWhy_54 (c32 rfl) ?_
  refine E_goto (tgt := 59) d_X11_threesWhy_55 (by decide) ?_
  cases h
  exact E_iret d_X11_threesWhy_59 rfl
noncomputable def f_X11_threesWhy_b0 (v0 v1 v2 v3 : Int) (σ : Mem) : Option (Int) :=
  (f_X11_isTray v1 σ).bind fun r1 =>
  if r1 = 0 then
    some (1)
  else
    (gf Sh σ 11 v0 0).bind fun x3 =>
    (al Sh σ 38 x3 v1).bind fun x4 =>
    (f_X8_isMissing x4 σ).bind fun r5 =>
    if r5 = 0 then
      (gf Sh σ 11 v0 0).bind fun x7 =>
      (al Sh σ 38 x7 v1).bind fun x8 =>
      (gf Sh σ 8 x8 2).bind fun x9 =>
      if lcmp (w64 (3 * v2)) x9 ≤ 0 then
        if v2 < 0 then
          f_X11_threesWhy_b54  σ
        else
          if v2 ≤ v3 then
            some (0)
          else
            f_X11_threesWhy_b54  σ
      else
        some (4)
    else
      some (3)
theorem L_X11_threesWhy_b0 {sc : Nat × (Nat → Int32)} {o : Int} {σ : Mem} {v0 v1 v2 v3 : Int} (h : f_X11_threesWhy_b0 v0 v1 v2 v3 σ = some o) : E sc (Fm Sh (some (0, o)) Sh σ) mt_X11_threesWhy 2 Sh Sh 0 [(2, v0), (0, v1), (0, v2), (0, v3)] [] Sh σ := by
  unfold f_X11_threesWhy_b0 at h
  refine E_iload_n d_X11_threesWhy_0 rfl ?_
  refine bd h (fun r1 q2 h => ?_)
  refine E_cS (as := [(0, v1)]) (st := []) d_X11_threesWhy_1 mk_X11_isTray nl_X11_125 (by omega) ⟨rfl, rfl, Nat.le_of_ble_eq_true rfl⟩ (L_X11_isTray q2) ?_
  refine E_if_ne (tgt := 9) d_X11_threesWhy_4 (by decide) h (fun _ h => ?_) (fun _ h => ?_)
  · refine E_iconst d_X11_threesWhy_7 (c32 rfl) ?_
    cases h
    exact E_iret d_X11_threesWhy_8 rfl
  · refine E_aload_n d_X11_threesWhy_9 rfl (by decide) ?_
    refine E_get d_X11_threesWhy_10 okX11 fl_X11_11 ⟨by decide, rfl⟩ h (fun x3 h => ?_)
    refine E_iload_n d_X11_threesWhy_13 rfl ?_
    refine E_aaload d_X11_threesWhy_14 (Or.inr (Or.inl ⟨rfl, rfl, rfl⟩)) h (fun x4 h => ?_)
    refine bd h (fun r5 q6 h => ?_)
    refine E_cV (as := []) (st := []) (a := x4) d_X11_threesWhy_15 mk_X8_isMissing nl_X11_163 (by omega) ⟨rfl, rfl, Nat.le_of_ble_eq_true rfl⟩ okX8 rfl (L_X8_isMissing q6) ?_
    refine E_if_eq (tgt := 23) d_X11_threesWhy_18 (by decide) h (fun _ h => ?_) (fun _ h => ?_)
    · refine E_ldc2 d_X11_threesWhy_23 kw_X11_374 ?_
      refine E_iload_n d_X11_threesWhy_26 rfl ?_
      refine E_i2l d_X11_threesWhy_27 ?_
      refine E_lmul d_X11_threesWhy_28 ?_
      refine E_aload_n d_X11_threesWhy_29 rfl (by decide) ?_
      refine E_get d_X11_threesWhy_30 okX11 fl_X11_11 ⟨by decide, rfl⟩ h (fun x7 h => ?_)
      refine E_iload_n d_X11_threesWhy_33 rfl ?_
      refine E_aaload d_X11_threesWhy_34 (Or.inr (Or.inl ⟨rfl, rfl, rfl⟩)) h (fun x8 h => ?_)
      refine E_get d_X11_threesWhy_35 okX8 fl_X11_376 ⟨by decide, rfl⟩ h (fun x9 h => ?_)
      refine E_i2l d_X11_threesWhy_38 ?_
      refine E_lcmp d_X11_threesWhy_39 ?_
      refine E_if_le (tgt := 45) d_X11_threesWhy_40 (by decide) h (fun _ h => ?_) (fun _ h => ?_)
      · refine E_iload_n d_X11_threesWhy_45 rfl ?_
        refine E_if_lt (tgt := 54) d_X11_threesWhy_46 (by decide) h (fun _ h => ?_) (fun _ h => ?_)
        · exact E_weak (ls' := [(9, 0), (9, 0), (9, 0), (9, 0)]) ⟨Or.inl rfl, Or.inl rfl, Or.inl rfl, Or.inl rfl, trivial⟩ (L_X11_threesWhy_b54 h)
        · refine E_iload_n d_X11_threesWhy_49 rfl ?_
          refine E_iload_n d_X11_threesWhy_50 rfl ?_
          refine E_icmp_le (tgt := 58) d_X11_threesWhy_51 (by decide) h (fun _ h => ?_) (fun _ h => ?_)
          · refine E_iconst d_X11_threesWhy_58 (c32 rfl) ?_
            cases h
            exact E_iret d_X11_threesWhy_59 rfl
          · exact E_weak (ls' := [(9, 0), (9, 0), (9, 0), (9, 0)]) ⟨Or.inl rfl, Or.inl rfl, Or.inl rfl, Or.inl rfl, trivial⟩ (L_X11_threesWhy_b54 h)
      · refine E_iconst d_X11_threesWhy_43 (c32 rfl) ?_
        cases h
        exact E_iret d_X11_threesWhy_44 rfl
    · refine E_iconst d_X11_threesWhy_21 (c32 rfl) ?_
      cases h
      exact E_iret d_X11_threesWhy_22 rfl
noncomputable def f_X11_threesWhy (v0 v1 v2 v3 : Int) (σ : Mem) : Option (Int) := if isO Sh 11 v0 = true then f_X11_threesWhy_b0 v0 v1 v2 v3 σ else none
theorem L_X11_threesWhy {o : Int} {v0 v1 v2 v3 : Int} {σ : Mem} (h : f_X11_threesWhy v0 v1 v2 v3 σ = some o) : (isO Sh 11 v0 = true ∧ Cn mt_X11_threesWhy 2 [(2, v0), (0, v1), (0, v2), (0, v3)] Sh σ (some (0, o)) Sh σ) := ⟨(ite_ok h).1, Cn_of mk_X11_threesWhy.1.2.2.1 (Nat.le_of_ble_eq_true rfl) (fun sc => L_X11_threesWhy_b0 (ite_ok h).2)⟩
theorem d_X11_fitsWhy_0 : decode mt_X11_fitsWhy.2.1 0 = .ok (.aload_n 0, 1) := by decide +kernel
theorem d_X11_fitsWhy_1 : decode mt_X11_fitsWhy.2.1 1 = .ok (.iload_n 1, 1) := by decide +kernel
theorem d_X11_fitsWhy_2 : decode mt_X11_fitsWhy.2.1 2 = .ok (.iload_n 2, 1) := by decide +kernel
theorem d_X11_fitsWhy_3 : decode mt_X11_fitsWhy.2.1 3 = .ok (.bipush 20, 2) := by decide +kernel
theorem d_X11_fitsWhy_5 : decode mt_X11_fitsWhy.2.1 5 = .ok (.invokevirtual 365, 3) := by decide +kernel
theorem d_X11_fitsWhy_8 : decode mt_X11_fitsWhy.2.1 8 = .ok (.istore 4, 2) := by decide +kernel
theorem d_X11_fitsWhy_10 : decode mt_X11_fitsWhy.2.1 10 = .ok (.iload 4, 2) := by decide +kernel
theorem d_X11_fitsWhy_12 : decode mt_X11_fitsWhy.2.1 12 = .ok (.ifCond .eq 6, 3) := by decide +kernel
theorem d_X11_fitsWhy_15 : decode mt_X11_fitsWhy.2.1 15 = .ok (.iload 4, 2) := by decide +kernel
theorem d_X11_fitsWhy_17 : decode mt_X11_fitsWhy.2.1 17 = .ok (.ireturn, 1) := by decide +kernel
theorem d_X11_fitsWhy_18 : decode mt_X11_fitsWhy.2.1 18 = .ok (.iload_n 3, 1) := by decide +kernel
theorem d_X11_fitsWhy_19 : decode mt_X11_fitsWhy.2.1 19 = .ok (.ifCond .ne 5, 3) := by decide +kernel
theorem d_X11_fitsWhy_22 : decode mt_X11_fitsWhy.2.1 22 = .ok (.iconst 5, 1) := by decide +kernel
theorem d_X11_fitsWhy_23 : decode mt_X11_fitsWhy.2.1 23 = .ok (.ireturn, 1) := by decide +kernel
theorem d_X11_fitsWhy_24 : decode mt_X11_fitsWhy.2.1 24 = .ok (.aload_n 0, 1) := by decide +kernel
theorem d_X11_fitsWhy_25 : decode mt_X11_fitsWhy.2.1 25 = .ok (.getfield 11, 3) := by decide +kernel
theorem d_X11_fitsWhy_28 : decode mt_X11_fitsWhy.2.1 28 = .ok (.iload_n 1, 1) := by decide +kernel
theorem d_X11_fitsWhy_29 : decode mt_X11_fitsWhy.2.1 29 = .ok (.aaload, 1) := by decide +kernel
theorem d_X11_fitsWhy_30 : decode mt_X11_fitsWhy.2.1 30 = .ok (.getfield 149, 3) := by decide +kernel
theorem d_X11_fitsWhy_33 : decode mt_X11_fitsWhy.2.1 33 = .ok (.astore 5, 2) := by decide +kernel
theorem d_X11_fitsWhy_35 : decode mt_X11_fitsWhy.2.1 35 = .ok (.aload_n 0, 1) := by decide +kernel
theorem d_X11_fitsWhy_36 : decode mt_X11_fitsWhy.2.1 36 = .ok (.getfield 86, 3) := by decide +kernel
theorem d_X11_fitsWhy_39 : decode mt_X11_fitsWhy.2.1 39 = .ok (.invokevirtual 368, 3) := by decide +kernel
theorem d_X11_fitsWhy_42 : decode mt_X11_fitsWhy.2.1 42 = .ok (.iconst 0, 1) := by decide +kernel
theorem d_X11_fitsWhy_43 : decode mt_X11_fitsWhy.2.1 43 = .ok (.istore 6, 2) := by decide +kernel
theorem d_X11_fitsWhy_45 : decode mt_X11_fitsWhy.2.1 45 = .ok (.iload 6, 2) := by decide +kernel
theorem d_X11_fitsWhy_47 : decode mt_X11_fitsWhy.2.1 47 = .ok (.iload_n 2, 1) := by decide +kernel
theorem d_X11_fitsWhy_48 : decode mt_X11_fitsWhy.2.1 48 = .ok (.if_icmp .ge 113, 3) := by decide +kernel
theorem d_X11_fitsWhy_51 : decode mt_X11_fitsWhy.2.1 51 = .ok (.aload 5, 2) := by decide +kernel
theorem d_X11_fitsWhy_53 : decode mt_X11_fitsWhy.2.1 53 = .ok (.iconst 3, 1) := by decide +kernel
theorem d_X11_fitsWhy_54 : decode mt_X11_fitsWhy.2.1 54 = .ok (.iload 6, 2) := by decide +kernel
theorem d_X11_fitsWhy_56 : decode mt_X11_fitsWhy.2.1 56 = .ok (.imul, 1) := by decide +kernel
theorem d_X11_fitsWhy_57 : decode mt_X11_fitsWhy.2.1 57 = .ok (.laload, 1) := by decide +kernel
theorem d_X11_fitsWhy_58 : decode mt_X11_fitsWhy.2.1 58 = .ok (.lstore 7, 2) := by decide +kernel
theorem d_X11_fitsWhy_60 : decode mt_X11_fitsWhy.2.1 60 = .ok (.aload 5, 2) := by decide +kernel
theorem d_X11_fitsWhy_62 : decode mt_X11_fitsWhy.2.1 62 = .ok (.iconst 3, 1) := by decide +kernel
theorem d_X11_fitsWhy_63 : decode mt_X11_fitsWhy.2.1 63 = .ok (.iload 6, 2) := by decide +kernel
theorem d_X11_fitsWhy_65 : decode mt_X11_fitsWhy.2.1 65 = .ok (.imul, 1) := by decide +kernel
theorem d_X11_fitsWhy_66 : decode mt_X11_fitsWhy.2.1 66 = .ok (.iconst 1, 1) := by decide +kernel
theorem d_X11_fitsWhy_67 : decode mt_X11_fitsWhy.2.1 67 = .ok (.iadd, 1) := by decide +kernel
theorem d_X11_fitsWhy_68 : decode mt_X11_fitsWhy.2.1 68 = .ok (.laload, 1) := by decide +kernel
theorem d_X11_fitsWhy_69 : decode mt_X11_fitsWhy.2.1 69 = .ok (.lstore 9, 2) := by decide +kernel
theorem d_X11_fitsWhy_71 : decode mt_X11_fitsWhy.2.1 71 = .ok (.aload 5, 2) := by decide +kernel
theorem d_X11_fitsWhy_73 : decode mt_X11_fitsWhy.2.1 73 = .ok (.iconst 3, 1) := by decide +kernel
theorem d_X11_fitsWhy_74 : decode mt_X11_fitsWhy.2.1 74 = .ok (.iload 6, 2) := by decide +kernel
theorem d_X11_fitsWhy_76 : decode mt_X11_fitsWhy.2.1 76 = .ok (.imul, 1) := by decide +kernel
theorem d_X11_fitsWhy_77 : decode mt_X11_fitsWhy.2.1 77 = .ok (.iconst 2, 1) := by decide +kernel
theorem d_X11_fitsWhy_78 : decode mt_X11_fitsWhy.2.1 78 = .ok (.iadd, 1) := by decide +kernel
theorem d_X11_fitsWhy_79 : decode mt_X11_fitsWhy.2.1 79 = .ok (.laload, 1) := by decide +kernel
theorem d_X11_fitsWhy_80 : decode mt_X11_fitsWhy.2.1 80 = .ok (.lstore 11, 2) := by decide +kernel
theorem d_X11_fitsWhy_82 : decode mt_X11_fitsWhy.2.1 82 = .ok (.aload_n 0, 1) := by decide +kernel
theorem d_X11_fitsWhy_83 : decode mt_X11_fitsWhy.2.1 83 = .ok (.getfield 31, 3) := by decide +kernel
theorem d_X11_fitsWhy_86 : decode mt_X11_fitsWhy.2.1 86 = .ok (.lload 7, 2) := by decide +kernel
theorem d_X11_fitsWhy_88 : decode mt_X11_fitsWhy.2.1 88 = .ok (.invokevirtual 290, 3) := by decide +kernel
theorem d_X11_fitsWhy_91 : decode mt_X11_fitsWhy.2.1 91 = .ok (.ifCond .eq 29, 3) := by decide +kernel
theorem d_X11_fitsWhy_94 : decode mt_X11_fitsWhy.2.1 94 = .ok (.aload_n 0, 1) := by decide +kernel
theorem d_X11_fitsWhy_95 : decode mt_X11_fitsWhy.2.1 95 = .ok (.getfield 31, 3) := by decide +kernel
theorem d_X11_fitsWhy_98 : decode mt_X11_fitsWhy.2.1 98 = .ok (.lload 9, 2) := by decide +kernel
theorem d_X11_fitsWhy_100 : decode mt_X11_fitsWhy.2.1 100 = .ok (.invokevirtual 294, 3) := by decide +kernel
theorem d_X11_fitsWhy_103 : decode mt_X11_fitsWhy.2.1 103 = .ok (.ifCond .eq 17, 3) := by decide +kernel
theorem d_X11_fitsWhy_106 : decode mt_X11_fitsWhy.2.1 106 = .ok (.lload 11, 2) := by decide +kernel
theorem d_X11_fitsWhy_108 : decode mt_X11_fitsWhy.2.1 108 = .ok (.lconst 0, 1) := by decide +kernel
theorem d_X11_fitsWhy_109 : decode mt_X11_fitsWhy.2.1 109 = .ok (.lcmp, 1) := by decide +kernel
theorem d_X11_fitsWhy_110 : decode mt_X11_fitsWhy.2.1 110 = .ok (.ifCond .lt 10, 3) := by decide +kernel
theorem d_X11_fitsWhy_113 : decode mt_X11_fitsWhy.2.1 113 = .ok (.lload 11, 2) := by decide +kernel
theorem d_X11_fitsWhy_115 : decode mt_X11_fitsWhy.2.1 115 = .ok (.lconst 1, 1) := by decide +kernel
theorem d_X11_fitsWhy_116 : decode mt_X11_fitsWhy.2.1 116 = .ok (.lcmp, 1) := by decide +kernel
theorem d_X11_fitsWhy_117 : decode mt_X11_fitsWhy.2.1 117 = .ok (.ifCond .le 5, 3) := by decide +kernel
theorem d_X11_fitsWhy_120 : decode mt_X11_fitsWhy.2.1 120 = .ok (.iconst 5, 1) := by decide +kernel
theorem d_X11_fitsWhy_121 : decode mt_X11_fitsWhy.2.1 121 = .ok (.ireturn, 1) := by decide +kernel
theorem d_X11_fitsWhy_122 : decode mt_X11_fitsWhy.2.1 122 = .ok (.aload_n 0, 1) := by decide +kernel
theorem d_X11_fitsWhy_123 : decode mt_X11_fitsWhy.2.1 123 = .ok (.getfield 86, 3) := by decide +kernel
theorem d_X11_fitsWhy_126 : decode mt_X11_fitsWhy.2.1 126 = .ok (.aload_n 0, 1) := by decide +kernel
theorem d_X11_fitsWhy_127 : decode mt_X11_fitsWhy.2.1 127 = .ok (.getfield 31, 3) := by decide +kernel
theorem d_X11_fitsWhy_130 : decode mt_X11_fitsWhy.2.1 130 = .ok (.lload 9, 2) := by decide +kernel
theorem d_X11_fitsWhy_132 : decode mt_X11_fitsWhy.2.1 132 = .ok (.l2i, 1) := by decide +kernel
theorem d_X11_fitsWhy_133 : decode mt_X11_fitsWhy.2.1 133 = .ok (.lload 7, 2) := by decide +kernel
theorem d_X11_fitsWhy_135 : decode mt_X11_fitsWhy.2.1 135 = .ok (.l2i, 1) := by decide +kernel
theorem d_X11_fitsWhy_136 : decode mt_X11_fitsWhy.2.1 136 = .ok (.iconst 0, 1) := by decide +kernel
theorem d_X11_fitsWhy_137 : decode mt_X11_fitsWhy.2.1 137 = .ok (.invokevirtual 260, 3) := by decide +kernel
theorem d_X11_fitsWhy_140 : decode mt_X11_fitsWhy.2.1 140 = .ok (.lload 11, 2) := by decide +kernel
theorem d_X11_fitsWhy_142 : decode mt_X11_fitsWhy.2.1 142 = .ok (.lconst 1, 1) := by decide +kernel
theorem d_X11_fitsWhy_143 : decode mt_X11_fitsWhy.2.1 143 = .ok (.lcmp, 1) := by decide +kernel
theorem d_X11_fitsWhy_144 : decode mt_X11_fitsWhy.2.1 144 = .ok (.ifCond .ne 7, 3) := by decide +kernel
theorem d_X11_fitsWhy_147 : decode mt_X11_fitsWhy.2.1 147 = .ok (.iconst 1, 1) := by decide +kernel
theorem d_X11_fitsWhy_148 : decode mt_X11_fitsWhy.2.1 148 = .ok (.goto 4, 3) := by decide +kernel
theorem d_X11_fitsWhy_151 : decode mt_X11_fitsWhy.2.1 151 = .ok (.iconst 0, 1) := by decide +kernel
theorem d_X11_fitsWhy_152 : decode mt_X11_fitsWhy.2.1 152 = .ok (.invokevirtual 370, 3) := by decide +kernel
theorem d_X11_fitsWhy_155 : decode mt_X11_fitsWhy.2.1 155 = .ok (.iinc 6 1, 3) := by decide +kernel
theorem d_X11_fitsWhy_158 : decode mt_X11_fitsWhy.2.1 158 = .ok (.goto (-113), 3) := by decide +kernel
theorem d_X11_fitsWhy_161 : decode mt_X11_fitsWhy.2.1 161 = .ok (.iconst 0, 1) := by decide +kernel
theorem d_X11_fitsWhy_162 : decode mt_X11_fitsWhy.2.1 162 = .ok (.ireturn, 1) := by decide +kernel
noncomputable def f_X11_fitsWhy_b152 (k45 : (Int → Int → Int → Int → Mem → Option (Int × Mem))) (v0 v2 v5 v6 s0 s1 s2 : Int) (σ : Mem) : Option (Int × Mem) :=
  (f_X3_tell s2 s1 s0 σ).bind fun r22 =>
  k45 v0 v2 v5 (w32 (v6 + 1)) r22
theorem L_X11_fitsWhy_b152 {sc : Nat × (Nat → Int32)} {o : Int × Mem} {k45 : (Int → Int → Int → Int → Mem → Option (Int × Mem))} (hk45 : ∀ {v0 v2 v5 v6 : Int} {σ : Mem}, k45 v0 v2 v5 v6 σ = some o → E sc (Fm Sh (some (0, o.1)) Sh o.2) mt_X11_fitsWhy 3 Sh Sh 45 [(2, v0), (9, 0), (0, v2), (9, 0), (9, 0), (2, v5), (0, v6), (9, 0), (9, 0), (9, 0), (9, 0), (9, 0), (9, 0)] [] Sh σ) {v0 v2 v5 v6 s0 s1 s2 : Int} {σ : Mem} (h : f_X11_fitsWhy_b152 k45 v0 v2 v5 v6 s0 s1 s2 σ = some o) : E sc (Fm Sh (some (0, o.1)) Sh o.2) mt_X11_fitsWhy 3 Sh Sh 152 [(2, v0), (9, 0), (0, v2), (9, 0), (9, 0), (2, v5), (0, v6), (9, 0), (9, 0), (9, 0), (9, 0), (9, 0), (9, 0)] [(0, s0), (0, s1), (2, s2)] Sh σ := by
  unfold f_X11_fitsWhy_b152 at h
  refine bd h (fun r22 q23 h => ?_)
  refine E_cVv (as := [(0, s1), (0, s0)]) (st := []) (a := s2) d_X11_fitsWhy_152 mk_X3_tell nl_X11_370 (by omega) ⟨rfl, rfl, Nat.le_of_ble_eq_true rfl⟩ okX3 rfl (L_X3_tell q23) ?_
  refine E_iinc d_X11_fitsWhy_155 (ls' := [(2, v0), (9, 0), (0, v2), (9, 0), (9, 0), (2, v5), (0, w32 (v6 + 1)), (9, 0), (9, 0), (9, 0), (9, 0), (9, 0), (9, 0)]) rfl ⟨by decide, rfl⟩ ?_
  refine E_goto (tgt := 45) d_X11_fitsWhy_158 (by decide) ?_
  exact (hk45 h)
noncomputable def f_X11_fitsWhy_b45 (k45 : (Int → Int → Int → Int → Mem → Option (Int × Mem))) (v0 v2 v5 v6 : Int) (σ : Mem) : Option (Int × Mem) :=
  if v2 ≤ v6 then
    some (0, σ)
  else
    (al Sh σ 21 v5 (w32 (3 * v6))).bind fun x9 =>
    (al Sh σ 21 v5 (w32 (w32 (3 * v6) + 1))).bind fun x10 =>
    (al Sh σ 21 v5 (w32 (w32 (3 * v6) + 2))).bind fun x11 =>
    (gf Sh σ 11 v0 3).bind fun x12 =>
    (f_X9_isPlace x12 x9 σ).bind fun r13 =>
    if r13 = 0 then
      some (5, σ)
    else
      (gf Sh σ 11 v0 3).bind fun x15 =>
      (f_X9_isStone x15 x10 σ).bind fun r16 =>
      if r16 = 0 then
        some (5, σ)
      else
        if lcmp x11 0 < 0 then
          some (5, σ)
        else
          if lcmp x11 1 ≤ 0 then
            (gf Sh σ 11 v0 12).bind fun x18 =>
            (gf Sh σ 11 v0 3).bind fun x19 =>
            (f_X9_mercyFor x19 (w32 x10) (w32 x9) 0 σ).bind fun r20 =>
            if lcmp x11 1 = 0 then
              f_X11_fitsWhy_b152 k45 v0 v2 v5 v6 1 r20 x18 σ
            else
              f_X11_fitsWhy_b152 k45 v0 v2 v5 v6 0 r20 x18 σ
          else
            some (5, σ)
theorem L_X11_fitsWhy_b45 {sc : Nat × (Nat → Int32)} {o : Int × Mem} {k45 : (Int → Int → Int → Int → Mem → Option (Int × Mem))} (hk45 : ∀ {v0 v2 v5 v6 : Int} {σ : Mem}, k45 v0 v2 v5 v6 σ = some o → E sc (Fm Sh (some (0, o.1)) Sh o.2) mt_X11_fitsWhy 3 Sh Sh 45 [(2, v0), (9, 0), (0, v2), (9, 0), (9, 0), (2, v5), (0, v6), (9, 0), (9, 0), (9, 0), (9, 0), (9, 0), (9, 0)] [] Sh σ) {v0 v2 v5 v6 : Int} {σ : Mem} (h : f_X11_fitsWhy_b45 k45 v0 v2 v5 v6 σ = some o) : E sc (Fm Sh (some (0, o.1)) Sh o.2) mt_X11_fitsWhy 3 Sh Sh 45 [(2, v0), (9, 0), (0, v2), (9, 0), (9, 0), (2, v5), (0, v6), (9, 0), (9, 0), (9, 0), (9, 0), (9, 0), (9, 0)] [] Sh σ := by
  unfold f_X11_fitsWhy_b45 at h
  refine E_iload d_X11_fitsWhy_45 rfl ?_
  refine E_iload_n d_X11_fitsWhy_47 rfl ?_
  refine E_icmp_ge (tgt := 161) d_X11_fitsWhy_48 (by decide) h (fun _ h => ?_) (fun _ h => ?_)
  · refine E_iconst d_X11_fitsWhy_161 (c32 rfl) ?_
    cases h
    exact E_iret d_X11_fitsWhy_162 rfl
  · refine E_aload d_X11_fitsWhy_51 rfl (by decide) ?_
    refine E_iconst d_X11_fitsWhy_53 (c32 rfl) ?_
    refine E_iload d_X11_fitsWhy_54 rfl ?_
    refine E_imul d_X11_fitsWhy_56 ?_
    refine E_laload d_X11_fitsWhy_57 h (fun x9 h => ?_)
    refine E_lstore d_X11_fitsWhy_58 (ls' := [(2, v0), (9, 0), (0, v2), (9, 0), (9, 0), (2, v5), (0, v6), (1, x9), (9, 0), (9, 0), (9, 0), (9, 0), (9, 0)]) ⟨by decide, rfl⟩ ?_
    refine E_aload d_X11_fitsWhy_60 rfl (by decide) ?_
    refine E_iconst d_X11_fitsWhy_62 (c32 rfl) ?_
    refine E_iload d_X11_fitsWhy_63 rfl ?_
    refine E_imul d_X11_fitsWhy_65 ?_
    refine E_iconst d_X11_fitsWhy_66 (c32 rfl) ?_
    refine E_iadd d_X11_fitsWhy_67 ?_
    refine E_laload d_X11_fitsWhy_68 h (fun x10 h => ?_)
    refine E_lstore d_X11_fitsWhy_69 (ls' := [(2, v0), (9, 0), (0, v2), (9, 0), (9, 0), (2, v5), (0, v6), (1, x9), (9, 0), (1, x10), (9, 0), (9, 0), (9, 0)]) ⟨by decide, rfl⟩ ?_
    refine E_aload d_X11_fitsWhy_71 rfl (by decide) ?_
    refine E_iconst d_X11_fitsWhy_73 (c32 rfl) ?_
    refine E_iload d_X11_fitsWhy_74 rfl ?_
    refine E_imul d_X11_fitsWhy_76 ?_
    refine E_iconst d_X11_fitsWhy_77 (c32 rfl) ?_
    refine E_iadd d_X11_fitsWhy_78 ?_
    refine E_laload d_X11_fitsWhy_79 h (fun x11 h => ?_)
    refine E_lstore d_X11_fitsWhy_80 (ls' := [(2, v0), (9, 0), (0, v2), (9, 0), (9, 0), (2, v5), (0, v6), (1, x9), (9, 0), (1, x10), (9, 0), (1, x11), (9, 0)]) ⟨by decide, rfl⟩ ?_
    refine E_aload_n d_X11_fitsWhy_82 rfl (by decide) ?_
    refine E_get d_X11_fitsWhy_83 okX11 fl_X11_31 ⟨by decide, rfl⟩ h (fun x12 h => ?_)
    refine E_lload d_X11_fitsWhy_86 rfl ?_
    refine bd h (fun r13 q14 h => ?_)
    refine E_cV (as := [(1, x9)]) (st := []) (a := x12) d_X11_fitsWhy_88 mk_X9_isPlace nl_X11_290 (by omega) ⟨rfl, rfl, Nat.le_of_ble_eq_true rfl⟩ okX9 rfl (L_X9_isPlace q14) ?_
    refine E_if_eq (tgt := 120) d_X11_fitsWhy_91 (by decide) h (fun _ h => ?_) (fun _ h => ?_)
    · refine E_iconst d_X11_fitsWhy_120 (c32 rfl) ?_
      cases h
      exact E_iret d_X11_fitsWhy_121 rfl
    · refine E_aload_n d_X11_fitsWhy_94 rfl (by decide) ?_
      refine E_get d_X11_fitsWhy_95 okX11 fl_X11_31 ⟨by decide, rfl⟩ h (fun x15 h => ?_)
      refine E_lload d_X11_fitsWhy_98 rfl ?_
      refine bd h (fun r16 q17 h => ?_)
      refine E_cV (as := [(1, x10)]) (st := []) (a := x15) d_X11_fitsWhy_100 mk_X9_isStone nl_X11_294 (by omega) ⟨rfl, rfl, Nat.le_of_ble_eq_true rfl⟩ okX9 rfl (L_X9_isStone q17) ?_
      refine E_if_eq (tgt := 120) d_X11_fitsWhy_103 (by decide) h (fun _ h => ?_) (fun _ h => ?_)
      · refine E_iconst d_X11_fitsWhy_120 (c32 rfl) ?_
        cases h
        exact E_iret d_X11_fitsWhy_121 rfl
      · refine E_lload d_X11_fitsWhy_106 rfl ?_
        refine E_lconst d_X11_fitsWhy_108 cl0 ?_
        refine E_lcmp d_X11_fitsWhy_109 ?_
        refine E_if_lt (tgt := 120) d_X11_fitsWhy_110 (by decide) h (fun _ h => ?_) (fun _ h => ?_)
        · refine E_iconst d_X11_fitsWhy_120 (c32 rfl) ?_
          cases h
          exact E_iret d_X11_fitsWhy_121 rfl
        · refine E_lload d_X11_fitsWhy_113 rfl ?_
          refine E_lconst d_X11_fitsWhy_115 cl1 ?_
          refine E_lcmp d_X11_fitsWhy_116 ?_
          refine E_if_le (tgt := 122) d_X11_fitsWhy_117 (by decide) h (fun _ h => ?_) (fun _ h => ?_)
          · refine E_aload_n d_X11_fitsWhy_122 rfl (by decide) ?_
            refine E_get d_X11_fitsWhy_123 okX11 fl_X11_86 ⟨by decide, rfl⟩ h (fun x18 h => ?_)
            refine E_aload_n d_X11_fitsWhy_126 rfl (by decide) ?_
            refine E_get d_X11_fitsWhy_127 okX11 fl_X11_31 ⟨by decide, rfl⟩ h (fun x19 h => ?_)
            refine E_lload d_X11_fitsWhy_130 rfl ?_
            refine E_l2i d_X11_fitsWhy_132 ?_
            refine E_lload d_X11_fitsWhy_133 rfl ?_
            refine E_l2i d_X11_fitsWhy_135 ?_
            refine E_iconst d_X11_fitsWhy_136 (c32 rfl) ?_
            refine bd h (fun r20 q21 h => ?_)
            refine E_cV (as := [(0, w32 x10), (0, w32 x9), (0, 0)]) (st := [(2, x18)]) (a := x19) d_X11_fitsWhy_137 mk_X9_mercyFor nl_X11_260 (by omega) ⟨rfl, rfl, Nat.le_of_ble_eq_true rfl⟩ okX9 rfl (L_X9_mercyFor q21) ?_
            refine E_lload d_X11_fitsWhy_140 rfl ?_
            refine E_lconst d_X11_fitsWhy_142 cl1 ?_
            refine E_lcmp d_X11_fitsWhy_143 ?_
            refine E_if_ne (tgt := 151) d_X11_fitsWhy_144 (by decide) h (fun _ h => ?_) (fun _ h => ?_)
            · refine E_iconst d_X11_fitsWhy_147 (c32 rfl) ?_
              refine E_goto (tgt := 152) d_X11_fitsWhy_148 (by decide) ?_
              exact E_weak (ls' := [(2, v0), (9, 0), (0, v2), (9, 0), (9, 0), (2, v5), (0, v6), (9, 0), (9, 0), (9, 0), (9, 0), (9, 0), (9, 0)]) ⟨Or.inr rfl, Or.inl rfl, Or.inr rfl, Or.inl rfl, Or.inl rfl, Or.inr rfl, Or.inr rfl, Or.inl rfl, Or.inl rfl, Or.inl rfl, Or.inl rfl, Or.inl rfl, Or.inl rfl, trivial⟩ (L_X11_fitsWhy_b152 hk45 h)
            · refine E_iconst d_X11_fitsWhy_151 (c32 rfl) ?_
              exact E_weak (ls' := [(2, v0), (9, 0), (0, v2), (9, 0), (9, 0), (2, v5), (0, v6), (9, 0), (9, 0), (9, 0), (9, 0), (9, 0), (9, 0)]) ⟨Or.inr rfl, Or.inl rfl, Or.inr rfl, Or.inl rfl, Or.inl rfl, Or.inr rfl, Or.inr rfl, Or.inl rfl, Or.inl rfl, Or.inl rfl, Or.inl rfl, Or.inl rfl, Or.inl rfl, trivial⟩ (L_X11_fitsWhy_b152 hk45 h)
          · refine E_iconst d_X11_fitsWhy_120 (c32 rfl) ?_
            cases h
            exact E_iret d_X11_fitsWhy_121 rfl
noncomputable def f_X11_fitsWhy_h45 (n : Nat) : Int → Int → Int → Int → Mem → Option (Int × Mem) := Nat.rec (motive := fun _ => Int → Int → Int → Int → Mem → Option (Int × Mem)) (fun _ _ _ _ _ => none) (fun _ ih => f_X11_fitsWhy_b45 (ih)) n
theorem L_X11_fitsWhy_h45 {sc : Nat × (Nat → Int32)} {o : Int × Mem} : ∀ (n : Nat) {v0 v2 v5 v6 : Int} {σ : Mem}, f_X11_fitsWhy_h45 n v0 v2 v5 v6 σ = some o → E sc (Fm Sh (some (0, o.1)) Sh o.2) mt_X11_fitsWhy 3 Sh Sh 45 [(2, v0), (9, 0), (0, v2), (9, 0), (9, 0), (2, v5), (0, v6), (9, 0), (9, 0), (9, 0), (9, 0), (9, 0), (9, 0)] [] Sh σ := by
  intro n
  induction n with
  | zero => intro v0 v2 v5 v6 σ h; cases h
  | succ n ih => intro v0 v2 v5 v6 σ h; exact L_X11_fitsWhy_b45 (@ih) h
noncomputable def f_X11_fitsWhy_b0 (v0 v1 v2 v3 : Int) (σ : Mem) : Option (Int × Mem) :=
  (f_X11_threesWhy v0 v1 v2 20 σ).bind fun r1 =>
  if r1 = 0 then
    if v3 = 0 then
      some (5, σ)
    else
      (gf Sh σ 11 v0 0).bind fun x3 =>
      (al Sh σ 38 x3 v1).bind fun x4 =>
      (gf Sh σ 8 x4 0).bind fun x5 =>
      (gf Sh σ 11 v0 12).bind fun x6 =>
      (f_X3_begin x6 σ).bind fun r7 =>
      f_X11_fitsWhy_h45 FU v0 v2 x5 0 r7
  else
    some (r1, σ)
theorem L_X11_fitsWhy_b0 {sc : Nat × (Nat → Int32)} {o : Int × Mem} {v0 v1 v2 v3 : Int} {σ : Mem} (h : f_X11_fitsWhy_b0 v0 v1 v2 v3 σ = some o) : E sc (Fm Sh (some (0, o.1)) Sh o.2) mt_X11_fitsWhy 3 Sh Sh 0 [(2, v0), (0, v1), (0, v2), (0, v3), (9, 0), (9, 0), (9, 0), (9, 0), (9, 0), (9, 0), (9, 0), (9, 0), (9, 0)] [] Sh σ := by
  unfold f_X11_fitsWhy_b0 at h
  refine E_aload_n d_X11_fitsWhy_0 rfl (by decide) ?_
  refine E_iload_n d_X11_fitsWhy_1 rfl ?_
  refine E_iload_n d_X11_fitsWhy_2 rfl ?_
  refine E_bipush d_X11_fitsWhy_3 (c8 rfl) ?_
  refine bd h (fun r1 q2 h => ?_)
  refine E_cV (as := [(0, v1), (0, v2), (0, 20)]) (st := []) (a := v0) d_X11_fitsWhy_5 mk_X11_threesWhy nl_X11_365 (by omega) ⟨rfl, rfl, Nat.le_of_ble_eq_true rfl⟩ okX11 rfl (L_X11_threesWhy q2) ?_
  refine E_istore d_X11_fitsWhy_8 (ls' := [(2, v0), (0, v1), (0, v2), (0, v3), (0, r1), (9, 0), (9, 0), (9, 0), (9, 0), (9, 0), (9, 0), (9, 0), (9, 0)]) ⟨by decide, rfl⟩ ?_
  refine E_iload d_X11_fitsWhy_10 rfl ?_
  refine E_if_eq (tgt := 18) d_X11_fitsWhy_12 (by decide) h (fun _ h => ?_) (fun _ h => ?_)
  · refine E_iload_n d_X11_fitsWhy_18 rfl ?_
    refine E_if_ne (tgt := 24) d_X11_fitsWhy_19 (by decide) h (fun _ h => ?_) (fun _ h => ?_)
    · refine E_iconst d_X11_fitsWhy_22 (c32 rfl) ?_
      cases h
      exact E_iret d_X11_fitsWhy_23 rfl
    · refine E_aload_n d_X11_fitsWhy_24 rfl (by decide) ?_
      refine E_get d_X11_fitsWhy_25 okX11 fl_X11_11 ⟨by decide, rfl⟩ h (fun x3 h => ?_)
      refine E_iload_n d_X11_fitsWhy_28 rfl ?_
      refine E_aaload d_X11_fitsWhy_29 (Or.inr (Or.inl ⟨rfl, rfl, rfl⟩)) h (fun x4 h => ?_)
      refine E_get d_X11_fitsWhy_30 okX8 fl_X11_149 ⟨by decide, rfl⟩ h (fun x5 h => ?_)
      refine E_astore d_X11_fitsWhy_33 (ls' := [(2, v0), (0, v1), (0, v2), (0, v3), (0, r1), (2, x5), (9, 0), (9, 0), (9, 0), (9, 0), (9, 0), (9, 0), (9, 0)]) (by decide) ⟨by decide, rfl⟩ ?_
      refine E_aload_n d_X11_fitsWhy_35 rfl (by decide) ?_
      refine E_get d_X11_fitsWhy_36 okX11 fl_X11_86 ⟨by decide, rfl⟩ h (fun x6 h => ?_)
      refine bd h (fun r7 q8 h => ?_)
      refine E_cVv (as := []) (st := []) (a := x6) d_X11_fitsWhy_39 mk_X3_begin nl_X11_368 (by omega) ⟨rfl, rfl, Nat.le_of_ble_eq_true rfl⟩ okX3 rfl (L_X3_begin q8) ?_
      refine E_iconst d_X11_fitsWhy_42 (c32 rfl) ?_
      refine E_istore d_X11_fitsWhy_43 (ls' := [(2, v0), (0, v1), (0, v2), (0, v3), (0, r1), (2, x5), (0, 0), (9, 0), (9, 0), (9, 0), (9, 0), (9, 0), (9, 0)]) ⟨by decide, rfl⟩ ?_
      exact E_weak (ls' := [(2, v0), (9, 0), (0, v2), (9, 0), (9, 0), (2, x5), (0, 0), (9, 0), (9, 0), (9, 0), (9, 0), (9, 0), (9, 0)]) ⟨Or.inr rfl, Or.inl rfl, Or.inr rfl, Or.inl rfl, Or.inl rfl, Or.inr rfl, Or.inr rfl, Or.inl rfl, Or.inl rfl, Or.inl rfl, Or.inl rfl, Or.inl rfl, Or.inl rfl, trivial⟩ (L_X11_fitsWhy_h45 FU h)
  · refine E_iload d_X11_fitsWhy_15 rfl ?_
    cases h
    exact E_iret d_X11_fitsWhy_17 rfl
noncomputable def f_X11_fitsWhy (v0 v1 v2 v3 : Int) (σ : Mem) : Option (Int × Mem) := if isO Sh 11 v0 = true then f_X11_fitsWhy_b0 v0 v1 v2 v3 σ else none
theorem L_X11_fitsWhy {o : Int × Mem} {v0 v1 v2 v3 : Int} {σ : Mem} (h : f_X11_fitsWhy v0 v1 v2 v3 σ = some o) : (isO Sh 11 v0 = true ∧ Cn mt_X11_fitsWhy 3 [(2, v0), (0, v1), (0, v2), (0, v3)] Sh σ (some (0, o.1)) Sh o.2) := ⟨(ite_ok h).1, Cn_of mk_X11_fitsWhy.1.2.2.1 (Nat.le_of_ble_eq_true rfl) (fun sc => L_X11_fitsWhy_b0 (ite_ok h).2)⟩
theorem d_X11_fits_0 : decode mt_X11_fits.2.1 0 = .ok (.aload_n 0, 1) := by decide +kernel
theorem d_X11_fits_1 : decode mt_X11_fits.2.1 1 = .ok (.aload_n 0, 1) := by decide +kernel
theorem d_X11_fits_2 : decode mt_X11_fits.2.1 2 = .ok (.iload_n 1, 1) := by decide +kernel
theorem d_X11_fits_3 : decode mt_X11_fits.2.1 3 = .ok (.iload_n 2, 1) := by decide +kernel
theorem d_X11_fits_4 : decode mt_X11_fits.2.1 4 = .ok (.iconst 1, 1) := by decide +kernel
theorem d_X11_fits_5 : decode mt_X11_fits.2.1 5 = .ok (.invokevirtual 343, 3) := by decide +kernel
theorem d_X11_fits_8 : decode mt_X11_fits.2.1 8 = .ok (.invokevirtual 132, 3) := by decide +kernel
theorem d_X11_fits_11 : decode mt_X11_fits.2.1 11 = .ok (.ifCond .eq 5, 3) := by decide +kernel
theorem d_X11_fits_14 : decode mt_X11_fits.2.1 14 = .ok (.iconst (-1), 1) := by decide +kernel
theorem d_X11_fits_15 : decode mt_X11_fits.2.1 15 = .ok (.ireturn, 1) := by decide +kernel
theorem d_X11_fits_16 : decode mt_X11_fits.2.1 16 = .ok (.aload_n 0, 1) := by decide +kernel
theorem d_X11_fits_17 : decode mt_X11_fits.2.1 17 = .ok (.getfield 86, 3) := by decide +kernel
theorem d_X11_fits_20 : decode mt_X11_fits.2.1 20 = .ok (.invokevirtual 347, 3) := by decide +kernel
theorem d_X11_fits_23 : decode mt_X11_fits.2.1 23 = .ok (.ireturn, 1) := by decide +kernel
noncomputable def f_X11_fits_b0 (v0 v1 v2 : Int) (σ : Mem) : Option (Int × Mem) :=
  (f_X11_fitsWhy v0 v1 v2 1 σ).bind fun r1 =>
  (f_X11_refused v0 r1.1 r1.2).bind fun r3 =>
  if r3.1 = 0 then
    (gf Sh r3.2 11 v0 12).bind fun x5 =>
    (f_X3_count x5 r3.2).bind fun r6 =>
    some (r6, r3.2)
  else
    some ((-1), r3.2)
theorem L_X11_fits_b0 {sc : Nat × (Nat → Int32)} {o : Int × Mem} {v0 v1 v2 : Int} {σ : Mem} (h : f_X11_fits_b0 v0 v1 v2 σ = some o) : E sc (Fm Sh (some (0, o.1)) Sh o.2) mt_X11_fits 4 Sh Sh 0 [(2, v0), (0, v1), (0, v2)] [] Sh σ := by
  unfold f_X11_fits_b0 at h
  refine E_aload_n d_X11_fits_0 rfl (by decide) ?_
  refine E_aload_n d_X11_fits_1 rfl (by decide) ?_
  refine E_iload_n d_X11_fits_2 rfl ?_
  refine E_iload_n d_X11_fits_3 rfl ?_
  refine E_iconst d_X11_fits_4 (c32 rfl) ?_
  refine bd h (fun r1 q2 h => ?_)
  refine E_cV (as := [(0, v1), (0, v2), (0, 1)]) (st := [(2, v0)]) (a := v0) d_X11_fits_5 mk_X11_fitsWhy nl_X11_343 (by omega) ⟨rfl, rfl, Nat.le_of_ble_eq_true rfl⟩ okX11 rfl (L_X11_fitsWhy q2) ?_
  refine bd h (fun r3 q4 h => ?_)
  refine E_cV (as := [(0, r1.1)]) (st := []) (a := v0) d_X11_fits_8 mk_X11_refused nl_X11_132 (by omega) ⟨rfl, rfl, Nat.le_of_ble_eq_true rfl⟩ okX11 rfl (L_X11_refused q4) ?_
  refine E_if_eq (tgt := 16) d_X11_fits_11 (by decide) h (fun _ h => ?_) (fun _ h => ?_)
  · refine E_aload_n d_X11_fits_16 rfl (by decide) ?_
    refine E_get d_X11_fits_17 okX11 fl_X11_86 ⟨by decide, rfl⟩ h (fun x5 h => ?_)
    refine bd h (fun r6 q7 h => ?_)
    refine E_cV (as := []) (st := []) (a := x5) d_X11_fits_20 mk_X3_count nl_X11_347 (by omega) ⟨rfl, rfl, Nat.le_of_ble_eq_true rfl⟩ okX3 rfl (L_X3_count q7) ?_
    cases h
    exact E_iret d_X11_fits_23 rfl
  · refine E_iconst d_X11_fits_14 (c32 rfl) ?_
    cases h
    exact E_iret d_X11_fits_15 rfl
noncomputable def f_X11_fits (v0 v1 v2 : Int) (σ : Mem) : Option (Int × Mem) := if isO Sh 11 v0 = true then f_X11_fits_b0 v0 v1 v2 σ else none
theorem L_X11_fits {o : Int × Mem} {v0 v1 v2 : Int} {σ : Mem} (h : f_X11_fits v0 v1 v2 σ = some o) : (isO Sh 11 v0 = true ∧ Cn mt_X11_fits 4 [(2, v0), (0, v1), (0, v2)] Sh σ (some (0, o.1)) Sh o.2) := ⟨(ite_ok h).1, Cn_of mk_X11_fits.1.2.2.1 (Nat.le_of_ble_eq_true rfl) (fun sc => L_X11_fits_b0 (ite_ok h).2)⟩
theorem d_X11_fitsBy_0 : decode mt_X11_fitsBy.2.1 0 = .ok (.aload_n 0, 1) := by decide +kernel
theorem d_X11_fitsBy_1 : decode mt_X11_fitsBy.2.1 1 = .ok (.iload_n 1, 1) := by decide +kernel
theorem d_X11_fitsBy_2 : decode mt_X11_fitsBy.2.1 2 = .ok (.iload_n 2, 1) := by decide +kernel
theorem d_X11_fitsBy_3 : decode mt_X11_fitsBy.2.1 3 = .ok (.iload_n 3, 1) := by decide +kernel
theorem d_X11_fitsBy_4 : decode mt_X11_fitsBy.2.1 4 = .ok (.ifCond .eq 8, 3) := by decide +kernel
theorem d_X11_fitsBy_7 : decode mt_X11_fitsBy.2.1 7 = .ok (.iload_n 3, 1) := by decide +kernel
theorem d_X11_fitsBy_8 : decode mt_X11_fitsBy.2.1 8 = .ok (.iconst 1, 1) := by decide +kernel
theorem d_X11_fitsBy_9 : decode mt_X11_fitsBy.2.1 9 = .ok (.if_icmp .ne 7, 3) := by decide +kernel
theorem d_X11_fitsBy_12 : decode mt_X11_fitsBy.2.1 12 = .ok (.iconst 1, 1) := by decide +kernel
theorem d_X11_fitsBy_13 : decode mt_X11_fitsBy.2.1 13 = .ok (.goto 4, 3) := by decide +kernel
theorem d_X11_fitsBy_16 : decode mt_X11_fitsBy.2.1 16 = .ok (.iconst 0, 1) := by decide +kernel
theorem d_X11_fitsBy_17 : decode mt_X11_fitsBy.2.1 17 = .ok (.invokevirtual 343, 3) := by decide +kernel
theorem d_X11_fitsBy_20 : decode mt_X11_fitsBy.2.1 20 = .ok (.istore 4, 2) := by decide +kernel
theorem d_X11_fitsBy_22 : decode mt_X11_fitsBy.2.1 22 = .ok (.iload 4, 2) := by decide +kernel
theorem d_X11_fitsBy_24 : decode mt_X11_fitsBy.2.1 24 = .ok (.ifCond .ne 17, 3) := by decide +kernel
theorem d_X11_fitsBy_27 : decode mt_X11_fitsBy.2.1 27 = .ok (.aload_n 0, 1) := by decide +kernel
theorem d_X11_fitsBy_28 : decode mt_X11_fitsBy.2.1 28 = .ok (.getfield 86, 3) := by decide +kernel
theorem d_X11_fitsBy_31 : decode mt_X11_fitsBy.2.1 31 = .ok (.invokevirtual 347, 3) := by decide +kernel
theorem d_X11_fitsBy_34 : decode mt_X11_fitsBy.2.1 34 = .ok (.ifCond .ne 7, 3) := by decide +kernel
theorem d_X11_fitsBy_37 : decode mt_X11_fitsBy.2.1 37 = .ok (.bipush 8, 2) := by decide +kernel
theorem d_X11_fitsBy_39 : decode mt_X11_fitsBy.2.1 39 = .ok (.istore 4, 2) := by decide +kernel
theorem d_X11_fitsBy_41 : decode mt_X11_fitsBy.2.1 41 = .ok (.aload_n 0, 1) := by decide +kernel
theorem d_X11_fitsBy_42 : decode mt_X11_fitsBy.2.1 42 = .ok (.iload 4, 2) := by decide +kernel
theorem d_X11_fitsBy_44 : decode mt_X11_fitsBy.2.1 44 = .ok (.invokevirtual 132, 3) := by decide +kernel
theorem d_X11_fitsBy_47 : decode mt_X11_fitsBy.2.1 47 = .ok (.ifCond .eq 5, 3) := by decide +kernel
theorem d_X11_fitsBy_50 : decode mt_X11_fitsBy.2.1 50 = .ok (.iconst (-1), 1) := by decide +kernel
theorem d_X11_fitsBy_51 : decode mt_X11_fitsBy.2.1 51 = .ok (.ireturn, 1) := by decide +kernel
theorem d_X11_fitsBy_52 : decode mt_X11_fitsBy.2.1 52 = .ok (.iload_n 3, 1) := by decide +kernel
theorem d_X11_fitsBy_53 : decode mt_X11_fitsBy.2.1 53 = .ok (.ifCond .ne 13, 3) := by decide +kernel
theorem d_X11_fitsBy_56 : decode mt_X11_fitsBy.2.1 56 = .ok (.aload_n 0, 1) := by decide +kernel
theorem d_X11_fitsBy_57 : decode mt_X11_fitsBy.2.1 57 = .ok (.getfield 86, 3) := by decide +kernel
theorem d_X11_fitsBy_60 : decode mt_X11_fitsBy.2.1 60 = .ok (.getfield 350, 3) := by decide +kernel
theorem d_X11_fitsBy_63 : decode mt_X11_fitsBy.2.1 63 = .ok (.goto 10, 3) := by decide +kernel
theorem d_X11_fitsBy_66 : decode mt_X11_fitsBy.2.1 66 = .ok (.aload_n 0, 1) := by decide +kernel
theorem d_X11_fitsBy_67 : decode mt_X11_fitsBy.2.1 67 = .ok (.getfield 86, 3) := by decide +kernel
theorem d_X11_fitsBy_70 : decode mt_X11_fitsBy.2.1 70 = .ok (.getfield 353, 3) := by decide +kernel
theorem d_X11_fitsBy_73 : decode mt_X11_fitsBy.2.1 73 = .ok (.ireturn, 1) := by decide +kernel
noncomputable def f_X11_fitsBy_b41 (v0 v3 v4 : Int) (σ : Mem) : Option (Int × Mem) :=
  (f_X11_refused v0 v4 σ).bind fun r6 =>
  if r6.1 = 0 then
    if v3 = 0 then
      (gf Sh r6.2 11 v0 12).bind fun x8 =>
      (gf Sh r6.2 3 x8 0).bind fun x9 =>
      some (x9, r6.2)
    else
      (gf Sh r6.2 11 v0 12).bind fun x10 =>
      (gf Sh r6.2 3 x10 1).bind fun x11 =>
      some (x11, r6.2)
  else
    some ((-1), r6.2)
theorem L_X11_fitsBy_b41 {sc : Nat × (Nat → Int32)} {o : Int × Mem} {v0 v3 v4 : Int} {σ : Mem} (h : f_X11_fitsBy_b41 v0 v3 v4 σ = some o) : E sc (Fm Sh (some (0, o.1)) Sh o.2) mt_X11_fitsBy 4 Sh Sh 41 [(2, v0), (9, 0), (9, 0), (0, v3), (0, v4)] [] Sh σ := by
  unfold f_X11_fitsBy_b41 at h
  refine E_aload_n d_X11_fitsBy_41 rfl (by decide) ?_
  refine E_iload d_X11_fitsBy_42 rfl ?_
  refine bd h (fun r6 q7 h => ?_)
  refine E_cV (as := [(0, v4)]) (st := []) (a := v0) d_X11_fitsBy_44 mk_X11_refused nl_X11_132 (by omega) ⟨rfl, rfl, Nat.le_of_ble_eq_true rfl⟩ okX11 rfl (L_X11_refused q7) ?_
  refine E_if_eq (tgt := 52) d_X11_fitsBy_47 (by decide) h (fun _ h => ?_) (fun _ h => ?_)
  · refine E_iload_n d_X11_fitsBy_52 rfl ?_
    refine E_if_ne (tgt := 66) d_X11_fitsBy_53 (by decide) h (fun _ h => ?_) (fun _ h => ?_)
    · refine E_aload_n d_X11_fitsBy_56 rfl (by decide) ?_
      refine E_get d_X11_fitsBy_57 okX11 fl_X11_86 ⟨by decide, rfl⟩ h (fun x8 h => ?_)
      refine E_get d_X11_fitsBy_60 okX3 fl_X11_350 ⟨by decide, rfl⟩ h (fun x9 h => ?_)
      refine E_goto (tgt := 73) d_X11_fitsBy_63 (by decide) ?_
      cases h
      exact E_iret d_X11_fitsBy_73 rfl
    · refine E_aload_n d_X11_fitsBy_66 rfl (by decide) ?_
      refine E_get d_X11_fitsBy_67 okX11 fl_X11_86 ⟨by decide, rfl⟩ h (fun x10 h => ?_)
      refine E_get d_X11_fitsBy_70 okX3 fl_X11_353 ⟨by decide, rfl⟩ h (fun x11 h => ?_)
      cases h
      exact E_iret d_X11_fitsBy_73 rfl
  · refine E_iconst d_X11_fitsBy_50 (c32 rfl) ?_
    cases h
    exact E_iret d_X11_fitsBy_51 rfl
noncomputable def f_X11_fitsBy_b17 (v0 v3 s0 s1 s2 s3 : Int) (σ : Mem) : Option (Int × Mem) :=
  (f_X11_fitsWhy s3 s2 s1 s0 σ).bind fun r1 =>
  if r1.1 = 0 then
    (gf Sh r1.2 11 v0 12).bind fun x3 =>
    (f_X3_count x3 r1.2).bind fun r4 =>
    if r4 = 0 then
      f_X11_fitsBy_b41 v0 v3 8 r1.2
    else
      f_X11_fitsBy_b41 v0 v3 r1.1 r1.2
  else
    f_X11_fitsBy_b41 v0 v3 r1.1 r1.2
theorem L_X11_fitsBy_b17 {sc : Nat × (Nat → Int32)} {o : Int × Mem} {v0 v3 s0 s1 s2 s3 : Int} {σ : Mem} (h : f_X11_fitsBy_b17 v0 v3 s0 s1 s2 s3 σ = some o) : E sc (Fm Sh (some (0, o.1)) Sh o.2) mt_X11_fitsBy 4 Sh Sh 17 [(2, v0), (9, 0), (9, 0), (0, v3), (9, 0)] [(0, s0), (0, s1), (0, s2), (2, s3)] Sh σ := by
  unfold f_X11_fitsBy_b17 at h
  refine bd h (fun r1 q2 h => ?_)
  refine E_cV (as := [(0, s2), (0, s1), (0, s0)]) (st := []) (a := s3) d_X11_fitsBy_17 mk_X11_fitsWhy nl_X11_343 (by omega) ⟨rfl, rfl, Nat.le_of_ble_eq_true rfl⟩ okX11 rfl (L_X11_fitsWhy q2) ?_
  refine E_istore d_X11_fitsBy_20 (ls' := [(2, v0), (9, 0), (9, 0), (0, v3), (0, r1.1)]) ⟨by decide, rfl⟩ ?_
  refine E_iload d_X11_fitsBy_22 rfl ?_
  refine E_if_ne (tgt := 41) d_X11_fitsBy_24 (by decide) h (fun _ h => ?_) (fun _ h => ?_)
  · refine E_aload_n d_X11_fitsBy_27 rfl (by decide) ?_
    refine E_get d_X11_fitsBy_28 okX11 fl_X11_86 ⟨by decide, rfl⟩ h (fun x3 h => ?_)
    refine bd h (fun r4 q5 h => ?_)
    refine E_cV (as := []) (st := []) (a := x3) d_X11_fitsBy_31 mk_X3_count nl_X11_347 (by omega) ⟨rfl, rfl, Nat.le_of_ble_eq_true rfl⟩ okX3 rfl (L_X3_count q5) ?_
    refine E_if_ne (tgt := 41) d_X11_fitsBy_34 (by decide) h (fun _ h => ?_) (fun _ h => ?_)
    · refine E_bipush d_X11_fitsBy_37 (c8 rfl) ?_
      refine E_istore d_X11_fitsBy_39 (ls' := [(2, v0), (9, 0), (9, 0), (0, v3), (0, 8)]) ⟨by decide, rfl⟩ ?_
      exact (L_X11_fitsBy_b41 h)
    · exact (L_X11_fitsBy_b41 h)
  · exact (L_X11_fitsBy_b41 h)
noncomputable def f_X11_fitsBy_b12 (v0 v3 s0 s1 s2 : Int) (σ : Mem) : Option (Int × Mem) :=
  f_X11_fitsBy_b17 v0 v3 1 s0 s1 s2 σ
theorem L_X11_fitsBy_b12 {sc : Nat × (Nat → Int32)} {o : Int × Mem} {v0 v3 s0 s1 s2 : Int} {σ : Mem} (h : f_X11_fitsBy_b12 v0 v3 s0 s1 s2 σ = some o) : E sc (Fm Sh (some (0, o.1)) Sh o.2) mt_X11_fitsBy 4 Sh Sh 12 [(2, v0), (9, 0), (9, 0), (0, v3), (9, 0)] [(0, s0), (0, s1), (2, s2)] Sh σ := by
  unfold f_X11_fitsBy_b12 at h
  refine E_iconst d_X11_fitsBy_12 (c32 rfl) ?_
  refine E_goto (tgt := 17) d_X11_fitsBy_13 (by decide) ?_
  exact (L_X11_fitsBy_b17 h)
noncomputable def f_X11_fitsBy_b0 (v0 v1 v2 v3 : Int) (σ : Mem) : Option (Int × Mem) :=
  if v3 = 0 then
    f_X11_fitsBy_b12 v0 v3 v2 v1 v0 σ
  else
    if v3 = 1 then
      f_X11_fitsBy_b12 v0 v3 v2 v1 v0 σ
    else
      f_X11_fitsBy_b17 v0 v3 0 v2 v1 v0 σ
theorem L_X11_fitsBy_b0 {sc : Nat × (Nat → Int32)} {o : Int × Mem} {v0 v1 v2 v3 : Int} {σ : Mem} (h : f_X11_fitsBy_b0 v0 v1 v2 v3 σ = some o) : E sc (Fm Sh (some (0, o.1)) Sh o.2) mt_X11_fitsBy 4 Sh Sh 0 [(2, v0), (0, v1), (0, v2), (0, v3), (9, 0)] [] Sh σ := by
  unfold f_X11_fitsBy_b0 at h
  refine E_aload_n d_X11_fitsBy_0 rfl (by decide) ?_
  refine E_iload_n d_X11_fitsBy_1 rfl ?_
  refine E_iload_n d_X11_fitsBy_2 rfl ?_
  refine E_iload_n d_X11_fitsBy_3 rfl ?_
  refine E_if_eq (tgt := 12) d_X11_fitsBy_4 (by decide) h (fun _ h => ?_) (fun _ h => ?_)
  · exact E_weak (ls' := [(2, v0), (9, 0), (9, 0), (0, v3), (9, 0)]) ⟨Or.inr rfl, Or.inl rfl, Or.inl rfl, Or.inr rfl, Or.inl rfl, trivial⟩ (L_X11_fitsBy_b12 h)
  · refine E_iload_n d_X11_fitsBy_7 rfl ?_
    refine E_iconst d_X11_fitsBy_8 (c32 rfl) ?_
    refine E_icmp_ne (tgt := 16) d_X11_fitsBy_9 (by decide) h (fun _ h => ?_) (fun _ h => ?_)
    · exact E_weak (ls' := [(2, v0), (9, 0), (9, 0), (0, v3), (9, 0)]) ⟨Or.inr rfl, Or.inl rfl, Or.inl rfl, Or.inr rfl, Or.inl rfl, trivial⟩ (L_X11_fitsBy_b12 h)
    · refine E_iconst d_X11_fitsBy_16 (c32 rfl) ?_
      exact E_weak (ls' := [(2, v0), (9, 0), (9, 0), (0, v3), (9, 0)]) ⟨Or.inr rfl, Or.inl rfl, Or.inl rfl, Or.inr rfl, Or.inl rfl, trivial⟩ (L_X11_fitsBy_b17 h)
noncomputable def f_X11_fitsBy (v0 v1 v2 v3 : Int) (σ : Mem) : Option (Int × Mem) := if isO Sh 11 v0 = true then f_X11_fitsBy_b0 v0 v1 v2 v3 σ else none
theorem L_X11_fitsBy {o : Int × Mem} {v0 v1 v2 v3 : Int} {σ : Mem} (h : f_X11_fitsBy v0 v1 v2 v3 σ = some o) : (isO Sh 11 v0 = true ∧ Cn mt_X11_fitsBy 4 [(2, v0), (0, v1), (0, v2), (0, v3)] Sh σ (some (0, o.1)) Sh o.2) := ⟨(ite_ok h).1, Cn_of mk_X11_fitsBy.1.2.2.1 (Nat.le_of_ble_eq_true rfl) (fun sc => L_X11_fitsBy_b0 (ite_ok h).2)⟩
theorem d_X11_ask_0 : decode mt_X11_ask.2.1 0 = .ok (.aload_n 0, 1) := by decide +kernel
theorem d_X11_ask_1 : decode mt_X11_ask.2.1 1 = .ok (.iload_n 1, 1) := by decide +kernel
theorem d_X11_ask_2 : decode mt_X11_ask.2.1 2 = .ok (.iload_n 2, 1) := by decide +kernel
theorem d_X11_ask_3 : decode mt_X11_ask.2.1 3 = .ok (.iload_n 3, 1) := by decide +kernel
theorem d_X11_ask_4 : decode mt_X11_ask.2.1 4 = .ok (.ifCond .eq 8, 3) := by decide +kernel
theorem d_X11_ask_7 : decode mt_X11_ask.2.1 7 = .ok (.iload_n 3, 1) := by decide +kernel
theorem d_X11_ask_8 : decode mt_X11_ask.2.1 8 = .ok (.iconst 1, 1) := by decide +kernel
theorem d_X11_ask_9 : decode mt_X11_ask.2.1 9 = .ok (.if_icmp .ne 7, 3) := by decide +kernel
theorem d_X11_ask_12 : decode mt_X11_ask.2.1 12 = .ok (.iconst 1, 1) := by decide +kernel
theorem d_X11_ask_13 : decode mt_X11_ask.2.1 13 = .ok (.goto 4, 3) := by decide +kernel
theorem d_X11_ask_16 : decode mt_X11_ask.2.1 16 = .ok (.iconst 0, 1) := by decide +kernel
theorem d_X11_ask_17 : decode mt_X11_ask.2.1 17 = .ok (.invokevirtual 343, 3) := by decide +kernel
theorem d_X11_ask_20 : decode mt_X11_ask.2.1 20 = .ok (.istore 4, 2) := by decide +kernel
theorem d_X11_ask_22 : decode mt_X11_ask.2.1 22 = .ok (.iload 4, 2) := by decide +kernel
theorem d_X11_ask_24 : decode mt_X11_ask.2.1 24 = .ok (.ifCond .ne 28, 3) := by decide +kernel
theorem d_X11_ask_27 : decode mt_X11_ask.2.1 27 = .ok (.aload_n 0, 1) := by decide +kernel
theorem d_X11_ask_28 : decode mt_X11_ask.2.1 28 = .ok (.getfield 86, 3) := by decide +kernel
theorem d_X11_ask_31 : decode mt_X11_ask.2.1 31 = .ok (.invokevirtual 347, 3) := by decide +kernel
theorem d_X11_ask_34 : decode mt_X11_ask.2.1 34 = .ok (.iconst 2, 1) := by decide +kernel
theorem d_X11_ask_35 : decode mt_X11_ask.2.1 35 = .ok (.if_icmp .lt 13, 3) := by decide +kernel
theorem d_X11_ask_38 : decode mt_X11_ask.2.1 38 = .ok (.aload_n 0, 1) := by decide +kernel
theorem d_X11_ask_39 : decode mt_X11_ask.2.1 39 = .ok (.getfield 31, 3) := by decide +kernel
theorem d_X11_ask_42 : decode mt_X11_ask.2.1 42 = .ok (.getfield 236, 3) := by decide +kernel
theorem d_X11_ask_45 : decode mt_X11_ask.2.1 45 = .ok (.ifCond .ne 7, 3) := by decide +kernel
theorem d_X11_ask_48 : decode mt_X11_ask.2.1 48 = .ok (.bipush 8, 2) := by decide +kernel
theorem d_X11_ask_50 : decode mt_X11_ask.2.1 50 = .ok (.istore 4, 2) := by decide +kernel
theorem d_X11_ask_52 : decode mt_X11_ask.2.1 52 = .ok (.aload_n 0, 1) := by decide +kernel
theorem d_X11_ask_53 : decode mt_X11_ask.2.1 53 = .ok (.iload 4, 2) := by decide +kernel
theorem d_X11_ask_55 : decode mt_X11_ask.2.1 55 = .ok (.invokevirtual 132, 3) := by decide +kernel
theorem d_X11_ask_58 : decode mt_X11_ask.2.1 58 = .ok (.ifCond .eq 5, 3) := by decide +kernel
theorem d_X11_ask_61 : decode mt_X11_ask.2.1 61 = .ok (.iconst (-1), 1) := by decide +kernel
theorem d_X11_ask_62 : decode mt_X11_ask.2.1 62 = .ok (.ireturn, 1) := by decide +kernel
theorem d_X11_ask_63 : decode mt_X11_ask.2.1 63 = .ok (.aload_n 0, 1) := by decide +kernel
theorem d_X11_ask_64 : decode mt_X11_ask.2.1 64 = .ok (.getfield 86, 3) := by decide +kernel
theorem d_X11_ask_67 : decode mt_X11_ask.2.1 67 = .ok (.aload_n 0, 1) := by decide +kernel
theorem d_X11_ask_68 : decode mt_X11_ask.2.1 68 = .ok (.getfield 31, 3) := by decide +kernel
theorem d_X11_ask_71 : decode mt_X11_ask.2.1 71 = .ok (.invokevirtual 356, 3) := by decide +kernel
theorem d_X11_ask_74 : decode mt_X11_ask.2.1 74 = .ok (.iload_n 3, 1) := by decide +kernel
theorem d_X11_ask_75 : decode mt_X11_ask.2.1 75 = .ok (.ifCond .ne 13, 3) := by decide +kernel
theorem d_X11_ask_78 : decode mt_X11_ask.2.1 78 = .ok (.aload_n 0, 1) := by decide +kernel
theorem d_X11_ask_79 : decode mt_X11_ask.2.1 79 = .ok (.getfield 86, 3) := by decide +kernel
theorem d_X11_ask_82 : decode mt_X11_ask.2.1 82 = .ok (.getfield 359, 3) := by decide +kernel
theorem d_X11_ask_85 : decode mt_X11_ask.2.1 85 = .ok (.goto 10, 3) := by decide +kernel
theorem d_X11_ask_88 : decode mt_X11_ask.2.1 88 = .ok (.aload_n 0, 1) := by decide +kernel
theorem d_X11_ask_89 : decode mt_X11_ask.2.1 89 = .ok (.getfield 86, 3) := by decide +kernel
theorem d_X11_ask_92 : decode mt_X11_ask.2.1 92 = .ok (.getfield 362, 3) := by decide +kernel
theorem d_X11_ask_95 : decode mt_X11_ask.2.1 95 = .ok (.ireturn, 1) := by decide +kernel
noncomputable def f_X11_ask_b52 (v0 v3 v4 : Int) (σ : Mem) : Option (Int × Mem) :=
  (f_X11_refused v0 v4 σ).bind fun r8 =>
  if r8.1 = 0 then
    (gf Sh r8.2 11 v0 12).bind fun x10 =>
    (gf Sh r8.2 11 v0 3).bind fun x11 =>
    (f_X3_findQuestion x10 x11 r8.2).bind fun r12 =>
    if v3 = 0 then
      (gf Sh r12 11 v0 12).bind fun x14 =>
      (gf Sh r12 3 x14 2).bind fun x15 =>
      some (x15, r12)
    else
      (gf Sh r12 11 v0 12).bind fun x16 =>
      (gf Sh r12 3 x16 3).bind fun x17 =>
      some (x17, r12)
  else
    some ((-1), r8.2)
theorem L_X11_ask_b52 {sc : Nat × (Nat → Int32)} {o : Int × Mem} {v0 v3 v4 : Int} {σ : Mem} (h : f_X11_ask_b52 v0 v3 v4 σ = some o) : E sc (Fm Sh (some (0, o.1)) Sh o.2) mt_X11_ask 5 Sh Sh 52 [(2, v0), (9, 0), (9, 0), (0, v3), (0, v4)] [] Sh σ := by
  unfold f_X11_ask_b52 at h
  refine E_aload_n d_X11_ask_52 rfl (by decide) ?_
  refine E_iload d_X11_ask_53 rfl ?_
  refine bd h (fun r8 q9 h => ?_)
  refine E_cV (as := [(0, v4)]) (st := []) (a := v0) d_X11_ask_55 mk_X11_refused nl_X11_132 (by omega) ⟨rfl, rfl, Nat.le_of_ble_eq_true rfl⟩ okX11 rfl (L_X11_refused q9) ?_
  refine E_if_eq (tgt := 63) d_X11_ask_58 (by decide) h (fun _ h => ?_) (fun _ h => ?_)
  · refine E_aload_n d_X11_ask_63 rfl (by decide) ?_
    refine E_get d_X11_ask_64 okX11 fl_X11_86 ⟨by decide, rfl⟩ h (fun x10 h => ?_)
    refine E_aload_n d_X11_ask_67 rfl (by decide) ?_
    refine E_get d_X11_ask_68 okX11 fl_X11_31 ⟨by decide, rfl⟩ h (fun x11 h => ?_)
    refine bd h (fun r12 q13 h => ?_)
    refine E_cVv (as := [(2, x11)]) (st := []) (a := x10) d_X11_ask_71 mk_X3_findQuestion nl_X11_356 (by omega) ⟨rfl, rfl, Nat.le_of_ble_eq_true rfl⟩ okX3 rfl (L_X3_findQuestion q13) ?_
    refine E_iload_n d_X11_ask_74 rfl ?_
    refine E_if_ne (tgt := 88) d_X11_ask_75 (by decide) h (fun _ h => ?_) (fun _ h => ?_)
    · refine E_aload_n d_X11_ask_78 rfl (by decide) ?_
      refine E_get d_X11_ask_79 okX11 fl_X11_86 ⟨by decide, rfl⟩ h (fun x14 h => ?_)
      refine E_get d_X11_ask_82 okX3 fl_X11_359 ⟨by decide, rfl⟩ h (fun x15 h => ?_)
      refine E_goto (tgt := 95) d_X11_ask_85 (by decide) ?_
      cases h
      exact E_iret d_X11_ask_95 rfl
    · refine E_aload_n d_X11_ask_88 rfl (by decide) ?_
      refine E_get d_X11_ask_89 okX11 fl_X11_86 ⟨by decide, rfl⟩ h (fun x16 h => ?_)
      refine E_get d_X11_ask_92 okX3 fl_X11_362 ⟨by decide, rfl⟩ h (fun x17 h => ?_)
      cases h
      exact E_iret d_X11_ask_95 rfl
  · refine E_iconst d_X11_ask_61 (c32 rfl) ?_
    cases h
    exact E_iret d_X11_ask_62 rfl
noncomputable def f_X11_ask_b48 (v0 v3 : Int) (σ : Mem) : Option (Int × Mem) :=
  f_X11_ask_b52 v0 v3 8 σ
theorem L_X11_ask_b48 {sc : Nat × (Nat → Int32)} {o : Int × Mem} {v0 v3 : Int} {σ : Mem} (h : f_X11_ask_b48 v0 v3 σ = some o) : E sc (Fm Sh (some (0, o.1)) Sh o.2) mt_X11_ask 5 Sh Sh 48 [(2, v0), (9, 0), (9, 0), (0, v3), (9, 0)] [] Sh σ := by
  unfold f_X11_ask_b48 at h
  refine E_bipush d_X11_ask_48 (c8 rfl) ?_
  refine E_istore d_X11_ask_50 (ls' := [(2, v0), (9, 0), (9, 0), (0, v3), (0, 8)]) ⟨by decide, rfl⟩ ?_
  exact (L_X11_ask_b52 h)
noncomputable def f_X11_ask_b17 (v0 v3 s0 s1 s2 s3 : Int) (σ : Mem) : Option (Int × Mem) :=
  (f_X11_fitsWhy s3 s2 s1 s0 σ).bind fun r1 =>
  if r1.1 = 0 then
    (gf Sh r1.2 11 v0 12).bind fun x3 =>
    (f_X3_count x3 r1.2).bind fun r4 =>
    if r4 < 2 then
      f_X11_ask_b48 v0 v3 r1.2
    else
      (gf Sh r1.2 11 v0 3).bind fun x6 =>
      (gf Sh r1.2 9 x6 1).bind fun x7 =>
      if x7 = 0 then
        f_X11_ask_b48 v0 v3 r1.2
      else
        f_X11_ask_b52 v0 v3 r1.1 r1.2
  else
    f_X11_ask_b52 v0 v3 r1.1 r1.2
theorem L_X11_ask_b17 {sc : Nat × (Nat → Int32)} {o : Int × Mem} {v0 v3 s0 s1 s2 s3 : Int} {σ : Mem} (h : f_X11_ask_b17 v0 v3 s0 s1 s2 s3 σ = some o) : E sc (Fm Sh (some (0, o.1)) Sh o.2) mt_X11_ask 5 Sh Sh 17 [(2, v0), (9, 0), (9, 0), (0, v3), (9, 0)] [(0, s0), (0, s1), (0, s2), (2, s3)] Sh σ := by
  unfold f_X11_ask_b17 at h
  refine bd h (fun r1 q2 h => ?_)
  refine E_cV (as := [(0, s2), (0, s1), (0, s0)]) (st := []) (a := s3) d_X11_ask_17 mk_X11_fitsWhy nl_X11_343 (by omega) ⟨rfl, rfl, Nat.le_of_ble_eq_true rfl⟩ okX11 rfl (L_X11_fitsWhy q2) ?_
  refine E_istore d_X11_ask_20 (ls' := [(2, v0), (9, 0), (9, 0), (0, v3), (0, r1.1)]) ⟨by decide, rfl⟩ ?_
  refine E_iload d_X11_ask_22 rfl ?_
  refine E_if_ne (tgt := 52) d_X11_ask_24 (by decide) h (fun _ h => ?_) (fun _ h => ?_)
  · refine E_aload_n d_X11_ask_27 rfl (by decide) ?_
    refine E_get d_X11_ask_28 okX11 fl_X11_86 ⟨by decide, rfl⟩ h (fun x3 h => ?_)
    refine bd h (fun r4 q5 h => ?_)
    refine E_cV (as := []) (st := []) (a := x3) d_X11_ask_31 mk_X3_count nl_X11_347 (by omega) ⟨rfl, rfl, Nat.le_of_ble_eq_true rfl⟩ okX3 rfl (L_X3_count q5) ?_
    refine E_iconst d_X11_ask_34 (c32 rfl) ?_
    refine E_icmp_lt (tgt := 48) d_X11_ask_35 (by decide) h (fun _ h => ?_) (fun _ h => ?_)
    · exact E_weak (ls' := [(2, v0), (9, 0), (9, 0), (0, v3), (9, 0)]) ⟨Or.inr rfl, Or.inl rfl, Or.inl rfl, Or.inr rfl, Or.inl rfl, trivial⟩ (L_X11_ask_b48 h)
    · refine E_aload_n d_X11_ask_38 rfl (by decide) ?_
      refine E_get d_X11_ask_39 okX11 fl_X11_31 ⟨by decide, rfl⟩ h (fun x6 h => ?_)
      refine E_get d_X11_ask_42 okX9 fl_X11_236 ⟨by decide, rfl⟩ h (fun x7 h => ?_)
      refine E_if_ne (tgt := 52) d_X11_ask_45 (by decide) h (fun _ h => ?_) (fun _ h => ?_)
      · exact E_weak (ls' := [(2, v0), (9, 0), (9, 0), (0, v3), (9, 0)]) ⟨Or.inr rfl, Or.inl rfl, Or.inl rfl, Or.inr rfl, Or.inl rfl, trivial⟩ (L_X11_ask_b48 h)
      · exact (L_X11_ask_b52 h)
  · exact (L_X11_ask_b52 h)
noncomputable def f_X11_ask_b12 (v0 v3 s0 s1 s2 : Int) (σ : Mem) : Option (Int × Mem) :=
  f_X11_ask_b17 v0 v3 1 s0 s1 s2 σ
theorem L_X11_ask_b12 {sc : Nat × (Nat → Int32)} {o : Int × Mem} {v0 v3 s0 s1 s2 : Int} {σ : Mem} (h : f_X11_ask_b12 v0 v3 s0 s1 s2 σ = some o) : E sc (Fm Sh (some (0, o.1)) Sh o.2) mt_X11_ask 5 Sh Sh 12 [(2, v0), (9, 0), (9, 0), (0, v3), (9, 0)] [(0, s0), (0, s1), (2, s2)] Sh σ := by
  unfold f_X11_ask_b12 at h
  refine E_iconst d_X11_ask_12 (c32 rfl) ?_
  refine E_goto (tgt := 17) d_X11_ask_13 (by decide) ?_
  exact (L_X11_ask_b17 h)
noncomputable def f_X11_ask_b0 (v0 v1 v2 v3 : Int) (σ : Mem) : Option (Int × Mem) :=
  if v3 = 0 then
    f_X11_ask_b12 v0 v3 v2 v1 v0 σ
  else
    if v3 = 1 then
      f_X11_ask_b12 v0 v3 v2 v1 v0 σ
    else
      f_X11_ask_b17 v0 v3 0 v2 v1 v0 σ
theorem L_X11_ask_b0 {sc : Nat × (Nat → Int32)} {o : Int × Mem} {v0 v1 v2 v3 : Int} {σ : Mem} (h : f_X11_ask_b0 v0 v1 v2 v3 σ = some o) : E sc (Fm Sh (some (0, o.1)) Sh o.2) mt_X11_ask 5 Sh Sh 0 [(2, v0), (0, v1), (0, v2), (0, v3), (9, 0)] [] Sh σ := by
  unfold f_X11_ask_b0 at h
  refine E_aload_n d_X11_ask_0 rfl (by decide) ?_
  refine E_iload_n d_X11_ask_1 rfl ?_
  refine E_iload_n d_X11_ask_2 rfl ?_
  refine E_iload_n d_X11_ask_3 rfl ?_
  refine E_if_eq (tgt := 12) d_X11_ask_4 (by decide) h (fun _ h => ?_) (fun _ h => ?_)
  · exact E_weak (ls' := [(2, v0), (9, 0), (9, 0), (0, v3), (9, 0)]) ⟨Or.inr rfl, Or.inl rfl, Or.inl rfl, Or.inr rfl, Or.inl rfl, trivial⟩ (L_X11_ask_b12 h)
  · refine E_iload_n d_X11_ask_7 rfl ?_
    refine E_iconst d_X11_ask_8 (c32 rfl) ?_
    refine E_icmp_ne (tgt := 16) d_X11_ask_9 (by decide) h (fun _ h => ?_) (fun _ h => ?_)
    · exact E_weak (ls' := [(2, v0), (9, 0), (9, 0), (0, v3), (9, 0)]) ⟨Or.inr rfl, Or.inl rfl, Or.inl rfl, Or.inr rfl, Or.inl rfl, trivial⟩ (L_X11_ask_b12 h)
    · refine E_iconst d_X11_ask_16 (c32 rfl) ?_
      exact E_weak (ls' := [(2, v0), (9, 0), (9, 0), (0, v3), (9, 0)]) ⟨Or.inr rfl, Or.inl rfl, Or.inl rfl, Or.inr rfl, Or.inl rfl, trivial⟩ (L_X11_ask_b17 h)
noncomputable def f_X11_ask (v0 v1 v2 v3 : Int) (σ : Mem) : Option (Int × Mem) := if isO Sh 11 v0 = true then f_X11_ask_b0 v0 v1 v2 v3 σ else none
theorem L_X11_ask {o : Int × Mem} {v0 v1 v2 v3 : Int} {σ : Mem} (h : f_X11_ask v0 v1 v2 v3 σ = some o) : (isO Sh 11 v0 = true ∧ Cn mt_X11_ask 5 [(2, v0), (0, v1), (0, v2), (0, v3)] Sh σ (some (0, o.1)) Sh o.2) := ⟨(ite_ok h).1, Cn_of mk_X11_ask.1.2.2.1 (Nat.le_of_ble_eq_true rfl) (fun sc => L_X11_ask_b0 (ite_ok h).2)⟩
theorem d_X11_cutsWhy_0 : decode mt_X11_cutsWhy.2.1 0 = .ok (.aload_n 0, 1) := by decide +kernel
theorem d_X11_cutsWhy_1 : decode mt_X11_cutsWhy.2.1 1 = .ok (.iload_n 1, 1) := by decide +kernel
theorem d_X11_cutsWhy_2 : decode mt_X11_cutsWhy.2.1 2 = .ok (.iload_n 2, 1) := by decide +kernel
theorem d_X11_cutsWhy_3 : decode mt_X11_cutsWhy.2.1 3 = .ok (.bipush 6, 2) := by decide +kernel
theorem d_X11_cutsWhy_5 : decode mt_X11_cutsWhy.2.1 5 = .ok (.invokevirtual 365, 3) := by decide +kernel
theorem d_X11_cutsWhy_8 : decode mt_X11_cutsWhy.2.1 8 = .ok (.istore_n 3, 1) := by decide +kernel
theorem d_X11_cutsWhy_9 : decode mt_X11_cutsWhy.2.1 9 = .ok (.iload_n 3, 1) := by decide +kernel
theorem d_X11_cutsWhy_10 : decode mt_X11_cutsWhy.2.1 10 = .ok (.ifCond .eq 5, 3) := by decide +kernel
theorem d_X11_cutsWhy_13 : decode mt_X11_cutsWhy.2.1 13 = .ok (.iload_n 3, 1) := by decide +kernel
theorem d_X11_cutsWhy_14 : decode mt_X11_cutsWhy.2.1 14 = .ok (.ireturn, 1) := by decide +kernel
theorem d_X11_cutsWhy_15 : decode mt_X11_cutsWhy.2.1 15 = .ok (.aload_n 0, 1) := by decide +kernel
theorem d_X11_cutsWhy_16 : decode mt_X11_cutsWhy.2.1 16 = .ok (.getfield 11, 3) := by decide +kernel
theorem d_X11_cutsWhy_19 : decode mt_X11_cutsWhy.2.1 19 = .ok (.iload_n 1, 1) := by decide +kernel
theorem d_X11_cutsWhy_20 : decode mt_X11_cutsWhy.2.1 20 = .ok (.aaload, 1) := by decide +kernel
theorem d_X11_cutsWhy_21 : decode mt_X11_cutsWhy.2.1 21 = .ok (.getfield 149, 3) := by decide +kernel
theorem d_X11_cutsWhy_24 : decode mt_X11_cutsWhy.2.1 24 = .ok (.astore 4, 2) := by decide +kernel
theorem d_X11_cutsWhy_26 : decode mt_X11_cutsWhy.2.1 26 = .ok (.aload_n 0, 1) := by decide +kernel
theorem d_X11_cutsWhy_27 : decode mt_X11_cutsWhy.2.1 27 = .ok (.getfield 93, 3) := by decide +kernel
theorem d_X11_cutsWhy_30 : decode mt_X11_cutsWhy.2.1 30 = .ok (.aload_n 0, 1) := by decide +kernel
theorem d_X11_cutsWhy_31 : decode mt_X11_cutsWhy.2.1 31 = .ok (.getfield 31, 3) := by decide +kernel
theorem d_X11_cutsWhy_34 : decode mt_X11_cutsWhy.2.1 34 = .ok (.getfield 236, 3) := by decide +kernel
theorem d_X11_cutsWhy_37 : decode mt_X11_cutsWhy.2.1 37 = .ok (.invokevirtual 388, 3) := by decide +kernel
theorem d_X11_cutsWhy_40 : decode mt_X11_cutsWhy.2.1 40 = .ok (.iconst 0, 1) := by decide +kernel
theorem d_X11_cutsWhy_41 : decode mt_X11_cutsWhy.2.1 41 = .ok (.istore 5, 2) := by decide +kernel
theorem d_X11_cutsWhy_43 : decode mt_X11_cutsWhy.2.1 43 = .ok (.iload 5, 2) := by decide +kernel
theorem d_X11_cutsWhy_45 : decode mt_X11_cutsWhy.2.1 45 = .ok (.iload_n 2, 1) := by decide +kernel
theorem d_X11_cutsWhy_46 : decode mt_X11_cutsWhy.2.1 46 = .ok (.if_icmp .ge 122, 3) := by decide +kernel
theorem d_X11_cutsWhy_49 : decode mt_X11_cutsWhy.2.1 49 = .ok (.aload 4, 2) := by decide +kernel
theorem d_X11_cutsWhy_51 : decode mt_X11_cutsWhy.2.1 51 = .ok (.iconst 3, 1) := by decide +kernel
theorem d_X11_cutsWhy_52 : decode mt_X11_cutsWhy.2.1 52 = .ok (.iload 5, 2) := by decide +kernel
theorem d_X11_cutsWhy_54 : decode mt_X11_cutsWhy.2.1 54 = .ok (.imul, 1) := by decide +kernel
theorem d_X11_cutsWhy_55 : decode mt_X11_cutsWhy.2.1 55 = .ok (.laload, 1) := by decide +kernel
theorem d_X11_cutsWhy_56 : decode mt_X11_cutsWhy.2.1 56 = .ok (.lstore 6, 2) := by decide +kernel
theorem d_X11_cutsWhy_58 : decode mt_X11_cutsWhy.2.1 58 = .ok (.aload 4, 2) := by decide +kernel
theorem d_X11_cutsWhy_60 : decode mt_X11_cutsWhy.2.1 60 = .ok (.iconst 3, 1) := by decide +kernel
theorem d_X11_cutsWhy_61 : decode mt_X11_cutsWhy.2.1 61 = .ok (.iload 5, 2) := by decide +kernel
theorem d_X11_cutsWhy_63 : decode mt_X11_cutsWhy.2.1 63 = .ok (.imul, 1) := by decide +kernel
theorem d_X11_cutsWhy_64 : decode mt_X11_cutsWhy.2.1 64 = .ok (.iconst 1, 1) := by decide +kernel
theorem d_X11_cutsWhy_65 : decode mt_X11_cutsWhy.2.1 65 = .ok (.iadd, 1) := by decide +kernel
theorem d_X11_cutsWhy_66 : decode mt_X11_cutsWhy.2.1 66 = .ok (.laload, 1) := by decide +kernel
theorem d_X11_cutsWhy_67 : decode mt_X11_cutsWhy.2.1 67 = .ok (.lstore 8, 2) := by decide +kernel
theorem d_X11_cutsWhy_69 : decode mt_X11_cutsWhy.2.1 69 = .ok (.aload 4, 2) := by decide +kernel
theorem d_X11_cutsWhy_71 : decode mt_X11_cutsWhy.2.1 71 = .ok (.iconst 3, 1) := by decide +kernel
theorem d_X11_cutsWhy_72 : decode mt_X11_cutsWhy.2.1 72 = .ok (.iload 5, 2) := by decide +kernel
theorem d_X11_cutsWhy_74 : decode mt_X11_cutsWhy.2.1 74 = .ok (.imul, 1) := by decide +kernel
theorem d_X11_cutsWhy_75 : decode mt_X11_cutsWhy.2.1 75 = .ok (.iconst 2, 1) := by decide +kernel
theorem d_X11_cutsWhy_76 : decode mt_X11_cutsWhy.2.1 76 = .ok (.iadd, 1) := by decide +kernel
theorem d_X11_cutsWhy_77 : decode mt_X11_cutsWhy.2.1 77 = .ok (.laload, 1) := by decide +kernel
theorem d_X11_cutsWhy_78 : decode mt_X11_cutsWhy.2.1 78 = .ok (.lstore 10, 2) := by decide +kernel
theorem d_X11_cutsWhy_80 : decode mt_X11_cutsWhy.2.1 80 = .ok (.lload 6, 2) := by decide +kernel
theorem d_X11_cutsWhy_82 : decode mt_X11_cutsWhy.2.1 82 = .ok (.invokestatic 310, 3) := by decide +kernel
theorem d_X11_cutsWhy_85 : decode mt_X11_cutsWhy.2.1 85 = .ok (.ifCond .eq 29, 3) := by decide +kernel
theorem d_X11_cutsWhy_88 : decode mt_X11_cutsWhy.2.1 88 = .ok (.aload_n 0, 1) := by decide +kernel
theorem d_X11_cutsWhy_89 : decode mt_X11_cutsWhy.2.1 89 = .ok (.getfield 31, 3) := by decide +kernel
theorem d_X11_cutsWhy_92 : decode mt_X11_cutsWhy.2.1 92 = .ok (.lload 8, 2) := by decide +kernel
theorem d_X11_cutsWhy_94 : decode mt_X11_cutsWhy.2.1 94 = .ok (.invokevirtual 290, 3) := by decide +kernel
theorem d_X11_cutsWhy_97 : decode mt_X11_cutsWhy.2.1 97 = .ok (.ifCond .eq 17, 3) := by decide +kernel
theorem d_X11_cutsWhy_100 : decode mt_X11_cutsWhy.2.1 100 = .ok (.lload 10, 2) := by decide +kernel
theorem d_X11_cutsWhy_102 : decode mt_X11_cutsWhy.2.1 102 = .ok (.lconst 0, 1) := by decide +kernel
theorem d_X11_cutsWhy_103 : decode mt_X11_cutsWhy.2.1 103 = .ok (.lcmp, 1) := by decide +kernel
theorem d_X11_cutsWhy_104 : decode mt_X11_cutsWhy.2.1 104 = .ok (.ifCond .lt 10, 3) := by decide +kernel
theorem d_X11_cutsWhy_107 : decode mt_X11_cutsWhy.2.1 107 = .ok (.lload 10, 2) := by decide +kernel
theorem d_X11_cutsWhy_109 : decode mt_X11_cutsWhy.2.1 109 = .ok (.lconst 1, 1) := by decide +kernel
theorem d_X11_cutsWhy_110 : decode mt_X11_cutsWhy.2.1 110 = .ok (.lcmp, 1) := by decide +kernel
theorem d_X11_cutsWhy_111 : decode mt_X11_cutsWhy.2.1 111 = .ok (.ifCond .le 5, 3) := by decide +kernel
theorem d_X11_cutsWhy_114 : decode mt_X11_cutsWhy.2.1 114 = .ok (.iconst 5, 1) := by decide +kernel
theorem d_X11_cutsWhy_115 : decode mt_X11_cutsWhy.2.1 115 = .ok (.ireturn, 1) := by decide +kernel
theorem d_X11_cutsWhy_116 : decode mt_X11_cutsWhy.2.1 116 = .ok (.aload_n 0, 1) := by decide +kernel
theorem d_X11_cutsWhy_117 : decode mt_X11_cutsWhy.2.1 117 = .ok (.getfield 31, 3) := by decide +kernel
theorem d_X11_cutsWhy_120 : decode mt_X11_cutsWhy.2.1 120 = .ok (.lload 6, 2) := by decide +kernel
theorem d_X11_cutsWhy_122 : decode mt_X11_cutsWhy.2.1 122 = .ok (.l2i, 1) := by decide +kernel
theorem d_X11_cutsWhy_123 : decode mt_X11_cutsWhy.2.1 123 = .ok (.lload 8, 2) := by decide +kernel
theorem d_X11_cutsWhy_125 : decode mt_X11_cutsWhy.2.1 125 = .ok (.l2i, 1) := by decide +kernel
theorem d_X11_cutsWhy_126 : decode mt_X11_cutsWhy.2.1 126 = .ok (.iconst 0, 1) := by decide +kernel
theorem d_X11_cutsWhy_127 : decode mt_X11_cutsWhy.2.1 127 = .ok (.invokevirtual 324, 3) := by decide +kernel
theorem d_X11_cutsWhy_130 : decode mt_X11_cutsWhy.2.1 130 = .ok (.istore 12, 2) := by decide +kernel
theorem d_X11_cutsWhy_132 : decode mt_X11_cutsWhy.2.1 132 = .ok (.aload_n 0, 1) := by decide +kernel
theorem d_X11_cutsWhy_133 : decode mt_X11_cutsWhy.2.1 133 = .ok (.getfield 93, 3) := by decide +kernel
theorem d_X11_cutsWhy_136 : decode mt_X11_cutsWhy.2.1 136 = .ok (.aload_n 0, 1) := by decide +kernel
theorem d_X11_cutsWhy_137 : decode mt_X11_cutsWhy.2.1 137 = .ok (.getfield 31, 3) := by decide +kernel
theorem d_X11_cutsWhy_140 : decode mt_X11_cutsWhy.2.1 140 = .ok (.lload 8, 2) := by decide +kernel
theorem d_X11_cutsWhy_142 : decode mt_X11_cutsWhy.2.1 142 = .ok (.invokevirtual 294, 3) := by decide +kernel
theorem d_X11_cutsWhy_145 : decode mt_X11_cutsWhy.2.1 145 = .ok (.iload 12, 2) := by decide +kernel
theorem d_X11_cutsWhy_147 : decode mt_X11_cutsWhy.2.1 147 = .ok (.lload 10, 2) := by decide +kernel
theorem d_X11_cutsWhy_149 : decode mt_X11_cutsWhy.2.1 149 = .ok (.lconst 1, 1) := by decide +kernel
theorem d_X11_cutsWhy_150 : decode mt_X11_cutsWhy.2.1 150 = .ok (.lcmp, 1) := by decide +kernel
theorem d_X11_cutsWhy_151 : decode mt_X11_cutsWhy.2.1 151 = .ok (.ifCond .ne 7, 3) := by decide +kernel
theorem d_X11_cutsWhy_154 : decode mt_X11_cutsWhy.2.1 154 = .ok (.iconst 1, 1) := by decide +kernel
theorem d_X11_cutsWhy_155 : decode mt_X11_cutsWhy.2.1 155 = .ok (.goto 4, 3) := by decide +kernel
theorem d_X11_cutsWhy_158 : decode mt_X11_cutsWhy.2.1 158 = .ok (.iconst 0, 1) := by decide +kernel
theorem d_X11_cutsWhy_159 : decode mt_X11_cutsWhy.2.1 159 = .ok (.invokevirtual 389, 3) := by decide +kernel
theorem d_X11_cutsWhy_162 : decode mt_X11_cutsWhy.2.1 162 = .ok (.iinc 5 1, 3) := by decide +kernel
theorem d_X11_cutsWhy_165 : decode mt_X11_cutsWhy.2.1 165 = .ok (.goto (-122), 3) := by decide +kernel
theorem d_X11_cutsWhy_168 : decode mt_X11_cutsWhy.2.1 168 = .ok (.aload_n 0, 1) := by decide +kernel
theorem d_X11_cutsWhy_169 : decode mt_X11_cutsWhy.2.1 169 = .ok (.getfield 93, 3) := by decide +kernel
theorem d_X11_cutsWhy_172 : decode mt_X11_cutsWhy.2.1 172 = .ok (.invokevirtual 392, 3) := by decide +kernel
theorem d_X11_cutsWhy_175 : decode mt_X11_cutsWhy.2.1 175 = .ok (.ifCond .eq 7, 3) := by decide +kernel
theorem d_X11_cutsWhy_178 : decode mt_X11_cutsWhy.2.1 178 = .ok (.iconst 0, 1) := by decide +kernel
theorem d_X11_cutsWhy_179 : decode mt_X11_cutsWhy.2.1 179 = .ok (.goto 5, 3) := by decide +kernel
theorem d_X11_cutsWhy_182 : decode mt_X11_cutsWhy.2.1 182 = .ok (.bipush 8, 2) := by decide +kernel
theorem d_X11_cutsWhy_184 : decode mt_X11_cutsWhy.2.1 184 = .ok (.ireturn, 1) := by decide +kernel
noncomputable def f_X11_cutsWhy_b159 (k43 : (Int → Int → Int → Int → Mem → Option (Int × Mem))) (v0 v2 v4 v5 s0 s1 s2 s3 : Int) (σ : Mem) : Option (Int × Mem) :=
  (f_X0_tell s3 s2 s1 s0 σ).bind fun r29 =>
  k43 v0 v2 v4 (w32 (v5 + 1)) r29
theorem L_X11_cutsWhy_b159 {sc : Nat × (Nat → Int32)} {o : Int × Mem} {k43 : (Int → Int → Int → Int → Mem → Option (Int × Mem))} (hk43 : ∀ {v0 v2 v4 v5 : Int} {σ : Mem}, k43 v0 v2 v4 v5 σ = some o → E sc (Fm Sh (some (0, o.1)) Sh o.2) mt_X11_cutsWhy 162 Sh Sh 43 [(2, v0), (9, 0), (0, v2), (9, 0), (2, v4), (0, v5), (9, 0), (9, 0), (9, 0), (9, 0), (9, 0), (9, 0), (9, 0)] [] Sh σ) {v0 v2 v4 v5 s0 s1 s2 s3 : Int} {σ : Mem} (h : f_X11_cutsWhy_b159 k43 v0 v2 v4 v5 s0 s1 s2 s3 σ = some o) : E sc (Fm Sh (some (0, o.1)) Sh o.2) mt_X11_cutsWhy 162 Sh Sh 159 [(2, v0), (9, 0), (0, v2), (9, 0), (2, v4), (0, v5), (9, 0), (9, 0), (9, 0), (9, 0), (9, 0), (9, 0), (9, 0)] [(0, s0), (0, s1), (0, s2), (2, s3)] Sh σ := by
  unfold f_X11_cutsWhy_b159 at h
  refine bd h (fun r29 q30 h => ?_)
  refine E_cVv (as := [(0, s2), (0, s1), (0, s0)]) (st := []) (a := s3) d_X11_cutsWhy_159 mk_X0_tell nl_X11_389 (by omega) ⟨rfl, rfl, Nat.le_of_ble_eq_true rfl⟩ okX0 rfl (L_X0_tell q30) ?_
  refine E_iinc d_X11_cutsWhy_162 (ls' := [(2, v0), (9, 0), (0, v2), (9, 0), (2, v4), (0, w32 (v5 + 1)), (9, 0), (9, 0), (9, 0), (9, 0), (9, 0), (9, 0), (9, 0)]) rfl ⟨by decide, rfl⟩ ?_
  refine E_goto (tgt := 43) d_X11_cutsWhy_165 (by decide) ?_
  exact (hk43 h)
noncomputable def f_X11_cutsWhy_b43 (k43 : (Int → Int → Int → Int → Mem → Option (Int × Mem))) (v0 v2 v4 v5 : Int) (σ : Mem) : Option (Int × Mem) :=
  if v2 ≤ v5 then
    (gf Sh σ 11 v0 13).bind fun x11 =>
    (f_X0_findWay x11 σ).bind fun r12 =>
    if r12.1 = 0 then
      some (8, r12.2)
    else
      some (0, r12.2)
  else
    (al Sh σ 21 v4 (w32 (3 * v5))).bind fun x14 =>
    (al Sh σ 21 v4 (w32 (w32 (3 * v5) + 1))).bind fun x15 =>
    (al Sh σ 21 v4 (w32 (w32 (3 * v5) + 2))).bind fun x16 =>
    (f_X11_isGuilt x14 σ).bind fun r17 =>
    if r17 = 0 then
      some (5, σ)
    else
      (gf Sh σ 11 v0 3).bind fun x19 =>
      (f_X9_isPlace x19 x15 σ).bind fun r20 =>
      if r20 = 0 then
        some (5, σ)
      else
        if lcmp x16 0 < 0 then
          some (5, σ)
        else
          if lcmp x16 1 ≤ 0 then
            (gf Sh σ 11 v0 3).bind fun x22 =>
            (f_X9_turningFrom x22 (w32 x14) (w32 x15) 0 σ).bind fun r23 =>
            (gf Sh σ 11 v0 13).bind fun x25 =>
            (gf Sh σ 11 v0 3).bind fun x26 =>
            (f_X9_isStone x26 x15 σ).bind fun r27 =>
            if lcmp x16 1 = 0 then
              f_X11_cutsWhy_b159 k43 v0 v2 v4 v5 1 r23 r27 x25 σ
            else
              f_X11_cutsWhy_b159 k43 v0 v2 v4 v5 0 r23 r27 x25 σ
          else
            some (5, σ)
theorem L_X11_cutsWhy_b43 {sc : Nat × (Nat → Int32)} {o : Int × Mem} {k43 : (Int → Int → Int → Int → Mem → Option (Int × Mem))} (hk43 : ∀ {v0 v2 v4 v5 : Int} {σ : Mem}, k43 v0 v2 v4 v5 σ = some o → E sc (Fm Sh (some (0, o.1)) Sh o.2) mt_X11_cutsWhy 162 Sh Sh 43 [(2, v0), (9, 0), (0, v2), (9, 0), (2, v4), (0, v5), (9, 0), (9, 0), (9, 0), (9, 0), (9, 0), (9, 0), (9, 0)] [] Sh σ) {v0 v2 v4 v5 : Int} {σ : Mem} (h : f_X11_cutsWhy_b43 k43 v0 v2 v4 v5 σ = some o) : E sc (Fm Sh (some (0, o.1)) Sh o.2) mt_X11_cutsWhy 162 Sh Sh 43 [(2, v0), (9, 0), (0, v2), (9, 0), (2, v4), (0, v5), (9, 0), (9, 0), (9, 0), (9, 0), (9, 0), (9, 0), (9, 0)] [] Sh σ := by
  unfold f_X11_cutsWhy_b43 at h
  refine E_iload d_X11_cutsWhy_43 rfl ?_
  refine E_iload_n d_X11_cutsWhy_45 rfl ?_
  refine E_icmp_ge (tgt := 168) d_X11_cutsWhy_46 (by decide) h (fun _ h => ?_) (fun _ h => ?_)
  · refine E_aload_n d_X11_cutsWhy_168 rfl (by decide) ?_
    refine E_get d_X11_cutsWhy_169 okX11 fl_X11_93 ⟨by decide, rfl⟩ h (fun x11 h => ?_)
    refine bd h (fun r12 q13 h => ?_)
    refine E_cV (as := []) (st := []) (a := x11) d_X11_cutsWhy_172 mk_X0_findWay nl_X11_392 (by omega) ⟨rfl, rfl, Nat.le_of_ble_eq_true rfl⟩ okX0 rfl (L_X0_findWay q13) ?_
    refine E_if_eq (tgt := 182) d_X11_cutsWhy_175 (by decide) h (fun _ h => ?_) (fun _ h => ?_)
    · refine E_bipush d_X11_cutsWhy_182 (c8 rfl) ?_
      cases h
      exact E_iret d_X11_cutsWhy_184 rfl
    · refine E_iconst d_X11_cutsWhy_178 (c32 rfl) ?_
      refine E_goto (tgt := 184) d_X11_cutsWhy_179 (by decide) ?_
      cases h
      exact E_iret d_X11_cutsWhy_184 rfl
  · refine E_aload d_X11_cutsWhy_49 rfl (by decide) ?_
    refine E_iconst d_X11_cutsWhy_51 (c32 rfl) ?_
    refine E_iload d_X11_cutsWhy_52 rfl ?_
    refine E_imul d_X11_cutsWhy_54 ?_
    refine E_laload d_X11_cutsWhy_55 h (fun x14 h => ?_)
    refine E_lstore d_X11_cutsWhy_56 (ls' := [(2, v0), (9, 0), (0, v2), (9, 0), (2, v4), (0, v5), (1, x14), (9, 0), (9, 0), (9, 0), (9, 0), (9, 0), (9, 0)]) ⟨by decide, rfl⟩ ?_
    refine E_aload d_X11_cutsWhy_58 rfl (by decide) ?_
    refine E_iconst d_X11_cutsWhy_60 (c32 rfl) ?_
    refine E_iload d_X11_cutsWhy_61 rfl ?_
    refine E_imul d_X11_cutsWhy_63 ?_
    refine E_iconst d_X11_cutsWhy_64 (c32 rfl) ?_
    refine E_iadd d_X11_cutsWhy_65 ?_
    refine E_laload d_X11_cutsWhy_66 h (fun x15 h => ?_)
    refine E_lstore d_X11_cutsWhy_67 (ls' := [(2, v0), (9, 0), (0, v2), (9, 0), (2, v4), (0, v5), (1, x14), (9, 0), (1, x15), (9, 0), (9, 0), (9, 0), (9, 0)]) ⟨by decide, rfl⟩ ?_
    refine E_aload d_X11_cutsWhy_69 rfl (by decide) ?_
    refine E_iconst d_X11_cutsWhy_71 (c32 rfl) ?_
    refine E_iload d_X11_cutsWhy_72 rfl ?_
    refine E_imul d_X11_cutsWhy_74 ?_
    refine E_iconst d_X11_cutsWhy_75 (c32 rfl) ?_
    refine E_iadd d_X11_cutsWhy_76 ?_
    refine E_laload d_X11_cutsWhy_77 h (fun x16 h => ?_)
    refine E_lstore d_X11_cutsWhy_78 (ls' := [(2, v0), (9, 0), (0, v2), (9, 0), (2, v4), (0, v5), (1, x14), (9, 0), (1, x15), (9, 0), (1, x16), (9, 0), (9, 0)]) ⟨by decide, rfl⟩ ?_
    refine E_lload d_X11_cutsWhy_80 rfl ?_
    refine bd h (fun r17 q18 h => ?_)
    refine E_cS (as := [(1, x14)]) (st := []) d_X11_cutsWhy_82 mk_X11_isGuilt nl_X11_310 (by omega) ⟨rfl, rfl, Nat.le_of_ble_eq_true rfl⟩ (L_X11_isGuilt q18) ?_
    refine E_if_eq (tgt := 114) d_X11_cutsWhy_85 (by decide) h (fun _ h => ?_) (fun _ h => ?_)
    · refine E_iconst d_X11_cutsWhy_114 (c32 rfl) ?_
      cases h
      exact E_iret d_X11_cutsWhy_115 rfl
    · refine E_aload_n d_X11_cutsWhy_88 rfl (by decide) ?_
      refine E_get d_X11_cutsWhy_89 okX11 fl_X11_31 ⟨by decide, rfl⟩ h (fun x19 h => ?_)
      refine E_lload d_X11_cutsWhy_92 rfl ?_
      refine bd h (fun r20 q21 h => ?_)
      refine E_cV (as := [(1, x15)]) (st := []) (a := x19) d_X11_cutsWhy_94 mk_X9_isPlace nl_X11_290 (by omega) ⟨rfl, rfl, Nat.le_of_ble_eq_true rfl⟩ okX9 rfl (L_X9_isPlace q21) ?_
      refine E_if_eq (tgt := 114) d_X11_cutsWhy_97 (by decide) h (fun _ h => ?_) (fun _ h => ?_)
      · refine E_iconst d_X11_cutsWhy_114 (c32 rfl) ?_
        cases h
        exact E_iret d_X11_cutsWhy_115 rfl
      · refine E_lload d_X11_cutsWhy_100 rfl ?_
        refine E_lconst d_X11_cutsWhy_102 cl0 ?_
        refine E_lcmp d_X11_cutsWhy_103 ?_
        refine E_if_lt (tgt := 114) d_X11_cutsWhy_104 (by decide) h (fun _ h => ?_) (fun _ h => ?_)
        · refine E_iconst d_X11_cutsWhy_114 (c32 rfl) ?_
          cases h
          exact E_iret d_X11_cutsWhy_115 rfl
        · refine E_lload d_X11_cutsWhy_107 rfl ?_
          refine E_lconst d_X11_cutsWhy_109 cl1 ?_
          refine E_lcmp d_X11_cutsWhy_110 ?_
          refine E_if_le (tgt := 116) d_X11_cutsWhy_111 (by decide) h (fun _ h => ?_) (fun _ h => ?_)
          · refine E_aload_n d_X11_cutsWhy_116 rfl (by decide) ?_
            refine E_get d_X11_cutsWhy_117 okX11 fl_X11_31 ⟨by decide, rfl⟩ h (fun x22 h => ?_)
            refine E_lload d_X11_cutsWhy_120 rfl ?_
            refine E_l2i d_X11_cutsWhy_122 ?_
            refine E_lload d_X11_cutsWhy_123 rfl ?_
            refine E_l2i d_X11_cutsWhy_125 ?_
            refine E_iconst d_X11_cutsWhy_126 (c32 rfl) ?_
            refine bd h (fun r23 q24 h => ?_)
            refine E_cV (as := [(0, w32 x14), (0, w32 x15), (0, 0)]) (st := []) (a := x22) d_X11_cutsWhy_127 mk_X9_turningFrom nl_X11_324 (by omega) ⟨rfl, rfl, Nat.le_of_ble_eq_true rfl⟩ okX9 rfl (L_X9_turningFrom q24) ?_
            refine E_istore d_X11_cutsWhy_130 (ls' := [(2, v0), (9, 0), (0, v2), (9, 0), (2, v4), (0, v5), (1, x14), (9, 0), (1, x15), (9, 0), (1, x16), (9, 0), (0, r23)]) ⟨by decide, rfl⟩ ?_
            refine E_aload_n d_X11_cutsWhy_132 rfl (by decide) ?_
            refine E_get d_X11_cutsWhy_133 okX11 fl_X11_93 ⟨by decide, rfl⟩ h (fun x25 h => ?_)
            refine E_aload_n d_X11_cutsWhy_136 rfl (by decide) ?_
            refine E_get d_X11_cutsWhy_137 okX11 fl_X11_31 ⟨by decide, rfl⟩ h (fun x26 h => ?_)
            refine E_lload d_X11_cutsWhy_140 rfl ?_
            refine bd h (fun r27 q28 h => ?_)
            refine E_cV (as := [(1, x15)]) (st := [(2, x25)]) (a := x26) d_X11_cutsWhy_142 mk_X9_isStone nl_X11_294 (by omega) ⟨rfl, rfl, Nat.le_of_ble_eq_true rfl⟩ okX9 rfl (L_X9_isStone q28) ?_
            refine E_iload d_X11_cutsWhy_145 rfl ?_
            refine E_lload d_X11_cutsWhy_147 rfl ?_
            refine E_lconst d_X11_cutsWhy_149 cl1 ?_
            refine E_lcmp d_X11_cutsWhy_150 ?_
            refine E_if_ne (tgt := 158) d_X11_cutsWhy_151 (by decide) h (fun _ h => ?_) (fun _ h => ?_)
            · refine E_iconst d_X11_cutsWhy_154 (c32 rfl) ?_
              refine E_goto (tgt := 159) d_X11_cutsWhy_155 (by decide) ?_
              exact E_weak (ls' := [(2, v0), (9, 0), (0, v2), (9, 0), (2, v4), (0, v5), (9, 0), (9, 0), (9, 0), (9, 0), (9, 0), (9, 0), (9, 0)]) ⟨Or.inr rfl, Or.inl rfl, Or.inr rfl, Or.inl rfl, Or.inr rfl, Or.inr rfl, Or.inl rfl, Or.inl rfl, Or.inl rfl, Or.inl rfl, Or.inl rfl, Or.inl rfl, Or.inl rfl, trivial⟩ (L_X11_cutsWhy_b159 hk43 h)
            · refine E_iconst d_X11_cutsWhy_158 (c32 rfl) ?_
              exact E_weak (ls' := [(2, v0), (9, 0), (0, v2), (9, 0), (2, v4), (0, v5), (9, 0), (9, 0), (9, 0), (9, 0), (9, 0), (9, 0), (9, 0)]) ⟨Or.inr rfl, Or.inl rfl, Or.inr rfl, Or.inl rfl, Or.inr rfl, Or.inr rfl, Or.inl rfl, Or.inl rfl, Or.inl rfl, Or.inl rfl, Or.inl rfl, Or.inl rfl, Or.inl rfl, trivial⟩ (L_X11_cutsWhy_b159 hk43 h)
          · refine E_iconst d_X11_cutsWhy_114 (c32 rfl) ?_
            cases h
            exact E_iret d_X11_cutsWhy_115 rfl
noncomputable def f_X11_cutsWhy_h43 (n : Nat) : Int → Int → Int → Int → Mem → Option (Int × Mem) := Nat.rec (motive := fun _ => Int → Int → Int → Int → Mem → Option (Int × Mem)) (fun _ _ _ _ _ => none) (fun _ ih => f_X11_cutsWhy_b43 (ih)) n
theorem L_X11_cutsWhy_h43 {sc : Nat × (Nat → Int32)} {o : Int × Mem} : ∀ (n : Nat) {v0 v2 v4 v5 : Int} {σ : Mem}, f_X11_cutsWhy_h43 n v0 v2 v4 v5 σ = some o → E sc (Fm Sh (some (0, o.1)) Sh o.2) mt_X11_cutsWhy 162 Sh Sh 43 [(2, v0), (9, 0), (0, v2), (9, 0), (2, v4), (0, v5), (9, 0), (9, 0), (9, 0), (9, 0), (9, 0), (9, 0), (9, 0)] [] Sh σ := by
  intro n
  induction n with
  | zero => intro v0 v2 v4 v5 σ h; cases h
  | succ n ih => intro v0 v2 v4 v5 σ h; exact L_X11_cutsWhy_b43 (@ih) h
noncomputable def f_X11_cutsWhy_b0 (v0 v1 v2 : Int) (σ : Mem) : Option (Int × Mem) :=
  (f_X11_threesWhy v0 v1 v2 6 σ).bind fun r1 =>
  if r1 = 0 then
    (gf Sh σ 11 v0 0).bind fun x3 =>
    (al Sh σ 38 x3 v1).bind fun x4 =>
    (gf Sh σ 8 x4 0).bind fun x5 =>
    (gf Sh σ 11 v0 13).bind fun x6 =>
    (gf Sh σ 11 v0 3).bind fun x7 =>
    (gf Sh σ 9 x7 1).bind fun x8 =>
    (f_X0_begin x6 x8 σ).bind fun r9 =>
    f_X11_cutsWhy_h43 FU v0 v2 x5 0 r9
  else
    some (r1, σ)
theorem L_X11_cutsWhy_b0 {sc : Nat × (Nat → Int32)} {o : Int × Mem} {v0 v1 v2 : Int} {σ : Mem} (h : f_X11_cutsWhy_b0 v0 v1 v2 σ = some o) : E sc (Fm Sh (some (0, o.1)) Sh o.2) mt_X11_cutsWhy 162 Sh Sh 0 [(2, v0), (0, v1), (0, v2), (9, 0), (9, 0), (9, 0), (9, 0), (9, 0), (9, 0), (9, 0), (9, 0), (9, 0), (9, 0)] [] Sh σ := by
  unfold f_X11_cutsWhy_b0 at h
  refine E_aload_n d_X11_cutsWhy_0 rfl (by decide) ?_
  refine E_iload_n d_X11_cutsWhy_1 rfl ?_
  refine E_iload_n d_X11_cutsWhy_2 rfl ?_
  refine E_bipush d_X11_cutsWhy_3 (c8 rfl) ?_
  refine bd h (fun r1 q2 h => ?_)
  refine E_cV (as := [(0, v1), (0, v2), (0, 6)]) (st := []) (a := v0) d_X11_cutsWhy_5 mk_X11_threesWhy nl_X11_365 (by omega) ⟨rfl, rfl, Nat.le_of_ble_eq_true rfl⟩ okX11 rfl (L_X11_threesWhy q2) ?_
  refine E_istore_n d_X11_cutsWhy_8 (ls' := [(2, v0), (0, v1), (0, v2), (0, r1), (9, 0), (9, 0), (9, 0), (9, 0), (9, 0), (9, 0), (9, 0), (9, 0), (9, 0)]) ⟨by decide, rfl⟩ ?_
  refine E_iload_n d_X11_cutsWhy_9 rfl ?_
  refine E_if_eq (tgt := 15) d_X11_cutsWhy_10 (by decide) h (fun _ h => ?_) (fun _ h => ?_)
  · refine E_aload_n d_X11_cutsWhy_15 rfl (by decide) ?_
    refine E_get d_X11_cutsWhy_16 okX11 fl_X11_11 ⟨by decide, rfl⟩ h (fun x3 h => ?_)
    refine E_iload_n d_X11_cutsWhy_19 rfl ?_
    refine E_aaload d_X11_cutsWhy_20 (Or.inr (Or.inl ⟨rfl, rfl, rfl⟩)) h (fun x4 h => ?_)
    refine E_get d_X11_cutsWhy_21 okX8 fl_X11_149 ⟨by decide, rfl⟩ h (fun x5 h => ?_)
    refine E_astore d_X11_cutsWhy_24 (ls' := [(2, v0), (0, v1), (0, v2), (0, r1), (2, x5), (9, 0), (9, 0), (9, 0), (9, 0), (9, 0), (9, 0), (9, 0), (9, 0)]) (by decide) ⟨by decide, rfl⟩ ?_
    refine E_aload_n d_X11_cutsWhy_26 rfl (by decide) ?_
    refine E_get d_X11_cutsWhy_27 okX11 fl_X11_93 ⟨by decide, rfl⟩ h (fun x6 h => ?_)
    refine E_aload_n d_X11_cutsWhy_30 rfl (by decide) ?_
    refine E_get d_X11_cutsWhy_31 okX11 fl_X11_31 ⟨by decide, rfl⟩ h (fun x7 h => ?_)
    refine E_get d_X11_cutsWhy_34 okX9 fl_X11_236 ⟨by decide, rfl⟩ h (fun x8 h => ?_)
    refine bd h (fun r9 q10 h => ?_)
    refine E_cVv (as := [(0, x8)]) (st := []) (a := x6) d_X11_cutsWhy_37 mk_X0_begin nl_X11_388 (by omega) ⟨rfl, rfl, Nat.le_of_ble_eq_true rfl⟩ okX0 rfl (L_X0_begin q10) ?_
    refine E_iconst d_X11_cutsWhy_40 (c32 rfl) ?_
    refine E_istore d_X11_cutsWhy_41 (ls' := [(2, v0), (0, v1), (0, v2), (0, r1), (2, x5), (0, 0), (9, 0), (9, 0), (9, 0), (9, 0), (9, 0), (9, 0), (9, 0)]) ⟨by decide, rfl⟩ ?_
    exact E_weak (ls' := [(2, v0), (9, 0), (0, v2), (9, 0), (2, x5), (0, 0), (9, 0), (9, 0), (9, 0), (9, 0), (9, 0), (9, 0), (9, 0)]) ⟨Or.inr rfl, Or.inl rfl, Or.inr rfl, Or.inl rfl, Or.inr rfl, Or.inr rfl, Or.inl rfl, Or.inl rfl, Or.inl rfl, Or.inl rfl, Or.inl rfl, Or.inl rfl, Or.inl rfl, trivial⟩ (L_X11_cutsWhy_h43 FU h)
  · refine E_iload_n d_X11_cutsWhy_13 rfl ?_
    cases h
    exact E_iret d_X11_cutsWhy_14 rfl
noncomputable def f_X11_cutsWhy (v0 v1 v2 : Int) (σ : Mem) : Option (Int × Mem) := if isO Sh 11 v0 = true then f_X11_cutsWhy_b0 v0 v1 v2 σ else none
theorem L_X11_cutsWhy {o : Int × Mem} {v0 v1 v2 : Int} {σ : Mem} (h : f_X11_cutsWhy v0 v1 v2 σ = some o) : (isO Sh 11 v0 = true ∧ Cn mt_X11_cutsWhy 162 [(2, v0), (0, v1), (0, v2)] Sh σ (some (0, o.1)) Sh o.2) := ⟨(ite_ok h).1, Cn_of mk_X11_cutsWhy.1.2.2.1 (Nat.le_of_ble_eq_true rfl) (fun sc => L_X11_cutsWhy_b0 (ite_ok h).2)⟩
theorem d_X11_cuts_0 : decode mt_X11_cuts.2.1 0 = .ok (.aload_n 0, 1) := by decide +kernel
theorem d_X11_cuts_1 : decode mt_X11_cuts.2.1 1 = .ok (.aload_n 0, 1) := by decide +kernel
theorem d_X11_cuts_2 : decode mt_X11_cuts.2.1 2 = .ok (.iload_n 1, 1) := by decide +kernel
theorem d_X11_cuts_3 : decode mt_X11_cuts.2.1 3 = .ok (.iload_n 2, 1) := by decide +kernel
theorem d_X11_cuts_4 : decode mt_X11_cuts.2.1 4 = .ok (.invokevirtual 379, 3) := by decide +kernel
theorem d_X11_cuts_7 : decode mt_X11_cuts.2.1 7 = .ok (.invokevirtual 132, 3) := by decide +kernel
theorem d_X11_cuts_10 : decode mt_X11_cuts.2.1 10 = .ok (.ifCond .eq 5, 3) := by decide +kernel
theorem d_X11_cuts_13 : decode mt_X11_cuts.2.1 13 = .ok (.iconst (-1), 1) := by decide +kernel
theorem d_X11_cuts_14 : decode mt_X11_cuts.2.1 14 = .ok (.ireturn, 1) := by decide +kernel
theorem d_X11_cuts_15 : decode mt_X11_cuts.2.1 15 = .ok (.aload_n 0, 1) := by decide +kernel
theorem d_X11_cuts_16 : decode mt_X11_cuts.2.1 16 = .ok (.getfield 93, 3) := by decide +kernel
theorem d_X11_cuts_19 : decode mt_X11_cuts.2.1 19 = .ok (.getfield 382, 3) := by decide +kernel
theorem d_X11_cuts_22 : decode mt_X11_cuts.2.1 22 = .ok (.ireturn, 1) := by decide +kernel
noncomputable def f_X11_cuts_b0 (v0 v1 v2 : Int) (σ : Mem) : Option (Int × Mem) :=
  (f_X11_cutsWhy v0 v1 v2 σ).bind fun r1 =>
  (f_X11_refused v0 r1.1 r1.2).bind fun r3 =>
  if r3.1 = 0 then
    (gf Sh r3.2 11 v0 13).bind fun x5 =>
    (gf Sh r3.2 0 x5 9).bind fun x6 =>
    some (x6, r3.2)
  else
    some ((-1), r3.2)
theorem L_X11_cuts_b0 {sc : Nat × (Nat → Int32)} {o : Int × Mem} {v0 v1 v2 : Int} {σ : Mem} (h : f_X11_cuts_b0 v0 v1 v2 σ = some o) : E sc (Fm Sh (some (0, o.1)) Sh o.2) mt_X11_cuts 163 Sh Sh 0 [(2, v0), (0, v1), (0, v2)] [] Sh σ := by
  unfold f_X11_cuts_b0 at h
  refine E_aload_n d_X11_cuts_0 rfl (by decide) ?_
  refine E_aload_n d_X11_cuts_1 rfl (by decide) ?_
  refine E_iload_n d_X11_cuts_2 rfl ?_
  refine E_iload_n d_X11_cuts_3 rfl ?_
  refine bd h (fun r1 q2 h => ?_)
  refine E_cV (as := [(0, v1), (0, v2)]) (st := [(2, v0)]) (a := v0) d_X11_cuts_4 mk_X11_cutsWhy nl_X11_379 (by omega) ⟨rfl, rfl, Nat.le_of_ble_eq_true rfl⟩ okX11 rfl (L_X11_cutsWhy q2) ?_
  refine bd h (fun r3 q4 h => ?_)
  refine E_cV (as := [(0, r1.1)]) (st := []) (a := v0) d_X11_cuts_7 mk_X11_refused nl_X11_132 (by omega) ⟨rfl, rfl, Nat.le_of_ble_eq_true rfl⟩ okX11 rfl (L_X11_refused q4) ?_
  refine E_if_eq (tgt := 15) d_X11_cuts_10 (by decide) h (fun _ h => ?_) (fun _ h => ?_)
  · refine E_aload_n d_X11_cuts_15 rfl (by decide) ?_
    refine E_get d_X11_cuts_16 okX11 fl_X11_93 ⟨by decide, rfl⟩ h (fun x5 h => ?_)
    refine E_get d_X11_cuts_19 okX0 fl_X11_382 ⟨by decide, rfl⟩ h (fun x6 h => ?_)
    cases h
    exact E_iret d_X11_cuts_22 rfl
  · refine E_iconst d_X11_cuts_13 (c32 rfl) ?_
    cases h
    exact E_iret d_X11_cuts_14 rfl
noncomputable def f_X11_cuts (v0 v1 v2 : Int) (σ : Mem) : Option (Int × Mem) := if isO Sh 11 v0 = true then f_X11_cuts_b0 v0 v1 v2 σ else none
theorem L_X11_cuts {o : Int × Mem} {v0 v1 v2 : Int} {σ : Mem} (h : f_X11_cuts v0 v1 v2 σ = some o) : (isO Sh 11 v0 = true ∧ Cn mt_X11_cuts 163 [(2, v0), (0, v1), (0, v2)] Sh σ (some (0, o.1)) Sh o.2) := ⟨(ite_ok h).1, Cn_of mk_X11_cuts.1.2.2.1 (Nat.le_of_ble_eq_true rfl) (fun sc => L_X11_cuts_b0 (ite_ok h).2)⟩
theorem d_X11_cutOf_0 : decode mt_X11_cutOf.2.1 0 = .ok (.aload_n 0, 1) := by decide +kernel
theorem d_X11_cutOf_1 : decode mt_X11_cutOf.2.1 1 = .ok (.iload_n 1, 1) := by decide +kernel
theorem d_X11_cutOf_2 : decode mt_X11_cutOf.2.1 2 = .ok (.invokestatic 125, 3) := by decide +kernel
theorem d_X11_cutOf_5 : decode mt_X11_cutOf.2.1 5 = .ok (.ifCond .eq 19, 3) := by decide +kernel
theorem d_X11_cutOf_8 : decode mt_X11_cutOf.2.1 8 = .ok (.aload_n 0, 1) := by decide +kernel
theorem d_X11_cutOf_9 : decode mt_X11_cutOf.2.1 9 = .ok (.getfield 31, 3) := by decide +kernel
theorem d_X11_cutOf_12 : decode mt_X11_cutOf.2.1 12 = .ok (.iload_n 3, 1) := by decide +kernel
theorem d_X11_cutOf_13 : decode mt_X11_cutOf.2.1 13 = .ok (.i2l, 1) := by decide +kernel
theorem d_X11_cutOf_14 : decode mt_X11_cutOf.2.1 14 = .ok (.invokevirtual 290, 3) := by decide +kernel
theorem d_X11_cutOf_17 : decode mt_X11_cutOf.2.1 17 = .ok (.ifCond .ne 7, 3) := by decide +kernel
theorem d_X11_cutOf_20 : decode mt_X11_cutOf.2.1 20 = .ok (.iconst 2, 1) := by decide +kernel
theorem d_X11_cutOf_21 : decode mt_X11_cutOf.2.1 21 = .ok (.goto 9, 3) := by decide +kernel
theorem d_X11_cutOf_24 : decode mt_X11_cutOf.2.1 24 = .ok (.aload_n 0, 1) := by decide +kernel
theorem d_X11_cutOf_25 : decode mt_X11_cutOf.2.1 25 = .ok (.iload_n 1, 1) := by decide +kernel
theorem d_X11_cutOf_26 : decode mt_X11_cutOf.2.1 26 = .ok (.iload_n 2, 1) := by decide +kernel
theorem d_X11_cutOf_27 : decode mt_X11_cutOf.2.1 27 = .ok (.invokevirtual 379, 3) := by decide +kernel
theorem d_X11_cutOf_30 : decode mt_X11_cutOf.2.1 30 = .ok (.invokevirtual 132, 3) := by decide +kernel
theorem d_X11_cutOf_33 : decode mt_X11_cutOf.2.1 33 = .ok (.ifCond .eq 5, 3) := by decide +kernel
theorem d_X11_cutOf_36 : decode mt_X11_cutOf.2.1 36 = .ok (.iconst (-1), 1) := by decide +kernel
theorem d_X11_cutOf_37 : decode mt_X11_cutOf.2.1 37 = .ok (.ireturn, 1) := by decide +kernel
theorem d_X11_cutOf_38 : decode mt_X11_cutOf.2.1 38 = .ok (.aload_n 0, 1) := by decide +kernel
theorem d_X11_cutOf_39 : decode mt_X11_cutOf.2.1 39 = .ok (.getfield 93, 3) := by decide +kernel
theorem d_X11_cutOf_42 : decode mt_X11_cutOf.2.1 42 = .ok (.iload_n 3, 1) := by decide +kernel
theorem d_X11_cutOf_43 : decode mt_X11_cutOf.2.1 43 = .ok (.invokevirtual 385, 3) := by decide +kernel
theorem d_X11_cutOf_46 : decode mt_X11_cutOf.2.1 46 = .ok (.ireturn, 1) := by decide +kernel
noncomputable def f_X11_cutOf_b30 (v0 v3 s0 s1 : Int) (σ : Mem) : Option (Int × Mem) :=
  (f_X11_refused s1 s0 σ).bind fun r8 =>
  if r8.1 = 0 then
    (gf Sh r8.2 11 v0 13).bind fun x10 =>
    (f_X0_cutOn x10 v3 r8.2).bind fun r11 =>
    some (r11, r8.2)
  else
    some ((-1), r8.2)
theorem L_X11_cutOf_b30 {sc : Nat × (Nat → Int32)} {o : Int × Mem} {v0 v3 s0 s1 : Int} {σ : Mem} (h : f_X11_cutOf_b30 v0 v3 s0 s1 σ = some o) : E sc (Fm Sh (some (0, o.1)) Sh o.2) mt_X11_cutOf 163 Sh Sh 30 [(2, v0), (9, 0), (9, 0), (0, v3)] [(0, s0), (2, s1)] Sh σ := by
  unfold f_X11_cutOf_b30 at h
  refine bd h (fun r8 q9 h => ?_)
  refine E_cV (as := [(0, s0)]) (st := []) (a := s1) d_X11_cutOf_30 mk_X11_refused nl_X11_132 (by omega) ⟨rfl, rfl, Nat.le_of_ble_eq_true rfl⟩ okX11 rfl (L_X11_refused q9) ?_
  refine E_if_eq (tgt := 38) d_X11_cutOf_33 (by decide) h (fun _ h => ?_) (fun _ h => ?_)
  · refine E_aload_n d_X11_cutOf_38 rfl (by decide) ?_
    refine E_get d_X11_cutOf_39 okX11 fl_X11_93 ⟨by decide, rfl⟩ h (fun x10 h => ?_)
    refine E_iload_n d_X11_cutOf_42 rfl ?_
    refine bd h (fun r11 q12 h => ?_)
    refine E_cV (as := [(0, v3)]) (st := []) (a := x10) d_X11_cutOf_43 mk_X0_cutOn nl_X11_385 (by omega) ⟨rfl, rfl, Nat.le_of_ble_eq_true rfl⟩ okX0 rfl (L_X0_cutOn q12) ?_
    cases h
    exact E_iret d_X11_cutOf_46 rfl
  · refine E_iconst d_X11_cutOf_36 (c32 rfl) ?_
    cases h
    exact E_iret d_X11_cutOf_37 rfl
noncomputable def f_X11_cutOf_b24 (v0 v1 v2 v3 s0 : Int) (σ : Mem) : Option (Int × Mem) :=
  (f_X11_cutsWhy v0 v1 v2 σ).bind fun r6 =>
  f_X11_cutOf_b30 v0 v3 r6.1 s0 r6.2
theorem L_X11_cutOf_b24 {sc : Nat × (Nat → Int32)} {o : Int × Mem} {v0 v1 v2 v3 s0 : Int} {σ : Mem} (h : f_X11_cutOf_b24 v0 v1 v2 v3 s0 σ = some o) : E sc (Fm Sh (some (0, o.1)) Sh o.2) mt_X11_cutOf 163 Sh Sh 24 [(2, v0), (0, v1), (0, v2), (0, v3)] [(2, s0)] Sh σ := by
  unfold f_X11_cutOf_b24 at h
  refine E_aload_n d_X11_cutOf_24 rfl (by decide) ?_
  refine E_iload_n d_X11_cutOf_25 rfl ?_
  refine E_iload_n d_X11_cutOf_26 rfl ?_
  refine bd h (fun r6 q7 h => ?_)
  refine E_cV (as := [(0, v1), (0, v2)]) (st := [(2, s0)]) (a := v0) d_X11_cutOf_27 mk_X11_cutsWhy nl_X11_379 (by omega) ⟨rfl, rfl, Nat.le_of_ble_eq_true rfl⟩ okX11 rfl (L_X11_cutsWhy q7) ?_
  exact E_weak (ls' := [(2, v0), (9, 0), (9, 0), (0, v3)]) ⟨Or.inr rfl, Or.inl rfl, Or.inl rfl, Or.inr rfl, trivial⟩ (L_X11_cutOf_b30 h)
noncomputable def f_X11_cutOf_b0 (v0 v1 v2 v3 : Int) (σ : Mem) : Option (Int × Mem) :=
  (f_X11_isTray v1 σ).bind fun r1 =>
  if r1 = 0 then
    f_X11_cutOf_b24 v0 v1 v2 v3 v0 σ
  else
    (gf Sh σ 11 v0 3).bind fun x3 =>
    (f_X9_isPlace x3 v3 σ).bind fun r4 =>
    if r4 = 0 then
      f_X11_cutOf_b30 v0 v3 2 v0 σ
    else
      f_X11_cutOf_b24 v0 v1 v2 v3 v0 σ
theorem L_X11_cutOf_b0 {sc : Nat × (Nat → Int32)} {o : Int × Mem} {v0 v1 v2 v3 : Int} {σ : Mem} (h : f_X11_cutOf_b0 v0 v1 v2 v3 σ = some o) : E sc (Fm Sh (some (0, o.1)) Sh o.2) mt_X11_cutOf 163 Sh Sh 0 [(2, v0), (0, v1), (0, v2), (0, v3)] [] Sh σ := by
  unfold f_X11_cutOf_b0 at h
  refine E_aload_n d_X11_cutOf_0 rfl (by decide) ?_
  refine E_iload_n d_X11_cutOf_1 rfl ?_
  refine bd h (fun r1 q2 h => ?_)
  refine E_cS (as := [(0, v1)]) (st := [(2, v0)]) d_X11_cutOf_2 mk_X11_isTray nl_X11_125 (by omega) ⟨rfl, rfl, Nat.le_of_ble_eq_true rfl⟩ (L_X11_isTray q2) ?_
  refine E_if_eq (tgt := 24) d_X11_cutOf_5 (by decide) h (fun _ h => ?_) (fun _ h => ?_)
  · exact (L_X11_cutOf_b24 h)
  · refine E_aload_n d_X11_cutOf_8 rfl (by decide) ?_
    refine E_get d_X11_cutOf_9 okX11 fl_X11_31 ⟨by decide, rfl⟩ h (fun x3 h => ?_)
    refine E_iload_n d_X11_cutOf_12 rfl ?_
    refine E_i2l d_X11_cutOf_13 ?_
    refine bd h (fun r4 q5 h => ?_)
    refine E_cV (as := [(1, v3)]) (st := [(2, v0)]) (a := x3) d_X11_cutOf_14 mk_X9_isPlace nl_X11_290 (by omega) ⟨rfl, rfl, Nat.le_of_ble_eq_true rfl⟩ okX9 rfl (L_X9_isPlace q5) ?_
    refine E_if_ne (tgt := 24) d_X11_cutOf_17 (by decide) h (fun _ h => ?_) (fun _ h => ?_)
    · refine E_iconst d_X11_cutOf_20 (c32 rfl) ?_
      refine E_goto (tgt := 30) d_X11_cutOf_21 (by decide) ?_
      exact E_weak (ls' := [(2, v0), (9, 0), (9, 0), (0, v3)]) ⟨Or.inr rfl, Or.inl rfl, Or.inl rfl, Or.inr rfl, trivial⟩ (L_X11_cutOf_b30 h)
    · exact (L_X11_cutOf_b24 h)
noncomputable def f_X11_cutOf (v0 v1 v2 v3 : Int) (σ : Mem) : Option (Int × Mem) := if isO Sh 11 v0 = true then f_X11_cutOf_b0 v0 v1 v2 v3 σ else none
theorem L_X11_cutOf {o : Int × Mem} {v0 v1 v2 v3 : Int} {σ : Mem} (h : f_X11_cutOf v0 v1 v2 v3 σ = some o) : (isO Sh 11 v0 = true ∧ Cn mt_X11_cutOf 163 [(2, v0), (0, v1), (0, v2), (0, v3)] Sh σ (some (0, o.1)) Sh o.2) := ⟨(ite_ok h).1, Cn_of mk_X11_cutOf.1.2.2.1 (Nat.le_of_ble_eq_true rfl) (fun sc => L_X11_cutOf_b0 (ite_ok h).2)⟩
theorem d_X11_windowsWhy_0 : decode mt_X11_windowsWhy.2.1 0 = .ok (.aload_n 0, 1) := by decide +kernel
theorem d_X11_windowsWhy_1 : decode mt_X11_windowsWhy.2.1 1 = .ok (.iload_n 1, 1) := by decide +kernel
theorem d_X11_windowsWhy_2 : decode mt_X11_windowsWhy.2.1 2 = .ok (.iload_n 2, 1) := by decide +kernel
theorem d_X11_windowsWhy_3 : decode mt_X11_windowsWhy.2.1 3 = .ok (.invokevirtual 274, 3) := by decide +kernel
theorem d_X11_windowsWhy_6 : decode mt_X11_windowsWhy.2.1 6 = .ok (.istore_n 3, 1) := by decide +kernel
theorem d_X11_windowsWhy_7 : decode mt_X11_windowsWhy.2.1 7 = .ok (.iload_n 3, 1) := by decide +kernel
theorem d_X11_windowsWhy_8 : decode mt_X11_windowsWhy.2.1 8 = .ok (.ifCond .eq 5, 3) := by decide +kernel
theorem d_X11_windowsWhy_11 : decode mt_X11_windowsWhy.2.1 11 = .ok (.iload_n 3, 1) := by decide +kernel
theorem d_X11_windowsWhy_12 : decode mt_X11_windowsWhy.2.1 12 = .ok (.ireturn, 1) := by decide +kernel
theorem d_X11_windowsWhy_13 : decode mt_X11_windowsWhy.2.1 13 = .ok (.aload_n 0, 1) := by decide +kernel
theorem d_X11_windowsWhy_14 : decode mt_X11_windowsWhy.2.1 14 = .ok (.getfield 31, 3) := by decide +kernel
theorem d_X11_windowsWhy_17 : decode mt_X11_windowsWhy.2.1 17 = .ok (.iload_n 2, 1) := by decide +kernel
theorem d_X11_windowsWhy_18 : decode mt_X11_windowsWhy.2.1 18 = .ok (.i2l, 1) := by decide +kernel
theorem d_X11_windowsWhy_19 : decode mt_X11_windowsWhy.2.1 19 = .ok (.invokevirtual 294, 3) := by decide +kernel
theorem d_X11_windowsWhy_22 : decode mt_X11_windowsWhy.2.1 22 = .ok (.ifCond .ne 6, 3) := by decide +kernel
theorem d_X11_windowsWhy_25 : decode mt_X11_windowsWhy.2.1 25 = .ok (.bipush 9, 2) := by decide +kernel
theorem d_X11_windowsWhy_27 : decode mt_X11_windowsWhy.2.1 27 = .ok (.ireturn, 1) := by decide +kernel
theorem d_X11_windowsWhy_28 : decode mt_X11_windowsWhy.2.1 28 = .ok (.aload_n 0, 1) := by decide +kernel
theorem d_X11_windowsWhy_29 : decode mt_X11_windowsWhy.2.1 29 = .ok (.getfield 31, 3) := by decide +kernel
theorem d_X11_windowsWhy_32 : decode mt_X11_windowsWhy.2.1 32 = .ok (.iload_n 1, 1) := by decide +kernel
theorem d_X11_windowsWhy_33 : decode mt_X11_windowsWhy.2.1 33 = .ok (.iload_n 2, 1) := by decide +kernel
theorem d_X11_windowsWhy_34 : decode mt_X11_windowsWhy.2.1 34 = .ok (.invokevirtual 398, 3) := by decide +kernel
theorem d_X11_windowsWhy_37 : decode mt_X11_windowsWhy.2.1 37 = .ok (.iconst (-1), 1) := by decide +kernel
theorem d_X11_windowsWhy_38 : decode mt_X11_windowsWhy.2.1 38 = .ok (.if_icmp .ne 8, 3) := by decide +kernel
theorem d_X11_windowsWhy_41 : decode mt_X11_windowsWhy.2.1 41 = .ok (.bipush 8, 2) := by decide +kernel
theorem d_X11_windowsWhy_43 : decode mt_X11_windowsWhy.2.1 43 = .ok (.goto 4, 3) := by decide +kernel
theorem d_X11_windowsWhy_46 : decode mt_X11_windowsWhy.2.1 46 = .ok (.iconst 0, 1) := by decide +kernel
theorem d_X11_windowsWhy_47 : decode mt_X11_windowsWhy.2.1 47 = .ok (.ireturn, 1) := by decide +kernel
noncomputable def f_X11_windowsWhy_b0 (v0 v1 v2 : Int) (σ : Mem) : Option (Int) :=
  (f_X11_guiltWhy v0 v1 v2 σ).bind fun r1 =>
  if r1 = 0 then
    (gf Sh σ 11 v0 3).bind fun x3 =>
    (f_X9_isStone x3 v2 σ).bind fun r4 =>
    if r4 = 0 then
      some (9)
    else
      (gf Sh σ 11 v0 3).bind fun x6 =>
      (f_X9_windowsFor x6 v1 v2 σ).bind fun r7 =>
      if r7 = (-1) then
        some (8)
      else
        some (0)
  else
    some (r1)
theorem L_X11_windowsWhy_b0 {sc : Nat × (Nat → Int32)} {o : Int} {σ : Mem} {v0 v1 v2 : Int} (h : f_X11_windowsWhy_b0 v0 v1 v2 σ = some o) : E sc (Fm Sh (some (0, o)) Sh σ) mt_X11_windowsWhy 5 Sh Sh 0 [(2, v0), (0, v1), (0, v2), (9, 0)] [] Sh σ := by
  unfold f_X11_windowsWhy_b0 at h
  refine E_aload_n d_X11_windowsWhy_0 rfl (by decide) ?_
  refine E_iload_n d_X11_windowsWhy_1 rfl ?_
  refine E_iload_n d_X11_windowsWhy_2 rfl ?_
  refine bd h (fun r1 q2 h => ?_)
  refine E_cV (as := [(0, v1), (0, v2)]) (st := []) (a := v0) d_X11_windowsWhy_3 mk_X11_guiltWhy nl_X11_274 (by omega) ⟨rfl, rfl, Nat.le_of_ble_eq_true rfl⟩ okX11 rfl (L_X11_guiltWhy q2) ?_
  refine E_istore_n d_X11_windowsWhy_6 (ls' := [(2, v0), (0, v1), (0, v2), (0, r1)]) ⟨by decide, rfl⟩ ?_
  refine E_iload_n d_X11_windowsWhy_7 rfl ?_
  refine E_if_eq (tgt := 13) d_X11_windowsWhy_8 (by decide) h (fun _ h => ?_) (fun _ h => ?_)
  · refine E_aload_n d_X11_windowsWhy_13 rfl (by decide) ?_
    refine E_get d_X11_windowsWhy_14 okX11 fl_X11_31 ⟨by decide, rfl⟩ h (fun x3 h => ?_)
    refine E_iload_n d_X11_windowsWhy_17 rfl ?_
    refine E_i2l d_X11_windowsWhy_18 ?_
    refine bd h (fun r4 q5 h => ?_)
    refine E_cV (as := [(1, v2)]) (st := []) (a := x3) d_X11_windowsWhy_19 mk_X9_isStone nl_X11_294 (by omega) ⟨rfl, rfl, Nat.le_of_ble_eq_true rfl⟩ okX9 rfl (L_X9_isStone q5) ?_
    refine E_if_ne (tgt := 28) d_X11_windowsWhy_22 (by decide) h (fun _ h => ?_) (fun _ h => ?_)
    · refine E_bipush d_X11_windowsWhy_25 (c8 rfl) ?_
      cases h
      exact E_iret d_X11_windowsWhy_27 rfl
    · refine E_aload_n d_X11_windowsWhy_28 rfl (by decide) ?_
      refine E_get d_X11_windowsWhy_29 okX11 fl_X11_31 ⟨by decide, rfl⟩ h (fun x6 h => ?_)
      refine E_iload_n d_X11_windowsWhy_32 rfl ?_
      refine E_iload_n d_X11_windowsWhy_33 rfl ?_
      refine bd h (fun r7 q8 h => ?_)
      refine E_cV (as := [(0, v1), (0, v2)]) (st := []) (a := x6) d_X11_windowsWhy_34 mk_X9_windowsFor nl_X11_398 (by omega) ⟨rfl, rfl, Nat.le_of_ble_eq_true rfl⟩ okX9 rfl (L_X9_windowsFor q8) ?_
      refine E_iconst d_X11_windowsWhy_37 (c32 rfl) ?_
      refine E_icmp_ne (tgt := 46) d_X11_windowsWhy_38 (by decide) h (fun _ h => ?_) (fun _ h => ?_)
      · refine E_bipush d_X11_windowsWhy_41 (c8 rfl) ?_
        refine E_goto (tgt := 47) d_X11_windowsWhy_43 (by decide) ?_
        cases h
        exact E_iret d_X11_windowsWhy_47 rfl
      · refine E_iconst d_X11_windowsWhy_46 (c32 rfl) ?_
        cases h
        exact E_iret d_X11_windowsWhy_47 rfl
  · refine E_iload_n d_X11_windowsWhy_11 rfl ?_
    cases h
    exact E_iret d_X11_windowsWhy_12 rfl
noncomputable def f_X11_windowsWhy (v0 v1 v2 : Int) (σ : Mem) : Option (Int) := if isO Sh 11 v0 = true then f_X11_windowsWhy_b0 v0 v1 v2 σ else none
theorem L_X11_windowsWhy {o : Int} {v0 v1 v2 : Int} {σ : Mem} (h : f_X11_windowsWhy v0 v1 v2 σ = some o) : (isO Sh 11 v0 = true ∧ Cn mt_X11_windowsWhy 5 [(2, v0), (0, v1), (0, v2)] Sh σ (some (0, o)) Sh σ) := ⟨(ite_ok h).1, Cn_of mk_X11_windowsWhy.1.2.2.1 (Nat.le_of_ble_eq_true rfl) (fun sc => L_X11_windowsWhy_b0 (ite_ok h).2)⟩
theorem d_X11_windows_0 : decode mt_X11_windows.2.1 0 = .ok (.aload_n 0, 1) := by decide +kernel
theorem d_X11_windows_1 : decode mt_X11_windows.2.1 1 = .ok (.aload_n 0, 1) := by decide +kernel
theorem d_X11_windows_2 : decode mt_X11_windows.2.1 2 = .ok (.iload_n 1, 1) := by decide +kernel
theorem d_X11_windows_3 : decode mt_X11_windows.2.1 3 = .ok (.iload_n 2, 1) := by decide +kernel
theorem d_X11_windows_4 : decode mt_X11_windows.2.1 4 = .ok (.invokevirtual 395, 3) := by decide +kernel
theorem d_X11_windows_7 : decode mt_X11_windows.2.1 7 = .ok (.invokevirtual 132, 3) := by decide +kernel
theorem d_X11_windows_10 : decode mt_X11_windows.2.1 10 = .ok (.ifCond .eq 5, 3) := by decide +kernel
theorem d_X11_windows_13 : decode mt_X11_windows.2.1 13 = .ok (.iconst (-1), 1) := by decide +kernel
theorem d_X11_windows_14 : decode mt_X11_windows.2.1 14 = .ok (.ireturn, 1) := by decide +kernel
theorem d_X11_windows_15 : decode mt_X11_windows.2.1 15 = .ok (.aload_n 0, 1) := by decide +kernel
theorem d_X11_windows_16 : decode mt_X11_windows.2.1 16 = .ok (.getfield 31, 3) := by decide +kernel
theorem d_X11_windows_19 : decode mt_X11_windows.2.1 19 = .ok (.iload_n 1, 1) := by decide +kernel
theorem d_X11_windows_20 : decode mt_X11_windows.2.1 20 = .ok (.iload_n 2, 1) := by decide +kernel
theorem d_X11_windows_21 : decode mt_X11_windows.2.1 21 = .ok (.invokevirtual 398, 3) := by decide +kernel
theorem d_X11_windows_24 : decode mt_X11_windows.2.1 24 = .ok (.invokestatic 401, 3) := by decide +kernel
theorem d_X11_windows_27 : decode mt_X11_windows.2.1 27 = .ok (.ireturn, 1) := by decide +kernel
noncomputable def f_X11_windows_b0 (v0 v1 v2 : Int) (σ : Mem) : Option (Int × Mem) :=
  (f_X11_windowsWhy v0 v1 v2 σ).bind fun r1 =>
  (f_X11_refused v0 r1 σ).bind fun r3 =>
  if r3.1 = 0 then
    (gf Sh r3.2 11 v0 3).bind fun x5 =>
    (f_X9_windowsFor x5 v1 v2 r3.2).bind fun r6 =>
    (f_JI_bitCount r6 r3.2).bind fun r8 =>
    some (r8, r3.2)
  else
    some ((-1), r3.2)
theorem L_X11_windows_b0 {sc : Nat × (Nat → Int32)} {o : Int × Mem} {v0 v1 v2 : Int} {σ : Mem} (h : f_X11_windows_b0 v0 v1 v2 σ = some o) : E sc (Fm Sh (some (0, o.1)) Sh o.2) mt_X11_windows 6 Sh Sh 0 [(2, v0), (0, v1), (0, v2)] [] Sh σ := by
  unfold f_X11_windows_b0 at h
  refine E_aload_n d_X11_windows_0 rfl (by decide) ?_
  refine E_aload_n d_X11_windows_1 rfl (by decide) ?_
  refine E_iload_n d_X11_windows_2 rfl ?_
  refine E_iload_n d_X11_windows_3 rfl ?_
  refine bd h (fun r1 q2 h => ?_)
  refine E_cV (as := [(0, v1), (0, v2)]) (st := [(2, v0)]) (a := v0) d_X11_windows_4 mk_X11_windowsWhy nl_X11_395 (by omega) ⟨rfl, rfl, Nat.le_of_ble_eq_true rfl⟩ okX11 rfl (L_X11_windowsWhy q2) ?_
  refine bd h (fun r3 q4 h => ?_)
  refine E_cV (as := [(0, r1)]) (st := []) (a := v0) d_X11_windows_7 mk_X11_refused nl_X11_132 (by omega) ⟨rfl, rfl, Nat.le_of_ble_eq_true rfl⟩ okX11 rfl (L_X11_refused q4) ?_
  refine E_if_eq (tgt := 15) d_X11_windows_10 (by decide) h (fun _ h => ?_) (fun _ h => ?_)
  · refine E_aload_n d_X11_windows_15 rfl (by decide) ?_
    refine E_get d_X11_windows_16 okX11 fl_X11_31 ⟨by decide, rfl⟩ h (fun x5 h => ?_)
    refine E_iload_n d_X11_windows_19 rfl ?_
    refine E_iload_n d_X11_windows_20 rfl ?_
    refine bd h (fun r6 q7 h => ?_)
    refine E_cV (as := [(0, v1), (0, v2)]) (st := []) (a := x5) d_X11_windows_21 mk_X9_windowsFor nl_X11_398 (by omega) ⟨rfl, rfl, Nat.le_of_ble_eq_true rfl⟩ okX9 rfl (L_X9_windowsFor q7) ?_
    refine bd h (fun r8 q9 h => ?_)
    refine E_cS (as := [(0, r6)]) (st := []) d_X11_windows_24 mk_JI_bitCount nl_X11_401 (by omega) ⟨rfl, rfl, Nat.le_of_ble_eq_true rfl⟩ (L_JI_bitCount q9) ?_
    cases h
    exact E_iret d_X11_windows_27 rfl
  · refine E_iconst d_X11_windows_13 (c32 rfl) ?_
    cases h
    exact E_iret d_X11_windows_14 rfl
noncomputable def f_X11_windows (v0 v1 v2 : Int) (σ : Mem) : Option (Int × Mem) := if isO Sh 11 v0 = true then f_X11_windows_b0 v0 v1 v2 σ else none
theorem L_X11_windows {o : Int × Mem} {v0 v1 v2 : Int} {σ : Mem} (h : f_X11_windows v0 v1 v2 σ = some o) : (isO Sh 11 v0 = true ∧ Cn mt_X11_windows 6 [(2, v0), (0, v1), (0, v2)] Sh σ (some (0, o.1)) Sh o.2) := ⟨(ite_ok h).1, Cn_of mk_X11_windows.1.2.2.1 (Nat.le_of_ble_eq_true rfl) (fun sc => L_X11_windows_b0 (ite_ok h).2)⟩
theorem d_X11_windowSet_0 : decode mt_X11_windowSet.2.1 0 = .ok (.aload_n 0, 1) := by decide +kernel
theorem d_X11_windowSet_1 : decode mt_X11_windowSet.2.1 1 = .ok (.aload_n 0, 1) := by decide +kernel
theorem d_X11_windowSet_2 : decode mt_X11_windowSet.2.1 2 = .ok (.iload_n 1, 1) := by decide +kernel
theorem d_X11_windowSet_3 : decode mt_X11_windowSet.2.1 3 = .ok (.iload_n 2, 1) := by decide +kernel
theorem d_X11_windowSet_4 : decode mt_X11_windowSet.2.1 4 = .ok (.invokevirtual 395, 3) := by decide +kernel
theorem d_X11_windowSet_7 : decode mt_X11_windowSet.2.1 7 = .ok (.invokevirtual 132, 3) := by decide +kernel
theorem d_X11_windowSet_10 : decode mt_X11_windowSet.2.1 10 = .ok (.ifCond .eq 5, 3) := by decide +kernel
theorem d_X11_windowSet_13 : decode mt_X11_windowSet.2.1 13 = .ok (.iconst (-1), 1) := by decide +kernel
theorem d_X11_windowSet_14 : decode mt_X11_windowSet.2.1 14 = .ok (.ireturn, 1) := by decide +kernel
theorem d_X11_windowSet_15 : decode mt_X11_windowSet.2.1 15 = .ok (.aload_n 0, 1) := by decide +kernel
theorem d_X11_windowSet_16 : decode mt_X11_windowSet.2.1 16 = .ok (.getfield 31, 3) := by decide +kernel
theorem d_X11_windowSet_19 : decode mt_X11_windowSet.2.1 19 = .ok (.iload_n 1, 1) := by decide +kernel
theorem d_X11_windowSet_20 : decode mt_X11_windowSet.2.1 20 = .ok (.iload_n 2, 1) := by decide +kernel
theorem d_X11_windowSet_21 : decode mt_X11_windowSet.2.1 21 = .ok (.invokevirtual 398, 3) := by decide +kernel
theorem d_X11_windowSet_24 : decode mt_X11_windowSet.2.1 24 = .ok (.ireturn, 1) := by decide +kernel
noncomputable def f_X11_windowSet_b0 (v0 v1 v2 : Int) (σ : Mem) : Option (Int × Mem) :=
  (f_X11_windowsWhy v0 v1 v2 σ).bind fun r1 =>
  (f_X11_refused v0 r1 σ).bind fun r3 =>
  if r3.1 = 0 then
    (gf Sh r3.2 11 v0 3).bind fun x5 =>
    (f_X9_windowsFor x5 v1 v2 r3.2).bind fun r6 =>
    some (r6, r3.2)
  else
    some ((-1), r3.2)
theorem L_X11_windowSet_b0 {sc : Nat × (Nat → Int32)} {o : Int × Mem} {v0 v1 v2 : Int} {σ : Mem} (h : f_X11_windowSet_b0 v0 v1 v2 σ = some o) : E sc (Fm Sh (some (0, o.1)) Sh o.2) mt_X11_windowSet 6 Sh Sh 0 [(2, v0), (0, v1), (0, v2)] [] Sh σ := by
  unfold f_X11_windowSet_b0 at h
  refine E_aload_n d_X11_windowSet_0 rfl (by decide) ?_
  refine E_aload_n d_X11_windowSet_1 rfl (by decide) ?_
  refine E_iload_n d_X11_windowSet_2 rfl ?_
  refine E_iload_n d_X11_windowSet_3 rfl ?_
  refine bd h (fun r1 q2 h => ?_)
  refine E_cV (as := [(0, v1), (0, v2)]) (st := [(2, v0)]) (a := v0) d_X11_windowSet_4 mk_X11_windowsWhy nl_X11_395 (by omega) ⟨rfl, rfl, Nat.le_of_ble_eq_true rfl⟩ okX11 rfl (L_X11_windowsWhy q2) ?_
  refine bd h (fun r3 q4 h => ?_)
  refine E_cV (as := [(0, r1)]) (st := []) (a := v0) d_X11_windowSet_7 mk_X11_refused nl_X11_132 (by omega) ⟨rfl, rfl, Nat.le_of_ble_eq_true rfl⟩ okX11 rfl (L_X11_refused q4) ?_
  refine E_if_eq (tgt := 15) d_X11_windowSet_10 (by decide) h (fun _ h => ?_) (fun _ h => ?_)
  · refine E_aload_n d_X11_windowSet_15 rfl (by decide) ?_
    refine E_get d_X11_windowSet_16 okX11 fl_X11_31 ⟨by decide, rfl⟩ h (fun x5 h => ?_)
    refine E_iload_n d_X11_windowSet_19 rfl ?_
    refine E_iload_n d_X11_windowSet_20 rfl ?_
    refine bd h (fun r6 q7 h => ?_)
    refine E_cV (as := [(0, v1), (0, v2)]) (st := []) (a := x5) d_X11_windowSet_21 mk_X9_windowsFor nl_X11_398 (by omega) ⟨rfl, rfl, Nat.le_of_ble_eq_true rfl⟩ okX9 rfl (L_X9_windowsFor q7) ?_
    cases h
    exact E_iret d_X11_windowSet_24 rfl
  · refine E_iconst d_X11_windowSet_13 (c32 rfl) ?_
    cases h
    exact E_iret d_X11_windowSet_14 rfl
noncomputable def f_X11_windowSet (v0 v1 v2 : Int) (σ : Mem) : Option (Int × Mem) := if isO Sh 11 v0 = true then f_X11_windowSet_b0 v0 v1 v2 σ else none
theorem L_X11_windowSet {o : Int × Mem} {v0 v1 v2 : Int} {σ : Mem} (h : f_X11_windowSet v0 v1 v2 σ = some o) : (isO Sh 11 v0 = true ∧ Cn mt_X11_windowSet 6 [(2, v0), (0, v1), (0, v2)] Sh σ (some (0, o.1)) Sh o.2) := ⟨(ite_ok h).1, Cn_of mk_X11_windowSet.1.2.2.1 (Nat.le_of_ble_eq_true rfl) (fun sc => L_X11_windowSet_b0 (ite_ok h).2)⟩
theorem d_X11_walkWhy_0 : decode mt_X11_walkWhy.2.1 0 = .ok (.aload_n 0, 1) := by decide +kernel
theorem d_X11_walkWhy_1 : decode mt_X11_walkWhy.2.1 1 = .ok (.iload_n 1, 1) := by decide +kernel
theorem d_X11_walkWhy_2 : decode mt_X11_walkWhy.2.1 2 = .ok (.iload_n 2, 1) := by decide +kernel
theorem d_X11_walkWhy_3 : decode mt_X11_walkWhy.2.1 3 = .ok (.invokevirtual 313, 3) := by decide +kernel
theorem d_X11_walkWhy_6 : decode mt_X11_walkWhy.2.1 6 = .ok (.ifCond .eq 5, 3) := by decide +kernel
theorem d_X11_walkWhy_9 : decode mt_X11_walkWhy.2.1 9 = .ok (.iconst 2, 1) := by decide +kernel
theorem d_X11_walkWhy_10 : decode mt_X11_walkWhy.2.1 10 = .ok (.ireturn, 1) := by decide +kernel
theorem d_X11_walkWhy_11 : decode mt_X11_walkWhy.2.1 11 = .ok (.aload_n 0, 1) := by decide +kernel
theorem d_X11_walkWhy_12 : decode mt_X11_walkWhy.2.1 12 = .ok (.getfield 31, 3) := by decide +kernel
theorem d_X11_walkWhy_15 : decode mt_X11_walkWhy.2.1 15 = .ok (.iload_n 1, 1) := by decide +kernel
theorem d_X11_walkWhy_16 : decode mt_X11_walkWhy.2.1 16 = .ok (.iload_n 2, 1) := by decide +kernel
theorem d_X11_walkWhy_17 : decode mt_X11_walkWhy.2.1 17 = .ok (.invokevirtual 409, 3) := by decide +kernel
theorem d_X11_walkWhy_20 : decode mt_X11_walkWhy.2.1 20 = .ok (.istore 4, 2) := by decide +kernel
theorem d_X11_walkWhy_22 : decode mt_X11_walkWhy.2.1 22 = .ok (.iload 4, 2) := by decide +kernel
theorem d_X11_walkWhy_24 : decode mt_X11_walkWhy.2.1 24 = .ok (.bipush 10, 2) := by decide +kernel
theorem d_X11_walkWhy_26 : decode mt_X11_walkWhy.2.1 26 = .ok (.if_icmp .eq 16, 3) := by decide +kernel
theorem d_X11_walkWhy_29 : decode mt_X11_walkWhy.2.1 29 = .ok (.iload_n 3, 1) := by decide +kernel
theorem d_X11_walkWhy_30 : decode mt_X11_walkWhy.2.1 30 = .ok (.ifCond .lt 12, 3) := by decide +kernel
theorem d_X11_walkWhy_33 : decode mt_X11_walkWhy.2.1 33 = .ok (.iload_n 3, 1) := by decide +kernel
theorem d_X11_walkWhy_34 : decode mt_X11_walkWhy.2.1 34 = .ok (.iload 4, 2) := by decide +kernel
theorem d_X11_walkWhy_36 : decode mt_X11_walkWhy.2.1 36 = .ok (.invokestatic 316, 3) := by decide +kernel
theorem d_X11_walkWhy_39 : decode mt_X11_walkWhy.2.1 39 = .ok (.if_icmp .le 8, 3) := by decide +kernel
theorem d_X11_walkWhy_42 : decode mt_X11_walkWhy.2.1 42 = .ok (.bipush 8, 2) := by decide +kernel
theorem d_X11_walkWhy_44 : decode mt_X11_walkWhy.2.1 44 = .ok (.goto 4, 3) := by decide +kernel
theorem d_X11_walkWhy_47 : decode mt_X11_walkWhy.2.1 47 = .ok (.iconst 0, 1) := by decide +kernel
theorem d_X11_walkWhy_48 : decode mt_X11_walkWhy.2.1 48 = .ok (.ireturn, 1) := by decide +kernel
noncomputable def f_X11_walkWhy_b42 (σ : Mem) : Option (Int) :=
  some (8)
theorem L_X11_walkWhy_b42 {sc : Nat × (Nat → Int32)} {o : Int} {σ : Mem} (h : f_X11_walkWhy_b42  σ = some o) : E sc (Fm Sh (some (0, o)) Sh σ) mt_X11_walkWhy 5 Sh Sh 42 [(9, 0), (9, 0), (9, 0), (9, 0), (9, 0)] [] Sh σ := by
  unfold f_X11_walkWhy_b42 at h
  refine E_bipush d_X11_walkWhy_42 (c8 rfl) ?_
  refine E_goto (tgt := 48) d_X11_walkWhy_44 (by decide) ?_
  cases h
  exact E_iret d_X11_walkWhy_48 rfl
noncomputable def f_X11_walkWhy_b0 (v0 v1 v2 v3 : Int) (σ : Mem) : Option (Int) :=
  (f_X11_twoPlacesWhy v0 v1 v2 σ).bind fun r1 =>
  if r1 = 0 then
    (gf Sh σ 11 v0 3).bind fun x3 =>
    (f_X9_walkTo x3 v1 v2 σ).bind fun r4 =>
    if r4 = 10 then
      f_X11_walkWhy_b42  σ
    else
      if v3 < 0 then
        f_X11_walkWhy_b42  σ
      else
        if v3 ≤ iabs r4 then
          some (0)
        else
          f_X11_walkWhy_b42  σ
  else
    some (2)
theorem L_X11_walkWhy_b0 {sc : Nat × (Nat → Int32)} {o : Int} {σ : Mem} {v0 v1 v2 v3 : Int} (h : f_X11_walkWhy_b0 v0 v1 v2 v3 σ = some o) : E sc (Fm Sh (some (0, o)) Sh σ) mt_X11_walkWhy 5 Sh Sh 0 [(2, v0), (0, v1), (0, v2), (0, v3), (9, 0)] [] Sh σ := by
  unfold f_X11_walkWhy_b0 at h
  refine E_aload_n d_X11_walkWhy_0 rfl (by decide) ?_
  refine E_iload_n d_X11_walkWhy_1 rfl ?_
  refine E_iload_n d_X11_walkWhy_2 rfl ?_
  refine bd h (fun r1 q2 h => ?_)
  refine E_cV (as := [(0, v1), (0, v2)]) (st := []) (a := v0) d_X11_walkWhy_3 mk_X11_twoPlacesWhy nl_X11_313 (by omega) ⟨rfl, rfl, Nat.le_of_ble_eq_true rfl⟩ okX11 rfl (L_X11_twoPlacesWhy q2) ?_
  refine E_if_eq (tgt := 11) d_X11_walkWhy_6 (by decide) h (fun _ h => ?_) (fun _ h => ?_)
  · refine E_aload_n d_X11_walkWhy_11 rfl (by decide) ?_
    refine E_get d_X11_walkWhy_12 okX11 fl_X11_31 ⟨by decide, rfl⟩ h (fun x3 h => ?_)
    refine E_iload_n d_X11_walkWhy_15 rfl ?_
    refine E_iload_n d_X11_walkWhy_16 rfl ?_
    refine bd h (fun r4 q5 h => ?_)
    refine E_cV (as := [(0, v1), (0, v2)]) (st := []) (a := x3) d_X11_walkWhy_17 mk_X9_walkTo nl_X11_409 (by omega) ⟨rfl, rfl, Nat.le_of_ble_eq_true rfl⟩ okX9 rfl (L_X9_walkTo q5) ?_
    refine E_istore d_X11_walkWhy_20 (ls' := [(2, v0), (0, v1), (0, v2), (0, v3), (0, r4)]) ⟨by decide, rfl⟩ ?_
    refine E_iload d_X11_walkWhy_22 rfl ?_
    refine E_bipush d_X11_walkWhy_24 (c8 rfl) ?_
    refine E_icmp_eq (tgt := 42) d_X11_walkWhy_26 (by decide) h (fun _ h => ?_) (fun _ h => ?_)
    · exact E_weak (ls' := [(9, 0), (9, 0), (9, 0), (9, 0), (9, 0)]) ⟨Or.inl rfl, Or.inl rfl, Or.inl rfl, Or.inl rfl, Or.inl rfl, trivial⟩ (L_X11_walkWhy_b42 h)
    · refine E_iload_n d_X11_walkWhy_29 rfl ?_
      refine E_if_lt (tgt := 42) d_X11_walkWhy_30 (by decide) h (fun _ h => ?_) (fun _ h => ?_)
      · exact E_weak (ls' := [(9, 0), (9, 0), (9, 0), (9, 0), (9, 0)]) ⟨Or.inl rfl, Or.inl rfl, Or.inl rfl, Or.inl rfl, Or.inl rfl, trivial⟩ (L_X11_walkWhy_b42 h)
      · refine E_iload_n d_X11_walkWhy_33 rfl ?_
        refine E_iload d_X11_walkWhy_34 rfl ?_
        refine E_iabs d_X11_walkWhy_36 nl_X11_316 (by omega) (Nat.le_of_ble_eq_true rfl) ?_
        refine E_icmp_le (tgt := 47) d_X11_walkWhy_39 (by decide) h (fun _ h => ?_) (fun _ h => ?_)
        · refine E_iconst d_X11_walkWhy_47 (c32 rfl) ?_
          cases h
          exact E_iret d_X11_walkWhy_48 rfl
        · exact E_weak (ls' := [(9, 0), (9, 0), (9, 0), (9, 0), (9, 0)]) ⟨Or.inl rfl, Or.inl rfl, Or.inl rfl, Or.inl rfl, Or.inl rfl, trivial⟩ (L_X11_walkWhy_b42 h)
  · refine E_iconst d_X11_walkWhy_9 (c32 rfl) ?_
    cases h
    exact E_iret d_X11_walkWhy_10 rfl
noncomputable def f_X11_walkWhy (v0 v1 v2 v3 : Int) (σ : Mem) : Option (Int) := if isO Sh 11 v0 = true then f_X11_walkWhy_b0 v0 v1 v2 v3 σ else none
theorem L_X11_walkWhy {o : Int} {v0 v1 v2 v3 : Int} {σ : Mem} (h : f_X11_walkWhy v0 v1 v2 v3 σ = some o) : (isO Sh 11 v0 = true ∧ Cn mt_X11_walkWhy 5 [(2, v0), (0, v1), (0, v2), (0, v3)] Sh σ (some (0, o)) Sh σ) := ⟨(ite_ok h).1, Cn_of mk_X11_walkWhy.1.2.2.1 (Nat.le_of_ble_eq_true rfl) (fun sc => L_X11_walkWhy_b0 (ite_ok h).2)⟩
theorem d_X11_walk_0 : decode mt_X11_walk.2.1 0 = .ok (.aload_n 0, 1) := by decide +kernel
theorem d_X11_walk_1 : decode mt_X11_walk.2.1 1 = .ok (.aload_n 0, 1) := by decide +kernel
theorem d_X11_walk_2 : decode mt_X11_walk.2.1 2 = .ok (.iload_n 1, 1) := by decide +kernel
theorem d_X11_walk_3 : decode mt_X11_walk.2.1 3 = .ok (.iload_n 2, 1) := by decide +kernel
theorem d_X11_walk_4 : decode mt_X11_walk.2.1 4 = .ok (.iconst 0, 1) := by decide +kernel
theorem d_X11_walk_5 : decode mt_X11_walk.2.1 5 = .ok (.invokevirtual 406, 3) := by decide +kernel
theorem d_X11_walk_8 : decode mt_X11_walk.2.1 8 = .ok (.invokevirtual 132, 3) := by decide +kernel
theorem d_X11_walk_11 : decode mt_X11_walk.2.1 11 = .ok (.ifCond .eq 5, 3) := by decide +kernel
theorem d_X11_walk_14 : decode mt_X11_walk.2.1 14 = .ok (.iconst (-1), 1) := by decide +kernel
theorem d_X11_walk_15 : decode mt_X11_walk.2.1 15 = .ok (.ireturn, 1) := by decide +kernel
theorem d_X11_walk_16 : decode mt_X11_walk.2.1 16 = .ok (.aload_n 0, 1) := by decide +kernel
theorem d_X11_walk_17 : decode mt_X11_walk.2.1 17 = .ok (.getfield 31, 3) := by decide +kernel
theorem d_X11_walk_20 : decode mt_X11_walk.2.1 20 = .ok (.iload_n 1, 1) := by decide +kernel
theorem d_X11_walk_21 : decode mt_X11_walk.2.1 21 = .ok (.iload_n 2, 1) := by decide +kernel
theorem d_X11_walk_22 : decode mt_X11_walk.2.1 22 = .ok (.invokevirtual 409, 3) := by decide +kernel
theorem d_X11_walk_25 : decode mt_X11_walk.2.1 25 = .ok (.invokestatic 316, 3) := by decide +kernel
theorem d_X11_walk_28 : decode mt_X11_walk.2.1 28 = .ok (.ireturn, 1) := by decide +kernel
noncomputable def f_X11_walk_b0 (v0 v1 v2 : Int) (σ : Mem) : Option (Int × Mem) :=
  (f_X11_walkWhy v0 v1 v2 0 σ).bind fun r1 =>
  (f_X11_refused v0 r1 σ).bind fun r3 =>
  if r3.1 = 0 then
    (gf Sh r3.2 11 v0 3).bind fun x5 =>
    (f_X9_walkTo x5 v1 v2 r3.2).bind fun r6 =>
    some (iabs r6, r3.2)
  else
    some ((-1), r3.2)
theorem L_X11_walk_b0 {sc : Nat × (Nat → Int32)} {o : Int × Mem} {v0 v1 v2 : Int} {σ : Mem} (h : f_X11_walk_b0 v0 v1 v2 σ = some o) : E sc (Fm Sh (some (0, o.1)) Sh o.2) mt_X11_walk 6 Sh Sh 0 [(2, v0), (0, v1), (0, v2)] [] Sh σ := by
  unfold f_X11_walk_b0 at h
  refine E_aload_n d_X11_walk_0 rfl (by decide) ?_
  refine E_aload_n d_X11_walk_1 rfl (by decide) ?_
  refine E_iload_n d_X11_walk_2 rfl ?_
  refine E_iload_n d_X11_walk_3 rfl ?_
  refine E_iconst d_X11_walk_4 (c32 rfl) ?_
  refine bd h (fun r1 q2 h => ?_)
  refine E_cV (as := [(0, v1), (0, v2), (0, 0)]) (st := [(2, v0)]) (a := v0) d_X11_walk_5 mk_X11_walkWhy nl_X11_406 (by omega) ⟨rfl, rfl, Nat.le_of_ble_eq_true rfl⟩ okX11 rfl (L_X11_walkWhy q2) ?_
  refine bd h (fun r3 q4 h => ?_)
  refine E_cV (as := [(0, r1)]) (st := []) (a := v0) d_X11_walk_8 mk_X11_refused nl_X11_132 (by omega) ⟨rfl, rfl, Nat.le_of_ble_eq_true rfl⟩ okX11 rfl (L_X11_refused q4) ?_
  refine E_if_eq (tgt := 16) d_X11_walk_11 (by decide) h (fun _ h => ?_) (fun _ h => ?_)
  · refine E_aload_n d_X11_walk_16 rfl (by decide) ?_
    refine E_get d_X11_walk_17 okX11 fl_X11_31 ⟨by decide, rfl⟩ h (fun x5 h => ?_)
    refine E_iload_n d_X11_walk_20 rfl ?_
    refine E_iload_n d_X11_walk_21 rfl ?_
    refine bd h (fun r6 q7 h => ?_)
    refine E_cV (as := [(0, v1), (0, v2)]) (st := []) (a := x5) d_X11_walk_22 mk_X9_walkTo nl_X11_409 (by omega) ⟨rfl, rfl, Nat.le_of_ble_eq_true rfl⟩ okX9 rfl (L_X9_walkTo q7) ?_
    refine E_iabs d_X11_walk_25 nl_X11_316 (by omega) (Nat.le_of_ble_eq_true rfl) ?_
    cases h
    exact E_iret d_X11_walk_28 rfl
  · refine E_iconst d_X11_walk_14 (c32 rfl) ?_
    cases h
    exact E_iret d_X11_walk_15 rfl
noncomputable def f_X11_walk (v0 v1 v2 : Int) (σ : Mem) : Option (Int × Mem) := if isO Sh 11 v0 = true then f_X11_walk_b0 v0 v1 v2 σ else none
theorem L_X11_walk {o : Int × Mem} {v0 v1 v2 : Int} {σ : Mem} (h : f_X11_walk v0 v1 v2 σ = some o) : (isO Sh 11 v0 = true ∧ Cn mt_X11_walk 6 [(2, v0), (0, v1), (0, v2)] Sh σ (some (0, o.1)) Sh o.2) := ⟨(ite_ok h).1, Cn_of mk_X11_walk.1.2.2.1 (Nat.le_of_ble_eq_true rfl) (fun sc => L_X11_walk_b0 (ite_ok h).2)⟩
theorem d_X11_walkAt_0 : decode mt_X11_walkAt.2.1 0 = .ok (.aload_n 0, 1) := by decide +kernel
theorem d_X11_walkAt_1 : decode mt_X11_walkAt.2.1 1 = .ok (.aload_n 0, 1) := by decide +kernel
theorem d_X11_walkAt_2 : decode mt_X11_walkAt.2.1 2 = .ok (.iload_n 1, 1) := by decide +kernel
theorem d_X11_walkAt_3 : decode mt_X11_walkAt.2.1 3 = .ok (.iload_n 2, 1) := by decide +kernel
theorem d_X11_walkAt_4 : decode mt_X11_walkAt.2.1 4 = .ok (.iload_n 3, 1) := by decide +kernel
theorem d_X11_walkAt_5 : decode mt_X11_walkAt.2.1 5 = .ok (.invokevirtual 406, 3) := by decide +kernel
theorem d_X11_walkAt_8 : decode mt_X11_walkAt.2.1 8 = .ok (.invokevirtual 132, 3) := by decide +kernel
theorem d_X11_walkAt_11 : decode mt_X11_walkAt.2.1 11 = .ok (.ifCond .eq 5, 3) := by decide +kernel
theorem d_X11_walkAt_14 : decode mt_X11_walkAt.2.1 14 = .ok (.iconst (-1), 1) := by decide +kernel
theorem d_X11_walkAt_15 : decode mt_X11_walkAt.2.1 15 = .ok (.ireturn, 1) := by decide +kernel
theorem d_X11_walkAt_16 : decode mt_X11_walkAt.2.1 16 = .ok (.aload_n 0, 1) := by decide +kernel
theorem d_X11_walkAt_17 : decode mt_X11_walkAt.2.1 17 = .ok (.getfield 31, 3) := by decide +kernel
theorem d_X11_walkAt_20 : decode mt_X11_walkAt.2.1 20 = .ok (.iload_n 1, 1) := by decide +kernel
theorem d_X11_walkAt_21 : decode mt_X11_walkAt.2.1 21 = .ok (.aload_n 0, 1) := by decide +kernel
theorem d_X11_walkAt_22 : decode mt_X11_walkAt.2.1 22 = .ok (.getfield 31, 3) := by decide +kernel
theorem d_X11_walkAt_25 : decode mt_X11_walkAt.2.1 25 = .ok (.iload_n 1, 1) := by decide +kernel
theorem d_X11_walkAt_26 : decode mt_X11_walkAt.2.1 26 = .ok (.iload_n 2, 1) := by decide +kernel
theorem d_X11_walkAt_27 : decode mt_X11_walkAt.2.1 27 = .ok (.invokevirtual 409, 3) := by decide +kernel
theorem d_X11_walkAt_30 : decode mt_X11_walkAt.2.1 30 = .ok (.ifCond .ge 8, 3) := by decide +kernel
theorem d_X11_walkAt_33 : decode mt_X11_walkAt.2.1 33 = .ok (.iload_n 3, 1) := by decide +kernel
theorem d_X11_walkAt_34 : decode mt_X11_walkAt.2.1 34 = .ok (.ineg, 1) := by decide +kernel
theorem d_X11_walkAt_35 : decode mt_X11_walkAt.2.1 35 = .ok (.goto 4, 3) := by decide +kernel
theorem d_X11_walkAt_38 : decode mt_X11_walkAt.2.1 38 = .ok (.iload_n 3, 1) := by decide +kernel
theorem d_X11_walkAt_39 : decode mt_X11_walkAt.2.1 39 = .ok (.invokevirtual 412, 3) := by decide +kernel
theorem d_X11_walkAt_42 : decode mt_X11_walkAt.2.1 42 = .ok (.ireturn, 1) := by decide +kernel
noncomputable def f_X11_walkAt_b39 (s0 s1 s2 : Int) (σ : Mem) : Option (Int × Mem) :=
  (f_X9_around s2 s1 s0 σ).bind fun r9 =>
  some (r9, σ)
theorem L_X11_walkAt_b39 {sc : Nat × (Nat → Int32)} {o : Int × Mem} {s0 s1 s2 : Int} {σ : Mem} (h : f_X11_walkAt_b39 s0 s1 s2 σ = some o) : E sc (Fm Sh (some (0, o.1)) Sh o.2) mt_X11_walkAt 6 Sh Sh 39 [(9, 0), (9, 0), (9, 0), (9, 0)] [(0, s0), (0, s1), (2, s2)] Sh σ := by
  unfold f_X11_walkAt_b39 at h
  refine bd h (fun r9 q10 h => ?_)
  refine E_cV (as := [(0, s1), (0, s0)]) (st := []) (a := s2) d_X11_walkAt_39 mk_X9_around nl_X11_412 (by omega) ⟨rfl, rfl, Nat.le_of_ble_eq_true rfl⟩ okX9 rfl (L_X9_around q10) ?_
  cases h
  exact E_iret d_X11_walkAt_42 rfl
noncomputable def f_X11_walkAt_b0 (v0 v1 v2 v3 : Int) (σ : Mem) : Option (Int × Mem) :=
  (f_X11_walkWhy v0 v1 v2 v3 σ).bind fun r1 =>
  (f_X11_refused v0 r1 σ).bind fun r3 =>
  if r3.1 = 0 then
    (gf Sh r3.2 11 v0 3).bind fun x5 =>
    (gf Sh r3.2 11 v0 3).bind fun x6 =>
    (f_X9_walkTo x6 v1 v2 r3.2).bind fun r7 =>
    if 0 ≤ r7 then
      f_X11_walkAt_b39 v3 v1 x5 r3.2
    else
      f_X11_walkAt_b39 (w32 (-v3)) v1 x5 r3.2
  else
    some ((-1), r3.2)
theorem L_X11_walkAt_b0 {sc : Nat × (Nat → Int32)} {o : Int × Mem} {v0 v1 v2 v3 : Int} {σ : Mem} (h : f_X11_walkAt_b0 v0 v1 v2 v3 σ = some o) : E sc (Fm Sh (some (0, o.1)) Sh o.2) mt_X11_walkAt 6 Sh Sh 0 [(2, v0), (0, v1), (0, v2), (0, v3)] [] Sh σ := by
  unfold f_X11_walkAt_b0 at h
  refine E_aload_n d_X11_walkAt_0 rfl (by decide) ?_
  refine E_aload_n d_X11_walkAt_1 rfl (by decide) ?_
  refine E_iload_n d_X11_walkAt_2 rfl ?_
  refine E_iload_n d_X11_walkAt_3 rfl ?_
  refine E_iload_n d_X11_walkAt_4 rfl ?_
  refine bd h (fun r1 q2 h => ?_)
  refine E_cV (as := [(0, v1), (0, v2), (0, v3)]) (st := [(2, v0)]) (a := v0) d_X11_walkAt_5 mk_X11_walkWhy nl_X11_406 (by omega) ⟨rfl, rfl, Nat.le_of_ble_eq_true rfl⟩ okX11 rfl (L_X11_walkWhy q2) ?_
  refine bd h (fun r3 q4 h => ?_)
  refine E_cV (as := [(0, r1)]) (st := []) (a := v0) d_X11_walkAt_8 mk_X11_refused nl_X11_132 (by omega) ⟨rfl, rfl, Nat.le_of_ble_eq_true rfl⟩ okX11 rfl (L_X11_refused q4) ?_
  refine E_if_eq (tgt := 16) d_X11_walkAt_11 (by decide) h (fun _ h => ?_) (fun _ h => ?_)
  · refine E_aload_n d_X11_walkAt_16 rfl (by decide) ?_
    refine E_get d_X11_walkAt_17 okX11 fl_X11_31 ⟨by decide, rfl⟩ h (fun x5 h => ?_)
    refine E_iload_n d_X11_walkAt_20 rfl ?_
    refine E_aload_n d_X11_walkAt_21 rfl (by decide) ?_
    refine E_get d_X11_walkAt_22 okX11 fl_X11_31 ⟨by decide, rfl⟩ h (fun x6 h => ?_)
    refine E_iload_n d_X11_walkAt_25 rfl ?_
    refine E_iload_n d_X11_walkAt_26 rfl ?_
    refine bd h (fun r7 q8 h => ?_)
    refine E_cV (as := [(0, v1), (0, v2)]) (st := [(0, v1), (2, x5)]) (a := x6) d_X11_walkAt_27 mk_X9_walkTo nl_X11_409 (by omega) ⟨rfl, rfl, Nat.le_of_ble_eq_true rfl⟩ okX9 rfl (L_X9_walkTo q8) ?_
    refine E_if_ge (tgt := 38) d_X11_walkAt_30 (by decide) h (fun _ h => ?_) (fun _ h => ?_)
    · refine E_iload_n d_X11_walkAt_38 rfl ?_
      exact E_weak (ls' := [(9, 0), (9, 0), (9, 0), (9, 0)]) ⟨Or.inl rfl, Or.inl rfl, Or.inl rfl, Or.inl rfl, trivial⟩ (L_X11_walkAt_b39 h)
    · refine E_iload_n d_X11_walkAt_33 rfl ?_
      refine E_ineg d_X11_walkAt_34 ?_
      refine E_goto (tgt := 39) d_X11_walkAt_35 (by decide) ?_
      exact E_weak (ls' := [(9, 0), (9, 0), (9, 0), (9, 0)]) ⟨Or.inl rfl, Or.inl rfl, Or.inl rfl, Or.inl rfl, trivial⟩ (L_X11_walkAt_b39 h)
  · refine E_iconst d_X11_walkAt_14 (c32 rfl) ?_
    cases h
    exact E_iret d_X11_walkAt_15 rfl
noncomputable def f_X11_walkAt (v0 v1 v2 v3 : Int) (σ : Mem) : Option (Int × Mem) := if isO Sh 11 v0 = true then f_X11_walkAt_b0 v0 v1 v2 v3 σ else none
theorem L_X11_walkAt {o : Int × Mem} {v0 v1 v2 v3 : Int} {σ : Mem} (h : f_X11_walkAt v0 v1 v2 v3 σ = some o) : (isO Sh 11 v0 = true ∧ Cn mt_X11_walkAt 6 [(2, v0), (0, v1), (0, v2), (0, v3)] Sh σ (some (0, o.1)) Sh o.2) := ⟨(ite_ok h).1, Cn_of mk_X11_walkAt.1.2.2.1 (Nat.le_of_ble_eq_true rfl) (fun sc => L_X11_walkAt_b0 (ite_ok h).2)⟩
theorem d_X11_longest_0 : decode mt_X11_longest.2.1 0 = .ok (.aload_n 0, 1) := by decide +kernel
theorem d_X11_longest_1 : decode mt_X11_longest.2.1 1 = .ok (.iconst 0, 1) := by decide +kernel
theorem d_X11_longest_2 : decode mt_X11_longest.2.1 2 = .ok (.invokevirtual 132, 3) := by decide +kernel
theorem d_X11_longest_5 : decode mt_X11_longest.2.1 5 = .ok (.ifCond .eq 7, 3) := by decide +kernel
theorem d_X11_longest_8 : decode mt_X11_longest.2.1 8 = .ok (.iconst (-1), 1) := by decide +kernel
theorem d_X11_longest_9 : decode mt_X11_longest.2.1 9 = .ok (.goto 10, 3) := by decide +kernel
theorem d_X11_longest_12 : decode mt_X11_longest.2.1 12 = .ok (.aload_n 0, 1) := by decide +kernel
theorem d_X11_longest_13 : decode mt_X11_longest.2.1 13 = .ok (.getfield 31, 3) := by decide +kernel
theorem d_X11_longest_16 : decode mt_X11_longest.2.1 16 = .ok (.invokevirtual 415, 3) := by decide +kernel
theorem d_X11_longest_19 : decode mt_X11_longest.2.1 19 = .ok (.ireturn, 1) := by decide +kernel
noncomputable def f_X11_longest_b0 (v0 : Int) (σ : Mem) : Option (Int × Mem) :=
  (f_X11_refused v0 0 σ).bind fun r1 =>
  if r1.1 = 0 then
    (gf Sh r1.2 11 v0 3).bind fun x3 =>
    (f_X9_longestRow x3 r1.2).bind fun r4 =>
    some (r4, r1.2)
  else
    some ((-1), r1.2)
theorem L_X11_longest_b0 {sc : Nat × (Nat → Int32)} {o : Int × Mem} {v0 : Int} {σ : Mem} (h : f_X11_longest_b0 v0 σ = some o) : E sc (Fm Sh (some (0, o.1)) Sh o.2) mt_X11_longest 4 Sh Sh 0 [(2, v0)] [] Sh σ := by
  unfold f_X11_longest_b0 at h
  refine E_aload_n d_X11_longest_0 rfl (by decide) ?_
  refine E_iconst d_X11_longest_1 (c32 rfl) ?_
  refine bd h (fun r1 q2 h => ?_)
  refine E_cV (as := [(0, 0)]) (st := []) (a := v0) d_X11_longest_2 mk_X11_refused nl_X11_132 (by omega) ⟨rfl, rfl, Nat.le_of_ble_eq_true rfl⟩ okX11 rfl (L_X11_refused q2) ?_
  refine E_if_eq (tgt := 12) d_X11_longest_5 (by decide) h (fun _ h => ?_) (fun _ h => ?_)
  · refine E_aload_n d_X11_longest_12 rfl (by decide) ?_
    refine E_get d_X11_longest_13 okX11 fl_X11_31 ⟨by decide, rfl⟩ h (fun x3 h => ?_)
    refine bd h (fun r4 q5 h => ?_)
    refine E_cV (as := []) (st := []) (a := x3) d_X11_longest_16 mk_X9_longestRow nl_X11_415 (by omega) ⟨rfl, rfl, Nat.le_of_ble_eq_true rfl⟩ okX9 rfl (L_X9_longestRow q5) ?_
    cases h
    exact E_iret d_X11_longest_19 rfl
  · refine E_iconst d_X11_longest_8 (c32 rfl) ?_
    refine E_goto (tgt := 19) d_X11_longest_9 (by decide) ?_
    cases h
    exact E_iret d_X11_longest_19 rfl
noncomputable def f_X11_longest (v0 : Int) (σ : Mem) : Option (Int × Mem) := if isO Sh 11 v0 = true then f_X11_longest_b0 v0 σ else none
theorem L_X11_longest {o : Int × Mem} {v0 : Int} {σ : Mem} (h : f_X11_longest v0 σ = some o) : (isO Sh 11 v0 = true ∧ Cn mt_X11_longest 4 [(2, v0)] Sh σ (some (0, o.1)) Sh o.2) := ⟨(ite_ok h).1, Cn_of mk_X11_longest.1.2.2.1 (Nat.le_of_ble_eq_true rfl) (fun sc => L_X11_longest_b0 (ite_ok h).2)⟩
theorem d_X11_gameWhy_0 : decode mt_X11_gameWhy.2.1 0 = .ok (.aload_n 0, 1) := by decide +kernel
theorem d_X11_gameWhy_1 : decode mt_X11_gameWhy.2.1 1 = .ok (.iload_n 1, 1) := by decide +kernel
theorem d_X11_gameWhy_2 : decode mt_X11_gameWhy.2.1 2 = .ok (.iload_n 2, 1) := by decide +kernel
theorem d_X11_gameWhy_3 : decode mt_X11_gameWhy.2.1 3 = .ok (.invokevirtual 274, 3) := by decide +kernel
theorem d_X11_gameWhy_6 : decode mt_X11_gameWhy.2.1 6 = .ok (.istore 5, 2) := by decide +kernel
theorem d_X11_gameWhy_8 : decode mt_X11_gameWhy.2.1 8 = .ok (.iload 5, 2) := by decide +kernel
theorem d_X11_gameWhy_10 : decode mt_X11_gameWhy.2.1 10 = .ok (.ifCond .ne 18, 3) := by decide +kernel
theorem d_X11_gameWhy_13 : decode mt_X11_gameWhy.2.1 13 = .ok (.iload_n 3, 1) := by decide +kernel
theorem d_X11_gameWhy_14 : decode mt_X11_gameWhy.2.1 14 = .ok (.iload 4, 2) := by decide +kernel
theorem d_X11_gameWhy_16 : decode mt_X11_gameWhy.2.1 16 = .ok (.if_icmp .lt 8, 3) := by decide +kernel
theorem d_X11_gameWhy_19 : decode mt_X11_gameWhy.2.1 19 = .ok (.iload_n 3, 1) := by decide +kernel
theorem d_X11_gameWhy_20 : decode mt_X11_gameWhy.2.1 20 = .ok (.iconst 4, 1) := by decide +kernel
theorem d_X11_gameWhy_21 : decode mt_X11_gameWhy.2.1 21 = .ok (.if_icmp .le 7, 3) := by decide +kernel
theorem d_X11_gameWhy_24 : decode mt_X11_gameWhy.2.1 24 = .ok (.iconst 5, 1) := by decide +kernel
theorem d_X11_gameWhy_25 : decode mt_X11_gameWhy.2.1 25 = .ok (.goto 5, 3) := by decide +kernel
theorem d_X11_gameWhy_28 : decode mt_X11_gameWhy.2.1 28 = .ok (.iload 5, 2) := by decide +kernel
theorem d_X11_gameWhy_30 : decode mt_X11_gameWhy.2.1 30 = .ok (.ireturn, 1) := by decide +kernel
noncomputable def f_X11_gameWhy_b24 (σ : Mem) : Option (Int) :=
  some (5)
theorem L_X11_gameWhy_b24 {sc : Nat × (Nat → Int32)} {o : Int} {σ : Mem} (h : f_X11_gameWhy_b24  σ = some o) : E sc (Fm Sh (some (0, o)) Sh σ) mt_X11_gameWhy 3 Sh Sh 24 [(9, 0), (9, 0), (9, 0), (9, 0), (9, 0), (9, 0)] [] Sh σ := by
  unfold f_X11_gameWhy_b24 at h
  refine E_iconst d_X11_gameWhy_24 (c32 rfl) ?_
  refine E_goto (tgt := 30) d_X11_gameWhy_25 (by decide) ?_
  cases h
  exact E_iret d_X11_gameWhy_30 rfl
noncomputable def f_X11_gameWhy_b0 (v0 v1 v2 v3 v4 : Int) (σ : Mem) : Option (Int) :=
  (f_X11_guiltWhy v0 v1 v2 σ).bind fun r1 =>
  if r1 = 0 then
    if v3 < v4 then
      f_X11_gameWhy_b24  σ
    else
      if v3 ≤ 4 then
        some (r1)
      else
        f_X11_gameWhy_b24  σ
  else
    some (r1)
theorem L_X11_gameWhy_b0 {sc : Nat × (Nat → Int32)} {o : Int} {σ : Mem} {v0 v1 v2 v3 v4 : Int} (h : f_X11_gameWhy_b0 v0 v1 v2 v3 v4 σ = some o) : E sc (Fm Sh (some (0, o)) Sh σ) mt_X11_gameWhy 3 Sh Sh 0 [(2, v0), (0, v1), (0, v2), (0, v3), (0, v4), (9, 0)] [] Sh σ := by
  unfold f_X11_gameWhy_b0 at h
  refine E_aload_n d_X11_gameWhy_0 rfl (by decide) ?_
  refine E_iload_n d_X11_gameWhy_1 rfl ?_
  refine E_iload_n d_X11_gameWhy_2 rfl ?_
  refine bd h (fun r1 q2 h => ?_)
  refine E_cV (as := [(0, v1), (0, v2)]) (st := []) (a := v0) d_X11_gameWhy_3 mk_X11_guiltWhy nl_X11_274 (by omega) ⟨rfl, rfl, Nat.le_of_ble_eq_true rfl⟩ okX11 rfl (L_X11_guiltWhy q2) ?_
  refine E_istore d_X11_gameWhy_6 (ls' := [(2, v0), (0, v1), (0, v2), (0, v3), (0, v4), (0, r1)]) ⟨by decide, rfl⟩ ?_
  refine E_iload d_X11_gameWhy_8 rfl ?_
  refine E_if_ne (tgt := 28) d_X11_gameWhy_10 (by decide) h (fun _ h => ?_) (fun _ h => ?_)
  · refine E_iload_n d_X11_gameWhy_13 rfl ?_
    refine E_iload d_X11_gameWhy_14 rfl ?_
    refine E_icmp_lt (tgt := 24) d_X11_gameWhy_16 (by decide) h (fun _ h => ?_) (fun _ h => ?_)
    · exact E_weak (ls' := [(9, 0), (9, 0), (9, 0), (9, 0), (9, 0), (9, 0)]) ⟨Or.inl rfl, Or.inl rfl, Or.inl rfl, Or.inl rfl, Or.inl rfl, Or.inl rfl, trivial⟩ (L_X11_gameWhy_b24 h)
    · refine E_iload_n d_X11_gameWhy_19 rfl ?_
      refine E_iconst d_X11_gameWhy_20 (c32 rfl) ?_
      refine E_icmp_le (tgt := 28) d_X11_gameWhy_21 (by decide) h (fun _ h => ?_) (fun _ h => ?_)
      · refine E_iload d_X11_gameWhy_28 rfl ?_
        cases h
        exact E_iret d_X11_gameWhy_30 rfl
      · exact E_weak (ls' := [(9, 0), (9, 0), (9, 0), (9, 0), (9, 0), (9, 0)]) ⟨Or.inl rfl, Or.inl rfl, Or.inl rfl, Or.inl rfl, Or.inl rfl, Or.inl rfl, trivial⟩ (L_X11_gameWhy_b24 h)
  · refine E_iload d_X11_gameWhy_28 rfl ?_
    cases h
    exact E_iret d_X11_gameWhy_30 rfl
noncomputable def f_X11_gameWhy (v0 v1 v2 v3 v4 : Int) (σ : Mem) : Option (Int) := if isO Sh 11 v0 = true then f_X11_gameWhy_b0 v0 v1 v2 v3 v4 σ else none
theorem L_X11_gameWhy {o : Int} {v0 v1 v2 v3 v4 : Int} {σ : Mem} (h : f_X11_gameWhy v0 v1 v2 v3 v4 σ = some o) : (isO Sh 11 v0 = true ∧ Cn mt_X11_gameWhy 3 [(2, v0), (0, v1), (0, v2), (0, v3), (0, v4)] Sh σ (some (0, o)) Sh σ) := ⟨(ite_ok h).1, Cn_of mk_X11_gameWhy.1.2.2.1 (Nat.le_of_ble_eq_true rfl) (fun sc => L_X11_gameWhy_b0 (ite_ok h).2)⟩
theorem d_X11_game_0 : decode mt_X11_game.2.1 0 = .ok (.aload_n 0, 1) := by decide +kernel
theorem d_X11_game_1 : decode mt_X11_game.2.1 1 = .ok (.aload_n 0, 1) := by decide +kernel
theorem d_X11_game_2 : decode mt_X11_game.2.1 2 = .ok (.iload_n 1, 1) := by decide +kernel
theorem d_X11_game_3 : decode mt_X11_game.2.1 3 = .ok (.iload_n 2, 1) := by decide +kernel
theorem d_X11_game_4 : decode mt_X11_game.2.1 4 = .ok (.iload_n 3, 1) := by decide +kernel
theorem d_X11_game_5 : decode mt_X11_game.2.1 5 = .ok (.iconst 0, 1) := by decide +kernel
theorem d_X11_game_6 : decode mt_X11_game.2.1 6 = .ok (.invokevirtual 418, 3) := by decide +kernel
theorem d_X11_game_9 : decode mt_X11_game.2.1 9 = .ok (.invokevirtual 132, 3) := by decide +kernel
theorem d_X11_game_12 : decode mt_X11_game.2.1 12 = .ok (.ifCond .eq 5, 3) := by decide +kernel
theorem d_X11_game_15 : decode mt_X11_game.2.1 15 = .ok (.iconst (-1), 1) := by decide +kernel
theorem d_X11_game_16 : decode mt_X11_game.2.1 16 = .ok (.ireturn, 1) := by decide +kernel
theorem d_X11_game_17 : decode mt_X11_game.2.1 17 = .ok (.aload_n 0, 1) := by decide +kernel
theorem d_X11_game_18 : decode mt_X11_game.2.1 18 = .ok (.getfield 102, 3) := by decide +kernel
theorem d_X11_game_21 : decode mt_X11_game.2.1 21 = .ok (.iload_n 1, 1) := by decide +kernel
theorem d_X11_game_22 : decode mt_X11_game.2.1 22 = .ok (.iload_n 2, 1) := by decide +kernel
theorem d_X11_game_23 : decode mt_X11_game.2.1 23 = .ok (.invokevirtual 422, 3) := by decide +kernel
theorem d_X11_game_26 : decode mt_X11_game.2.1 26 = .ok (.aload_n 0, 1) := by decide +kernel
theorem d_X11_game_27 : decode mt_X11_game.2.1 27 = .ok (.getfield 102, 3) := by decide +kernel
theorem d_X11_game_30 : decode mt_X11_game.2.1 30 = .ok (.iload_n 3, 1) := by decide +kernel
theorem d_X11_game_31 : decode mt_X11_game.2.1 31 = .ok (.invokevirtual 424, 3) := by decide +kernel
theorem d_X11_game_34 : decode mt_X11_game.2.1 34 = .ok (.ireturn, 1) := by decide +kernel
noncomputable def f_X11_game_b0 (v0 v1 v2 v3 : Int) (σ : Mem) : Option (Int × Mem) :=
  (f_X11_gameWhy v0 v1 v2 v3 0 σ).bind fun r1 =>
  (f_X11_refused v0 r1 σ).bind fun r3 =>
  if r3.1 = 0 then
    (gf Sh r3.2 11 v0 14).bind fun x5 =>
    (f_X1_begin x5 v1 v2 r3.2).bind fun r6 =>
    (gf Sh r6 11 v0 14).bind fun x8 =>
    (f_X1_outcome x8 v3 r6).bind fun r9 =>
    some (r9, r6)
  else
    some ((-1), r3.2)
theorem L_X11_game_b0 {sc : Nat × (Nat → Int32)} {o : Int × Mem} {v0 v1 v2 v3 : Int} {σ : Mem} (h : f_X11_game_b0 v0 v1 v2 v3 σ = some o) : E sc (Fm Sh (some (0, o.1)) Sh o.2) mt_X11_game 82 Sh Sh 0 [(2, v0), (0, v1), (0, v2), (0, v3)] [] Sh σ := by
  unfold f_X11_game_b0 at h
  refine E_aload_n d_X11_game_0 rfl (by decide) ?_
  refine E_aload_n d_X11_game_1 rfl (by decide) ?_
  refine E_iload_n d_X11_game_2 rfl ?_
  refine E_iload_n d_X11_game_3 rfl ?_
  refine E_iload_n d_X11_game_4 rfl ?_
  refine E_iconst d_X11_game_5 (c32 rfl) ?_
  refine bd h (fun r1 q2 h => ?_)
  refine E_cV (as := [(0, v1), (0, v2), (0, v3), (0, 0)]) (st := [(2, v0)]) (a := v0) d_X11_game_6 mk_X11_gameWhy nl_X11_418 (by omega) ⟨rfl, rfl, Nat.le_of_ble_eq_true rfl⟩ okX11 rfl (L_X11_gameWhy q2) ?_
  refine bd h (fun r3 q4 h => ?_)
  refine E_cV (as := [(0, r1)]) (st := []) (a := v0) d_X11_game_9 mk_X11_refused nl_X11_132 (by omega) ⟨rfl, rfl, Nat.le_of_ble_eq_true rfl⟩ okX11 rfl (L_X11_refused q4) ?_
  refine E_if_eq (tgt := 17) d_X11_game_12 (by decide) h (fun _ h => ?_) (fun _ h => ?_)
  · refine E_aload_n d_X11_game_17 rfl (by decide) ?_
    refine E_get d_X11_game_18 okX11 fl_X11_102 ⟨by decide, rfl⟩ h (fun x5 h => ?_)
    refine E_iload_n d_X11_game_21 rfl ?_
    refine E_iload_n d_X11_game_22 rfl ?_
    refine bd h (fun r6 q7 h => ?_)
    refine E_cVv (as := [(0, v1), (0, v2)]) (st := []) (a := x5) d_X11_game_23 mk_X1_begin nl_X11_422 (by omega) ⟨rfl, rfl, Nat.le_of_ble_eq_true rfl⟩ okX1 rfl (L_X1_begin q7) ?_
    refine E_aload_n d_X11_game_26 rfl (by decide) ?_
    refine E_get d_X11_game_27 okX11 fl_X11_102 ⟨by decide, rfl⟩ h (fun x8 h => ?_)
    refine E_iload_n d_X11_game_30 rfl ?_
    refine bd h (fun r9 q10 h => ?_)
    refine E_cV (as := [(0, v3)]) (st := []) (a := x8) d_X11_game_31 mk_X1_outcome nl_X11_424 (by omega) ⟨rfl, rfl, Nat.le_of_ble_eq_true rfl⟩ okX1 rfl (L_X1_outcome q10) ?_
    cases h
    exact E_iret d_X11_game_34 rfl
  · refine E_iconst d_X11_game_15 (c32 rfl) ?_
    cases h
    exact E_iret d_X11_game_16 rfl
noncomputable def f_X11_game (v0 v1 v2 v3 : Int) (σ : Mem) : Option (Int × Mem) := if isO Sh 11 v0 = true then f_X11_game_b0 v0 v1 v2 v3 σ else none
theorem L_X11_game {o : Int × Mem} {v0 v1 v2 v3 : Int} {σ : Mem} (h : f_X11_game v0 v1 v2 v3 σ = some o) : (isO Sh 11 v0 = true ∧ Cn mt_X11_game 82 [(2, v0), (0, v1), (0, v2), (0, v3)] Sh σ (some (0, o.1)) Sh o.2) := ⟨(ite_ok h).1, Cn_of mk_X11_game.1.2.2.1 (Nat.le_of_ble_eq_true rfl) (fun sc => L_X11_game_b0 (ite_ok h).2)⟩
theorem d_X11_moveOf_0 : decode mt_X11_moveOf.2.1 0 = .ok (.iconst (-1), 1) := by decide +kernel
theorem d_X11_moveOf_1 : decode mt_X11_moveOf.2.1 1 = .ok (.istore 4, 2) := by decide +kernel
theorem d_X11_moveOf_3 : decode mt_X11_moveOf.2.1 3 = .ok (.aload_n 0, 1) := by decide +kernel
theorem d_X11_moveOf_4 : decode mt_X11_moveOf.2.1 4 = .ok (.iload_n 1, 1) := by decide +kernel
theorem d_X11_moveOf_5 : decode mt_X11_moveOf.2.1 5 = .ok (.iload_n 2, 1) := by decide +kernel
theorem d_X11_moveOf_6 : decode mt_X11_moveOf.2.1 6 = .ok (.iload_n 3, 1) := by decide +kernel
theorem d_X11_moveOf_7 : decode mt_X11_moveOf.2.1 7 = .ok (.iconst 1, 1) := by decide +kernel
theorem d_X11_moveOf_8 : decode mt_X11_moveOf.2.1 8 = .ok (.invokevirtual 418, 3) := by decide +kernel
theorem d_X11_moveOf_11 : decode mt_X11_moveOf.2.1 11 = .ok (.istore 5, 2) := by decide +kernel
theorem d_X11_moveOf_13 : decode mt_X11_moveOf.2.1 13 = .ok (.iload 5, 2) := by decide +kernel
theorem d_X11_moveOf_15 : decode mt_X11_moveOf.2.1 15 = .ok (.ifCond .ne 36, 3) := by decide +kernel
theorem d_X11_moveOf_18 : decode mt_X11_moveOf.2.1 18 = .ok (.aload_n 0, 1) := by decide +kernel
theorem d_X11_moveOf_19 : decode mt_X11_moveOf.2.1 19 = .ok (.getfield 102, 3) := by decide +kernel
theorem d_X11_moveOf_22 : decode mt_X11_moveOf.2.1 22 = .ok (.iload_n 1, 1) := by decide +kernel
theorem d_X11_moveOf_23 : decode mt_X11_moveOf.2.1 23 = .ok (.iload_n 2, 1) := by decide +kernel
theorem d_X11_moveOf_24 : decode mt_X11_moveOf.2.1 24 = .ok (.invokevirtual 422, 3) := by decide +kernel
theorem d_X11_moveOf_27 : decode mt_X11_moveOf.2.1 27 = .ok (.aload_n 0, 1) := by decide +kernel
theorem d_X11_moveOf_28 : decode mt_X11_moveOf.2.1 28 = .ok (.getfield 102, 3) := by decide +kernel
theorem d_X11_moveOf_31 : decode mt_X11_moveOf.2.1 31 = .ok (.iload_n 3, 1) := by decide +kernel
theorem d_X11_moveOf_32 : decode mt_X11_moveOf.2.1 32 = .ok (.invokevirtual 427, 3) := by decide +kernel
theorem d_X11_moveOf_35 : decode mt_X11_moveOf.2.1 35 = .ok (.istore 4, 2) := by decide +kernel
theorem d_X11_moveOf_37 : decode mt_X11_moveOf.2.1 37 = .ok (.iload 4, 2) := by decide +kernel
theorem d_X11_moveOf_39 : decode mt_X11_moveOf.2.1 39 = .ok (.iconst (-1), 1) := by decide +kernel
theorem d_X11_moveOf_40 : decode mt_X11_moveOf.2.1 40 = .ok (.if_icmp .ne 8, 3) := by decide +kernel
theorem d_X11_moveOf_43 : decode mt_X11_moveOf.2.1 43 = .ok (.bipush 8, 2) := by decide +kernel
theorem d_X11_moveOf_45 : decode mt_X11_moveOf.2.1 45 = .ok (.goto 4, 3) := by decide +kernel
theorem d_X11_moveOf_48 : decode mt_X11_moveOf.2.1 48 = .ok (.iconst 0, 1) := by decide +kernel
theorem d_X11_moveOf_49 : decode mt_X11_moveOf.2.1 49 = .ok (.istore 5, 2) := by decide +kernel
theorem d_X11_moveOf_51 : decode mt_X11_moveOf.2.1 51 = .ok (.aload_n 0, 1) := by decide +kernel
theorem d_X11_moveOf_52 : decode mt_X11_moveOf.2.1 52 = .ok (.iload 5, 2) := by decide +kernel
theorem d_X11_moveOf_54 : decode mt_X11_moveOf.2.1 54 = .ok (.invokevirtual 132, 3) := by decide +kernel
theorem d_X11_moveOf_57 : decode mt_X11_moveOf.2.1 57 = .ok (.ifCond .eq 7, 3) := by decide +kernel
theorem d_X11_moveOf_60 : decode mt_X11_moveOf.2.1 60 = .ok (.iconst (-1), 1) := by decide +kernel
theorem d_X11_moveOf_61 : decode mt_X11_moveOf.2.1 61 = .ok (.goto 5, 3) := by decide +kernel
theorem d_X11_moveOf_64 : decode mt_X11_moveOf.2.1 64 = .ok (.iload 4, 2) := by decide +kernel
theorem d_X11_moveOf_66 : decode mt_X11_moveOf.2.1 66 = .ok (.ireturn, 1) := by decide +kernel
noncomputable def f_X11_moveOf_b51 (v0 v4 v5 : Int) (σ : Mem) : Option (Int × Mem) :=
  (f_X11_refused v0 v5 σ).bind fun r9 =>
  if r9.1 = 0 then
    some (v4, r9.2)
  else
    some ((-1), r9.2)
theorem L_X11_moveOf_b51 {sc : Nat × (Nat → Int32)} {o : Int × Mem} {v0 v4 v5 : Int} {σ : Mem} (h : f_X11_moveOf_b51 v0 v4 v5 σ = some o) : E sc (Fm Sh (some (0, o.1)) Sh o.2) mt_X11_moveOf 83 Sh Sh 51 [(2, v0), (9, 0), (9, 0), (9, 0), (0, v4), (0, v5)] [] Sh σ := by
  unfold f_X11_moveOf_b51 at h
  refine E_aload_n d_X11_moveOf_51 rfl (by decide) ?_
  refine E_iload d_X11_moveOf_52 rfl ?_
  refine bd h (fun r9 q10 h => ?_)
  refine E_cV (as := [(0, v5)]) (st := []) (a := v0) d_X11_moveOf_54 mk_X11_refused nl_X11_132 (by omega) ⟨rfl, rfl, Nat.le_of_ble_eq_true rfl⟩ okX11 rfl (L_X11_refused q10) ?_
  refine E_if_eq (tgt := 64) d_X11_moveOf_57 (by decide) h (fun _ h => ?_) (fun _ h => ?_)
  · refine E_iload d_X11_moveOf_64 rfl ?_
    cases h
    exact E_iret d_X11_moveOf_66 rfl
  · refine E_iconst d_X11_moveOf_60 (c32 rfl) ?_
    refine E_goto (tgt := 66) d_X11_moveOf_61 (by decide) ?_
    cases h
    exact E_iret d_X11_moveOf_66 rfl
noncomputable def f_X11_moveOf_b49 (v0 v4 s0 : Int) (σ : Mem) : Option (Int × Mem) :=
  f_X11_moveOf_b51 v0 v4 s0 σ
theorem L_X11_moveOf_b49 {sc : Nat × (Nat → Int32)} {o : Int × Mem} {v0 v4 s0 : Int} {σ : Mem} (h : f_X11_moveOf_b49 v0 v4 s0 σ = some o) : E sc (Fm Sh (some (0, o.1)) Sh o.2) mt_X11_moveOf 83 Sh Sh 49 [(2, v0), (9, 0), (9, 0), (9, 0), (0, v4), (9, 0)] [(0, s0)] Sh σ := by
  unfold f_X11_moveOf_b49 at h
  refine E_istore d_X11_moveOf_49 (ls' := [(2, v0), (9, 0), (9, 0), (9, 0), (0, v4), (0, s0)]) ⟨by decide, rfl⟩ ?_
  exact (L_X11_moveOf_b51 h)
noncomputable def f_X11_moveOf_b0 (v0 v1 v2 v3 : Int) (σ : Mem) : Option (Int × Mem) :=
  (f_X11_gameWhy v0 v1 v2 v3 1 σ).bind fun r1 =>
  if r1 = 0 then
    (gf Sh σ 11 v0 14).bind fun x3 =>
    (f_X1_begin x3 v1 v2 σ).bind fun r4 =>
    (gf Sh r4 11 v0 14).bind fun x6 =>
    (f_X1_firstMove x6 v3 r4).bind fun r7 =>
    if r7 = (-1) then
      f_X11_moveOf_b49 v0 r7 8 r4
    else
      f_X11_moveOf_b49 v0 r7 0 r4
  else
    f_X11_moveOf_b51 v0 (-1) r1 σ
theorem L_X11_moveOf_b0 {sc : Nat × (Nat → Int32)} {o : Int × Mem} {v0 v1 v2 v3 : Int} {σ : Mem} (h : f_X11_moveOf_b0 v0 v1 v2 v3 σ = some o) : E sc (Fm Sh (some (0, o.1)) Sh o.2) mt_X11_moveOf 83 Sh Sh 0 [(2, v0), (0, v1), (0, v2), (0, v3), (9, 0), (9, 0)] [] Sh σ := by
  unfold f_X11_moveOf_b0 at h
  refine E_iconst d_X11_moveOf_0 (c32 rfl) ?_
  refine E_istore d_X11_moveOf_1 (ls' := [(2, v0), (0, v1), (0, v2), (0, v3), (0, (-1)), (9, 0)]) ⟨by decide, rfl⟩ ?_
  refine E_aload_n d_X11_moveOf_3 rfl (by decide) ?_
  refine E_iload_n d_X11_moveOf_4 rfl ?_
  refine E_iload_n d_X11_moveOf_5 rfl ?_
  refine E_iload_n d_X11_moveOf_6 rfl ?_
  refine E_iconst d_X11_moveOf_7 (c32 rfl) ?_
  refine bd h (fun r1 q2 h => ?_)
  refine E_cV (as := [(0, v1), (0, v2), (0, v3), (0, 1)]) (st := []) (a := v0) d_X11_moveOf_8 mk_X11_gameWhy nl_X11_418 (by omega) ⟨rfl, rfl, Nat.le_of_ble_eq_true rfl⟩ okX11 rfl (L_X11_gameWhy q2) ?_
  refine E_istore d_X11_moveOf_11 (ls' := [(2, v0), (0, v1), (0, v2), (0, v3), (0, (-1)), (0, r1)]) ⟨by decide, rfl⟩ ?_
  refine E_iload d_X11_moveOf_13 rfl ?_
  refine E_if_ne (tgt := 51) d_X11_moveOf_15 (by decide) h (fun _ h => ?_) (fun _ h => ?_)
  · refine E_aload_n d_X11_moveOf_18 rfl (by decide) ?_
    refine E_get d_X11_moveOf_19 okX11 fl_X11_102 ⟨by decide, rfl⟩ h (fun x3 h => ?_)
    refine E_iload_n d_X11_moveOf_22 rfl ?_
    refine E_iload_n d_X11_moveOf_23 rfl ?_
    refine bd h (fun r4 q5 h => ?_)
    refine E_cVv (as := [(0, v1), (0, v2)]) (st := []) (a := x3) d_X11_moveOf_24 mk_X1_begin nl_X11_422 (by omega) ⟨rfl, rfl, Nat.le_of_ble_eq_true rfl⟩ okX1 rfl (L_X1_begin q5) ?_
    refine E_aload_n d_X11_moveOf_27 rfl (by decide) ?_
    refine E_get d_X11_moveOf_28 okX11 fl_X11_102 ⟨by decide, rfl⟩ h (fun x6 h => ?_)
    refine E_iload_n d_X11_moveOf_31 rfl ?_
    refine bd h (fun r7 q8 h => ?_)
    refine E_cV (as := [(0, v3)]) (st := []) (a := x6) d_X11_moveOf_32 mk_X1_firstMove nl_X11_427 (by omega) ⟨rfl, rfl, Nat.le_of_ble_eq_true rfl⟩ okX1 rfl (L_X1_firstMove q8) ?_
    refine E_istore d_X11_moveOf_35 (ls' := [(2, v0), (0, v1), (0, v2), (0, v3), (0, r7), (0, r1)]) ⟨by decide, rfl⟩ ?_
    refine E_iload d_X11_moveOf_37 rfl ?_
    refine E_iconst d_X11_moveOf_39 (c32 rfl) ?_
    refine E_icmp_ne (tgt := 48) d_X11_moveOf_40 (by decide) h (fun _ h => ?_) (fun _ h => ?_)
    · refine E_bipush d_X11_moveOf_43 (c8 rfl) ?_
      refine E_goto (tgt := 49) d_X11_moveOf_45 (by decide) ?_
      exact E_weak (ls' := [(2, v0), (9, 0), (9, 0), (9, 0), (0, r7), (9, 0)]) ⟨Or.inr rfl, Or.inl rfl, Or.inl rfl, Or.inl rfl, Or.inr rfl, Or.inl rfl, trivial⟩ (L_X11_moveOf_b49 h)
    · refine E_iconst d_X11_moveOf_48 (c32 rfl) ?_
      exact E_weak (ls' := [(2, v0), (9, 0), (9, 0), (9, 0), (0, r7), (9, 0)]) ⟨Or.inr rfl, Or.inl rfl, Or.inl rfl, Or.inl rfl, Or.inr rfl, Or.inl rfl, trivial⟩ (L_X11_moveOf_b49 h)
  · exact E_weak (ls' := [(2, v0), (9, 0), (9, 0), (9, 0), (0, (-1)), (0, r1)]) ⟨Or.inr rfl, Or.inl rfl, Or.inl rfl, Or.inl rfl, Or.inr rfl, Or.inr rfl, trivial⟩ (L_X11_moveOf_b51 h)
noncomputable def f_X11_moveOf (v0 v1 v2 v3 : Int) (σ : Mem) : Option (Int × Mem) := if isO Sh 11 v0 = true then f_X11_moveOf_b0 v0 v1 v2 v3 σ else none
theorem L_X11_moveOf {o : Int × Mem} {v0 v1 v2 v3 : Int} {σ : Mem} (h : f_X11_moveOf v0 v1 v2 v3 σ = some o) : (isO Sh 11 v0 = true ∧ Cn mt_X11_moveOf 83 [(2, v0), (0, v1), (0, v2), (0, v3)] Sh σ (some (0, o.1)) Sh o.2) := ⟨(ite_ok h).1, Cn_of mk_X11_moveOf.1.2.2.1 (Nat.le_of_ble_eq_true rfl) (fun sc => L_X11_moveOf_b0 (ite_ok h).2)⟩
theorem d_X11_lot_0 : decode mt_X11_lot.2.1 0 = .ok (.aload_n 0, 1) := by decide +kernel
theorem d_X11_lot_1 : decode mt_X11_lot.2.1 1 = .ok (.aload_n 0, 1) := by decide +kernel
theorem d_X11_lot_2 : decode mt_X11_lot.2.1 2 = .ok (.iload_n 1, 1) := by decide +kernel
theorem d_X11_lot_3 : decode mt_X11_lot.2.1 3 = .ok (.iload_n 2, 1) := by decide +kernel
theorem d_X11_lot_4 : decode mt_X11_lot.2.1 4 = .ok (.ifCond .eq 8, 3) := by decide +kernel
theorem d_X11_lot_7 : decode mt_X11_lot.2.1 7 = .ok (.iload_n 2, 1) := by decide +kernel
theorem d_X11_lot_8 : decode mt_X11_lot.2.1 8 = .ok (.iconst 1, 1) := by decide +kernel
theorem d_X11_lot_9 : decode mt_X11_lot.2.1 9 = .ok (.if_icmp .ne 7, 3) := by decide +kernel
theorem d_X11_lot_12 : decode mt_X11_lot.2.1 12 = .ok (.iconst 1, 1) := by decide +kernel
theorem d_X11_lot_13 : decode mt_X11_lot.2.1 13 = .ok (.goto 4, 3) := by decide +kernel
theorem d_X11_lot_16 : decode mt_X11_lot.2.1 16 = .ok (.iconst 0, 1) := by decide +kernel
theorem d_X11_lot_17 : decode mt_X11_lot.2.1 17 = .ok (.invokevirtual 331, 3) := by decide +kernel
theorem d_X11_lot_20 : decode mt_X11_lot.2.1 20 = .ok (.invokevirtual 132, 3) := by decide +kernel
theorem d_X11_lot_23 : decode mt_X11_lot.2.1 23 = .ok (.ifCond .eq 5, 3) := by decide +kernel
theorem d_X11_lot_26 : decode mt_X11_lot.2.1 26 = .ok (.iconst 0, 1) := by decide +kernel
theorem d_X11_lot_27 : decode mt_X11_lot.2.1 27 = .ok (.ireturn, 1) := by decide +kernel
theorem d_X11_lot_28 : decode mt_X11_lot.2.1 28 = .ok (.iconst 0, 1) := by decide +kernel
theorem d_X11_lot_29 : decode mt_X11_lot.2.1 29 = .ok (.istore_n 3, 1) := by decide +kernel
theorem d_X11_lot_30 : decode mt_X11_lot.2.1 30 = .ok (.iconst 0, 1) := by decide +kernel
theorem d_X11_lot_31 : decode mt_X11_lot.2.1 31 = .ok (.istore 4, 2) := by decide +kernel
theorem d_X11_lot_33 : decode mt_X11_lot.2.1 33 = .ok (.iload 4, 2) := by decide +kernel
theorem d_X11_lot_35 : decode mt_X11_lot.2.1 35 = .ok (.aload_n 0, 1) := by decide +kernel
theorem d_X11_lot_36 : decode mt_X11_lot.2.1 36 = .ok (.getfield 31, 3) := by decide +kernel
theorem d_X11_lot_39 : decode mt_X11_lot.2.1 39 = .ok (.getfield 196, 3) := by decide +kernel
theorem d_X11_lot_42 : decode mt_X11_lot.2.1 42 = .ok (.if_icmp .ge 61, 3) := by decide +kernel
theorem d_X11_lot_45 : decode mt_X11_lot.2.1 45 = .ok (.aload_n 0, 1) := by decide +kernel
theorem d_X11_lot_46 : decode mt_X11_lot.2.1 46 = .ok (.getfield 31, 3) := by decide +kernel
theorem d_X11_lot_49 : decode mt_X11_lot.2.1 49 = .ok (.iload 4, 2) := by decide +kernel
theorem d_X11_lot_51 : decode mt_X11_lot.2.1 51 = .ok (.i2l, 1) := by decide +kernel
theorem d_X11_lot_52 : decode mt_X11_lot.2.1 52 = .ok (.invokevirtual 294, 3) := by decide +kernel
theorem d_X11_lot_55 : decode mt_X11_lot.2.1 55 = .ok (.ifCond .eq 42, 3) := by decide +kernel
theorem d_X11_lot_58 : decode mt_X11_lot.2.1 58 = .ok (.iload_n 3, 1) := by decide +kernel
theorem d_X11_lot_59 : decode mt_X11_lot.2.1 59 = .ok (.iload_n 2, 1) := by decide +kernel
theorem d_X11_lot_60 : decode mt_X11_lot.2.1 60 = .ok (.ifCond .ne 25, 3) := by decide +kernel
theorem d_X11_lot_63 : decode mt_X11_lot.2.1 63 = .ok (.aload_n 0, 1) := by decide +kernel
theorem d_X11_lot_64 : decode mt_X11_lot.2.1 64 = .ok (.getfield 31, 3) := by decide +kernel
theorem d_X11_lot_67 : decode mt_X11_lot.2.1 67 = .ok (.iload_n 1, 1) := by decide +kernel
theorem d_X11_lot_68 : decode mt_X11_lot.2.1 68 = .ok (.iload 4, 2) := by decide +kernel
theorem d_X11_lot_70 : decode mt_X11_lot.2.1 70 = .ok (.iconst 0, 1) := by decide +kernel
theorem d_X11_lot_71 : decode mt_X11_lot.2.1 71 = .ok (.invokevirtual 327, 3) := by decide +kernel
theorem d_X11_lot_74 : decode mt_X11_lot.2.1 74 = .ok (.ifCond .eq 7, 3) := by decide +kernel
theorem d_X11_lot_77 : decode mt_X11_lot.2.1 77 = .ok (.iconst 1, 1) := by decide +kernel
theorem d_X11_lot_78 : decode mt_X11_lot.2.1 78 = .ok (.goto 17, 3) := by decide +kernel
theorem d_X11_lot_81 : decode mt_X11_lot.2.1 81 = .ok (.iconst 0, 1) := by decide +kernel
theorem d_X11_lot_82 : decode mt_X11_lot.2.1 82 = .ok (.goto 13, 3) := by decide +kernel
theorem d_X11_lot_85 : decode mt_X11_lot.2.1 85 = .ok (.aload_n 0, 1) := by decide +kernel
theorem d_X11_lot_86 : decode mt_X11_lot.2.1 86 = .ok (.getfield 31, 3) := by decide +kernel
theorem d_X11_lot_89 : decode mt_X11_lot.2.1 89 = .ok (.iload_n 1, 1) := by decide +kernel
theorem d_X11_lot_90 : decode mt_X11_lot.2.1 90 = .ok (.iload 4, 2) := by decide +kernel
theorem d_X11_lot_92 : decode mt_X11_lot.2.1 92 = .ok (.invokevirtual 430, 3) := by decide +kernel
theorem d_X11_lot_95 : decode mt_X11_lot.2.1 95 = .ok (.iadd, 1) := by decide +kernel
theorem d_X11_lot_96 : decode mt_X11_lot.2.1 96 = .ok (.istore_n 3, 1) := by decide +kernel
theorem d_X11_lot_97 : decode mt_X11_lot.2.1 97 = .ok (.iinc 4 1, 3) := by decide +kernel
theorem d_X11_lot_100 : decode mt_X11_lot.2.1 100 = .ok (.goto (-67), 3) := by decide +kernel
theorem d_X11_lot_103 : decode mt_X11_lot.2.1 103 = .ok (.aload_n 0, 1) := by decide +kernel
theorem d_X11_lot_104 : decode mt_X11_lot.2.1 104 = .ok (.getfield 109, 3) := by decide +kernel
theorem d_X11_lot_107 : decode mt_X11_lot.2.1 107 = .ok (.iload_n 3, 1) := by decide +kernel
theorem d_X11_lot_108 : decode mt_X11_lot.2.1 108 = .ok (.i2l, 1) := by decide +kernel
theorem d_X11_lot_109 : decode mt_X11_lot.2.1 109 = .ok (.aload_n 0, 1) := by decide +kernel
theorem d_X11_lot_110 : decode mt_X11_lot.2.1 110 = .ok (.getfield 31, 3) := by decide +kernel
theorem d_X11_lot_113 : decode mt_X11_lot.2.1 113 = .ok (.invokevirtual 214, 3) := by decide +kernel
theorem d_X11_lot_116 : decode mt_X11_lot.2.1 116 = .ok (.i2l, 1) := by decide +kernel
theorem d_X11_lot_117 : decode mt_X11_lot.2.1 117 = .ok (.invokevirtual 433, 3) := by decide +kernel
theorem d_X11_lot_120 : decode mt_X11_lot.2.1 120 = .ok (.iconst 1, 1) := by decide +kernel
theorem d_X11_lot_121 : decode mt_X11_lot.2.1 121 = .ok (.ireturn, 1) := by decide +kernel
noncomputable def f_X11_lot_b97 (k33 : (Int → Int → Int → Int → Int → Mem → Option (Int × Mem))) (v0 v1 v2 v3 v4 : Int) (σ : Mem) : Option (Int × Mem) :=
  k33 v0 v1 v2 v3 (w32 (v4 + 1)) σ
theorem L_X11_lot_b97 {sc : Nat × (Nat → Int32)} {o : Int × Mem} {k33 : (Int → Int → Int → Int → Int → Mem → Option (Int × Mem))} (hk33 : ∀ {v0 v1 v2 v3 v4 : Int} {σ : Mem}, k33 v0 v1 v2 v3 v4 σ = some o → E sc (Fm Sh (some (0, o.1)) Sh o.2) mt_X11_lot 5 Sh Sh 33 [(2, v0), (0, v1), (0, v2), (0, v3), (0, v4)] [] Sh σ) {v0 v1 v2 v3 v4 : Int} {σ : Mem} (h : f_X11_lot_b97 k33 v0 v1 v2 v3 v4 σ = some o) : E sc (Fm Sh (some (0, o.1)) Sh o.2) mt_X11_lot 5 Sh Sh 97 [(2, v0), (0, v1), (0, v2), (0, v3), (0, v4)] [] Sh σ := by
  unfold f_X11_lot_b97 at h
  refine E_iinc d_X11_lot_97 (ls' := [(2, v0), (0, v1), (0, v2), (0, v3), (0, w32 (v4 + 1))]) rfl ⟨by decide, rfl⟩ ?_
  refine E_goto (tgt := 33) d_X11_lot_100 (by decide) ?_
  exact (hk33 h)
noncomputable def f_X11_lot_b95 (k33 : (Int → Int → Int → Int → Int → Mem → Option (Int × Mem))) (v0 v1 v2 v4 s0 s1 : Int) (σ : Mem) : Option (Int × Mem) :=
  f_X11_lot_b97 k33 v0 v1 v2 (w32 (s1 + s0)) v4 σ
theorem L_X11_lot_b95 {sc : Nat × (Nat → Int32)} {o : Int × Mem} {k33 : (Int → Int → Int → Int → Int → Mem → Option (Int × Mem))} (hk33 : ∀ {v0 v1 v2 v3 v4 : Int} {σ : Mem}, k33 v0 v1 v2 v3 v4 σ = some o → E sc (Fm Sh (some (0, o.1)) Sh o.2) mt_X11_lot 5 Sh Sh 33 [(2, v0), (0, v1), (0, v2), (0, v3), (0, v4)] [] Sh σ) {v0 v1 v2 v4 s0 s1 : Int} {σ : Mem} (h : f_X11_lot_b95 k33 v0 v1 v2 v4 s0 s1 σ = some o) : E sc (Fm Sh (some (0, o.1)) Sh o.2) mt_X11_lot 5 Sh Sh 95 [(2, v0), (0, v1), (0, v2), (9, 0), (0, v4)] [(0, s0), (0, s1)] Sh σ := by
  unfold f_X11_lot_b95 at h
  refine E_iadd d_X11_lot_95 ?_
  refine E_istore_n d_X11_lot_96 (ls' := [(2, v0), (0, v1), (0, v2), (0, w32 (s1 + s0)), (0, v4)]) ⟨by decide, rfl⟩ ?_
  exact (L_X11_lot_b97 hk33 h)
noncomputable def f_X11_lot_b33 (k33 : (Int → Int → Int → Int → Int → Mem → Option (Int × Mem))) (v0 v1 v2 v3 v4 : Int) (σ : Mem) : Option (Int × Mem) :=
  (gf Sh σ 11 v0 3).bind fun x5 =>
  (gf Sh σ 9 x5 0).bind fun x6 =>
  if x6 ≤ v4 then
    (gf Sh σ 11 v0 15).bind fun x7 =>
    (gf Sh σ 11 v0 3).bind fun x8 =>
    (f_X9_stoneCount x8 σ).bind fun r9 =>
    (f_X2_tell x7 v3 r9 σ).bind fun r11 =>
    some (1, r11)
  else
    (gf Sh σ 11 v0 3).bind fun x13 =>
    (f_X9_isStone x13 v4 σ).bind fun r14 =>
    if r14 = 0 then
      f_X11_lot_b97 k33 v0 v1 v2 v3 v4 σ
    else
      if v2 = 0 then
        (gf Sh σ 11 v0 3).bind fun x16 =>
        (f_X9_condemns x16 v1 v4 0 σ).bind fun r17 =>
        if r17 = 0 then
          f_X11_lot_b95 k33 v0 v1 v2 v4 0 v3 σ
        else
          f_X11_lot_b95 k33 v0 v1 v2 v4 1 v3 σ
      else
        (gf Sh σ 11 v0 3).bind fun x19 =>
        (f_X9_turnCount x19 v1 v4 σ).bind fun r20 =>
        f_X11_lot_b95 k33 v0 v1 v2 v4 r20 v3 σ
theorem L_X11_lot_b33 {sc : Nat × (Nat → Int32)} {o : Int × Mem} {k33 : (Int → Int → Int → Int → Int → Mem → Option (Int × Mem))} (hk33 : ∀ {v0 v1 v2 v3 v4 : Int} {σ : Mem}, k33 v0 v1 v2 v3 v4 σ = some o → E sc (Fm Sh (some (0, o.1)) Sh o.2) mt_X11_lot 5 Sh Sh 33 [(2, v0), (0, v1), (0, v2), (0, v3), (0, v4)] [] Sh σ) {v0 v1 v2 v3 v4 : Int} {σ : Mem} (h : f_X11_lot_b33 k33 v0 v1 v2 v3 v4 σ = some o) : E sc (Fm Sh (some (0, o.1)) Sh o.2) mt_X11_lot 5 Sh Sh 33 [(2, v0), (0, v1), (0, v2), (0, v3), (0, v4)] [] Sh σ := by
  unfold f_X11_lot_b33 at h
  refine E_iload d_X11_lot_33 rfl ?_
  refine E_aload_n d_X11_lot_35 rfl (by decide) ?_
  refine E_get d_X11_lot_36 okX11 fl_X11_31 ⟨by decide, rfl⟩ h (fun x5 h => ?_)
  refine E_get d_X11_lot_39 okX9 fl_X11_196 ⟨by decide, rfl⟩ h (fun x6 h => ?_)
  refine E_icmp_ge (tgt := 103) d_X11_lot_42 (by decide) h (fun _ h => ?_) (fun _ h => ?_)
  · refine E_aload_n d_X11_lot_103 rfl (by decide) ?_
    refine E_get d_X11_lot_104 okX11 fl_X11_109 ⟨by decide, rfl⟩ h (fun x7 h => ?_)
    refine E_iload_n d_X11_lot_107 rfl ?_
    refine E_i2l d_X11_lot_108 ?_
    refine E_aload_n d_X11_lot_109 rfl (by decide) ?_
    refine E_get d_X11_lot_110 okX11 fl_X11_31 ⟨by decide, rfl⟩ h (fun x8 h => ?_)
    refine bd h (fun r9 q10 h => ?_)
    refine E_cV (as := []) (st := [(1, v3), (2, x7)]) (a := x8) d_X11_lot_113 mk_X9_stoneCount nl_X11_214 (by omega) ⟨rfl, rfl, Nat.le_of_ble_eq_true rfl⟩ okX9 rfl (L_X9_stoneCount q10) ?_
    refine E_i2l d_X11_lot_116 ?_
    refine bd h (fun r11 q12 h => ?_)
    refine E_cVv (as := [(1, v3), (1, r9)]) (st := []) (a := x7) d_X11_lot_117 mk_X2_tell nl_X11_433 (by omega) ⟨rfl, rfl, Nat.le_of_ble_eq_true rfl⟩ okX2 rfl (L_X2_tell q12) ?_
    refine E_iconst d_X11_lot_120 (c32 rfl) ?_
    cases h
    exact E_zret d_X11_lot_121 rfl (Or.inr rfl)
  · refine E_aload_n d_X11_lot_45 rfl (by decide) ?_
    refine E_get d_X11_lot_46 okX11 fl_X11_31 ⟨by decide, rfl⟩ h (fun x13 h => ?_)
    refine E_iload d_X11_lot_49 rfl ?_
    refine E_i2l d_X11_lot_51 ?_
    refine bd h (fun r14 q15 h => ?_)
    refine E_cV (as := [(1, v4)]) (st := []) (a := x13) d_X11_lot_52 mk_X9_isStone nl_X11_294 (by omega) ⟨rfl, rfl, Nat.le_of_ble_eq_true rfl⟩ okX9 rfl (L_X9_isStone q15) ?_
    refine E_if_eq (tgt := 97) d_X11_lot_55 (by decide) h (fun _ h => ?_) (fun _ h => ?_)
    · exact (L_X11_lot_b97 hk33 h)
    · refine E_iload_n d_X11_lot_58 rfl ?_
      refine E_iload_n d_X11_lot_59 rfl ?_
      refine E_if_ne (tgt := 85) d_X11_lot_60 (by decide) h (fun _ h => ?_) (fun _ h => ?_)
      · refine E_aload_n d_X11_lot_63 rfl (by decide) ?_
        refine E_get d_X11_lot_64 okX11 fl_X11_31 ⟨by decide, rfl⟩ h (fun x16 h => ?_)
        refine E_iload_n d_X11_lot_67 rfl ?_
        refine E_iload d_X11_lot_68 rfl ?_
        refine E_iconst d_X11_lot_70 (c32 rfl) ?_
        refine bd h (fun r17 q18 h => ?_)
        refine E_cV (as := [(0, v1), (0, v4), (0, 0)]) (st := [(0, v3)]) (a := x16) d_X11_lot_71 mk_X9_condemns nl_X11_327 (by omega) ⟨rfl, rfl, Nat.le_of_ble_eq_true rfl⟩ okX9 rfl (L_X9_condemns q18) ?_
        refine E_if_eq (tgt := 81) d_X11_lot_74 (by decide) h (fun _ h => ?_) (fun _ h => ?_)
        · refine E_iconst d_X11_lot_81 (c32 rfl) ?_
          refine E_goto (tgt := 95) d_X11_lot_82 (by decide) ?_
          exact E_weak (ls' := [(2, v0), (0, v1), (0, v2), (9, 0), (0, v4)]) ⟨Or.inr rfl, Or.inr rfl, Or.inr rfl, Or.inl rfl, Or.inr rfl, trivial⟩ (L_X11_lot_b95 hk33 h)
        · refine E_iconst d_X11_lot_77 (c32 rfl) ?_
          refine E_goto (tgt := 95) d_X11_lot_78 (by decide) ?_
          exact E_weak (ls' := [(2, v0), (0, v1), (0, v2), (9, 0), (0, v4)]) ⟨Or.inr rfl, Or.inr rfl, Or.inr rfl, Or.inl rfl, Or.inr rfl, trivial⟩ (L_X11_lot_b95 hk33 h)
      · refine E_aload_n d_X11_lot_85 rfl (by decide) ?_
        refine E_get d_X11_lot_86 okX11 fl_X11_31 ⟨by decide, rfl⟩ h (fun x19 h => ?_)
        refine E_iload_n d_X11_lot_89 rfl ?_
        refine E_iload d_X11_lot_90 rfl ?_
        refine bd h (fun r20 q21 h => ?_)
        refine E_cV (as := [(0, v1), (0, v4)]) (st := [(0, v3)]) (a := x19) d_X11_lot_92 mk_X9_turnCount nl_X11_430 (by omega) ⟨rfl, rfl, Nat.le_of_ble_eq_true rfl⟩ okX9 rfl (L_X9_turnCount q21) ?_
        exact E_weak (ls' := [(2, v0), (0, v1), (0, v2), (9, 0), (0, v4)]) ⟨Or.inr rfl, Or.inr rfl, Or.inr rfl, Or.inl rfl, Or.inr rfl, trivial⟩ (L_X11_lot_b95 hk33 h)
noncomputable def f_X11_lot_h33 (n : Nat) : Int → Int → Int → Int → Int → Mem → Option (Int × Mem) := Nat.rec (motive := fun _ => Int → Int → Int → Int → Int → Mem → Option (Int × Mem)) (fun _ _ _ _ _ _ => none) (fun _ ih => f_X11_lot_b33 (ih)) n
theorem L_X11_lot_h33 {sc : Nat × (Nat → Int32)} {o : Int × Mem} : ∀ (n : Nat) {v0 v1 v2 v3 v4 : Int} {σ : Mem}, f_X11_lot_h33 n v0 v1 v2 v3 v4 σ = some o → E sc (Fm Sh (some (0, o.1)) Sh o.2) mt_X11_lot 5 Sh Sh 33 [(2, v0), (0, v1), (0, v2), (0, v3), (0, v4)] [] Sh σ := by
  intro n
  induction n with
  | zero => intro v0 v1 v2 v3 v4 σ h; cases h
  | succ n ih => intro v0 v1 v2 v3 v4 σ h; exact L_X11_lot_b33 (@ih) h
noncomputable def f_X11_lot_b17 (v0 v1 v2 s0 s1 s2 s3 : Int) (σ : Mem) : Option (Int × Mem) :=
  (f_X11_guiltOfStonesWhy s2 s1 s0 σ).bind fun r1 =>
  (f_X11_refused s3 r1 σ).bind fun r3 =>
  if r3.1 = 0 then
    f_X11_lot_h33 FU v0 v1 v2 0 0 r3.2
  else
    some (0, r3.2)
theorem L_X11_lot_b17 {sc : Nat × (Nat → Int32)} {o : Int × Mem} {v0 v1 v2 s0 s1 s2 s3 : Int} {σ : Mem} (h : f_X11_lot_b17 v0 v1 v2 s0 s1 s2 s3 σ = some o) : E sc (Fm Sh (some (0, o.1)) Sh o.2) mt_X11_lot 5 Sh Sh 17 [(2, v0), (0, v1), (0, v2), (9, 0), (9, 0)] [(0, s0), (0, s1), (2, s2), (2, s3)] Sh σ := by
  unfold f_X11_lot_b17 at h
  refine bd h (fun r1 q2 h => ?_)
  refine E_cV (as := [(0, s1), (0, s0)]) (st := [(2, s3)]) (a := s2) d_X11_lot_17 mk_X11_guiltOfStonesWhy nl_X11_331 (by omega) ⟨rfl, rfl, Nat.le_of_ble_eq_true rfl⟩ okX11 rfl (L_X11_guiltOfStonesWhy q2) ?_
  refine bd h (fun r3 q4 h => ?_)
  refine E_cV (as := [(0, r1)]) (st := []) (a := s3) d_X11_lot_20 mk_X11_refused nl_X11_132 (by omega) ⟨rfl, rfl, Nat.le_of_ble_eq_true rfl⟩ okX11 rfl (L_X11_refused q4) ?_
  refine E_if_eq (tgt := 28) d_X11_lot_23 (by decide) h (fun _ h => ?_) (fun _ h => ?_)
  · refine E_iconst d_X11_lot_28 (c32 rfl) ?_
    refine E_istore_n d_X11_lot_29 (ls' := [(2, v0), (0, v1), (0, v2), (0, 0), (9, 0)]) ⟨by decide, rfl⟩ ?_
    refine E_iconst d_X11_lot_30 (c32 rfl) ?_
    refine E_istore d_X11_lot_31 (ls' := [(2, v0), (0, v1), (0, v2), (0, 0), (0, 0)]) ⟨by decide, rfl⟩ ?_
    exact (L_X11_lot_h33 FU h)
  · refine E_iconst d_X11_lot_26 (c32 rfl) ?_
    cases h
    exact E_zret d_X11_lot_27 rfl (Or.inl rfl)
noncomputable def f_X11_lot_b12 (v0 v1 v2 s0 s1 s2 : Int) (σ : Mem) : Option (Int × Mem) :=
  f_X11_lot_b17 v0 v1 v2 1 s0 s1 s2 σ
theorem L_X11_lot_b12 {sc : Nat × (Nat → Int32)} {o : Int × Mem} {v0 v1 v2 s0 s1 s2 : Int} {σ : Mem} (h : f_X11_lot_b12 v0 v1 v2 s0 s1 s2 σ = some o) : E sc (Fm Sh (some (0, o.1)) Sh o.2) mt_X11_lot 5 Sh Sh 12 [(2, v0), (0, v1), (0, v2), (9, 0), (9, 0)] [(0, s0), (2, s1), (2, s2)] Sh σ := by
  unfold f_X11_lot_b12 at h
  refine E_iconst d_X11_lot_12 (c32 rfl) ?_
  refine E_goto (tgt := 17) d_X11_lot_13 (by decide) ?_
  exact (L_X11_lot_b17 h)
noncomputable def f_X11_lot_b0 (v0 v1 v2 : Int) (σ : Mem) : Option (Int × Mem) :=
  if v2 = 0 then
    f_X11_lot_b12 v0 v1 v2 v1 v0 v0 σ
  else
    if v2 = 1 then
      f_X11_lot_b12 v0 v1 v2 v1 v0 v0 σ
    else
      f_X11_lot_b17 v0 v1 v2 0 v1 v0 v0 σ
theorem L_X11_lot_b0 {sc : Nat × (Nat → Int32)} {o : Int × Mem} {v0 v1 v2 : Int} {σ : Mem} (h : f_X11_lot_b0 v0 v1 v2 σ = some o) : E sc (Fm Sh (some (0, o.1)) Sh o.2) mt_X11_lot 5 Sh Sh 0 [(2, v0), (0, v1), (0, v2), (9, 0), (9, 0)] [] Sh σ := by
  unfold f_X11_lot_b0 at h
  refine E_aload_n d_X11_lot_0 rfl (by decide) ?_
  refine E_aload_n d_X11_lot_1 rfl (by decide) ?_
  refine E_iload_n d_X11_lot_2 rfl ?_
  refine E_iload_n d_X11_lot_3 rfl ?_
  refine E_if_eq (tgt := 12) d_X11_lot_4 (by decide) h (fun _ h => ?_) (fun _ h => ?_)
  · exact (L_X11_lot_b12 h)
  · refine E_iload_n d_X11_lot_7 rfl ?_
    refine E_iconst d_X11_lot_8 (c32 rfl) ?_
    refine E_icmp_ne (tgt := 16) d_X11_lot_9 (by decide) h (fun _ h => ?_) (fun _ h => ?_)
    · exact (L_X11_lot_b12 h)
    · refine E_iconst d_X11_lot_16 (c32 rfl) ?_
      exact (L_X11_lot_b17 h)
noncomputable def f_X11_lot (v0 v1 v2 : Int) (σ : Mem) : Option (Int × Mem) := if isO Sh 11 v0 = true then f_X11_lot_b0 v0 v1 v2 σ else none
theorem L_X11_lot {o : Int × Mem} {v0 v1 v2 : Int} {σ : Mem} (h : f_X11_lot v0 v1 v2 σ = some o) : (isO Sh 11 v0 = true ∧ Cn mt_X11_lot 5 [(2, v0), (0, v1), (0, v2)] Sh σ (some (0, o.1)) Sh o.2) := ⟨(ite_ok h).1, Cn_of mk_X11_lot.1.2.2.1 (Nat.le_of_ble_eq_true rfl) (fun sc => L_X11_lot_b0 (ite_ok h).2)⟩
theorem d_X11_couples_0 : decode mt_X11_couples.2.1 0 = .ok (.aload_n 0, 1) := by decide +kernel
theorem d_X11_couples_1 : decode mt_X11_couples.2.1 1 = .ok (.iload_n 1, 1) := by decide +kernel
theorem d_X11_couples_2 : decode mt_X11_couples.2.1 2 = .ok (.ifCond .lt 9, 3) := by decide +kernel
theorem d_X11_couples_5 : decode mt_X11_couples.2.1 5 = .ok (.iload_n 1, 1) := by decide +kernel
theorem d_X11_couples_6 : decode mt_X11_couples.2.1 6 = .ok (.bipush 10, 2) := by decide +kernel
theorem d_X11_couples_8 : decode mt_X11_couples.2.1 8 = .ok (.if_icmp .le 7, 3) := by decide +kernel
theorem d_X11_couples_11 : decode mt_X11_couples.2.1 11 = .ok (.iconst 5, 1) := by decide +kernel
theorem d_X11_couples_12 : decode mt_X11_couples.2.1 12 = .ok (.goto 4, 3) := by decide +kernel
theorem d_X11_couples_15 : decode mt_X11_couples.2.1 15 = .ok (.iconst 0, 1) := by decide +kernel
theorem d_X11_couples_16 : decode mt_X11_couples.2.1 16 = .ok (.invokevirtual 132, 3) := by decide +kernel
theorem d_X11_couples_19 : decode mt_X11_couples.2.1 19 = .ok (.ifCond .eq 5, 3) := by decide +kernel
theorem d_X11_couples_22 : decode mt_X11_couples.2.1 22 = .ok (.iconst 0, 1) := by decide +kernel
theorem d_X11_couples_23 : decode mt_X11_couples.2.1 23 = .ok (.ireturn, 1) := by decide +kernel
theorem d_X11_couples_24 : decode mt_X11_couples.2.1 24 = .ok (.aload_n 0, 1) := by decide +kernel
theorem d_X11_couples_25 : decode mt_X11_couples.2.1 25 = .ok (.getfield 109, 3) := by decide +kernel
theorem d_X11_couples_28 : decode mt_X11_couples.2.1 28 = .ok (.iload_n 1, 1) := by decide +kernel
theorem d_X11_couples_29 : decode mt_X11_couples.2.1 29 = .ok (.aload_n 0, 1) := by decide +kernel
theorem d_X11_couples_30 : decode mt_X11_couples.2.1 30 = .ok (.getfield 31, 3) := by decide +kernel
theorem d_X11_couples_33 : decode mt_X11_couples.2.1 33 = .ok (.invokevirtual 214, 3) := by decide +kernel
theorem d_X11_couples_36 : decode mt_X11_couples.2.1 36 = .ok (.aload_n 0, 1) := by decide +kernel
theorem d_X11_couples_37 : decode mt_X11_couples.2.1 37 = .ok (.getfield 31, 3) := by decide +kernel
theorem d_X11_couples_40 : decode mt_X11_couples.2.1 40 = .ok (.getfield 221, 3) := by decide +kernel
theorem d_X11_couples_43 : decode mt_X11_couples.2.1 43 = .ok (.invokevirtual 436, 3) := by decide +kernel
theorem d_X11_couples_46 : decode mt_X11_couples.2.1 46 = .ok (.iconst 1, 1) := by decide +kernel
theorem d_X11_couples_47 : decode mt_X11_couples.2.1 47 = .ok (.ireturn, 1) := by decide +kernel
noncomputable def f_X11_couples_b16 (v0 v1 s0 s1 : Int) (σ : Mem) : Option (Int × Mem) :=
  (f_X11_refused s1 s0 σ).bind fun r1 =>
  if r1.1 = 0 then
    (gf Sh r1.2 11 v0 15).bind fun x3 =>
    (gf Sh r1.2 11 v0 3).bind fun x4 =>
    (f_X9_stoneCount x4 r1.2).bind fun r5 =>
    (gf Sh r1.2 11 v0 3).bind fun x7 =>
    (gf Sh r1.2 9 x7 11).bind fun x8 =>
    (f_X2_tellAtLeast x3 v1 r5 x8 r1.2).bind fun r9 =>
    some (1, r9)
  else
    some (0, r1.2)
theorem L_X11_couples_b16 {sc : Nat × (Nat → Int32)} {o : Int × Mem} {v0 v1 s0 s1 : Int} {σ : Mem} (h : f_X11_couples_b16 v0 v1 s0 s1 σ = some o) : E sc (Fm Sh (some (0, o.1)) Sh o.2) mt_X11_couples 4 Sh Sh 16 [(2, v0), (0, v1)] [(0, s0), (2, s1)] Sh σ := by
  unfold f_X11_couples_b16 at h
  refine bd h (fun r1 q2 h => ?_)
  refine E_cV (as := [(0, s0)]) (st := []) (a := s1) d_X11_couples_16 mk_X11_refused nl_X11_132 (by omega) ⟨rfl, rfl, Nat.le_of_ble_eq_true rfl⟩ okX11 rfl (L_X11_refused q2) ?_
  refine E_if_eq (tgt := 24) d_X11_couples_19 (by decide) h (fun _ h => ?_) (fun _ h => ?_)
  · refine E_aload_n d_X11_couples_24 rfl (by decide) ?_
    refine E_get d_X11_couples_25 okX11 fl_X11_109 ⟨by decide, rfl⟩ h (fun x3 h => ?_)
    refine E_iload_n d_X11_couples_28 rfl ?_
    refine E_aload_n d_X11_couples_29 rfl (by decide) ?_
    refine E_get d_X11_couples_30 okX11 fl_X11_31 ⟨by decide, rfl⟩ h (fun x4 h => ?_)
    refine bd h (fun r5 q6 h => ?_)
    refine E_cV (as := []) (st := [(0, v1), (2, x3)]) (a := x4) d_X11_couples_33 mk_X9_stoneCount nl_X11_214 (by omega) ⟨rfl, rfl, Nat.le_of_ble_eq_true rfl⟩ okX9 rfl (L_X9_stoneCount q6) ?_
    refine E_aload_n d_X11_couples_36 rfl (by decide) ?_
    refine E_get d_X11_couples_37 okX11 fl_X11_31 ⟨by decide, rfl⟩ h (fun x7 h => ?_)
    refine E_get d_X11_couples_40 okX9 fl_X11_221 ⟨by decide, rfl⟩ h (fun x8 h => ?_)
    refine bd h (fun r9 q10 h => ?_)
    refine E_cVv (as := [(0, v1), (0, r5), (0, x8)]) (st := []) (a := x3) d_X11_couples_43 mk_X2_tellAtLeast nl_X11_436 (by omega) ⟨rfl, rfl, Nat.le_of_ble_eq_true rfl⟩ okX2 rfl (L_X2_tellAtLeast q10) ?_
    refine E_iconst d_X11_couples_46 (c32 rfl) ?_
    cases h
    exact E_zret d_X11_couples_47 rfl (Or.inr rfl)
  · refine E_iconst d_X11_couples_22 (c32 rfl) ?_
    cases h
    exact E_zret d_X11_couples_23 rfl (Or.inl rfl)
noncomputable def f_X11_couples_b11 (v0 v1 s0 : Int) (σ : Mem) : Option (Int × Mem) :=
  f_X11_couples_b16 v0 v1 5 s0 σ
theorem L_X11_couples_b11 {sc : Nat × (Nat → Int32)} {o : Int × Mem} {v0 v1 s0 : Int} {σ : Mem} (h : f_X11_couples_b11 v0 v1 s0 σ = some o) : E sc (Fm Sh (some (0, o.1)) Sh o.2) mt_X11_couples 4 Sh Sh 11 [(2, v0), (0, v1)] [(2, s0)] Sh σ := by
  unfold f_X11_couples_b11 at h
  refine E_iconst d_X11_couples_11 (c32 rfl) ?_
  refine E_goto (tgt := 16) d_X11_couples_12 (by decide) ?_
  exact (L_X11_couples_b16 h)
noncomputable def f_X11_couples_b0 (v0 v1 : Int) (σ : Mem) : Option (Int × Mem) :=
  if v1 < 0 then
    f_X11_couples_b11 v0 v1 v0 σ
  else
    if v1 ≤ 10 then
      f_X11_couples_b16 v0 v1 0 v0 σ
    else
      f_X11_couples_b11 v0 v1 v0 σ
theorem L_X11_couples_b0 {sc : Nat × (Nat → Int32)} {o : Int × Mem} {v0 v1 : Int} {σ : Mem} (h : f_X11_couples_b0 v0 v1 σ = some o) : E sc (Fm Sh (some (0, o.1)) Sh o.2) mt_X11_couples 4 Sh Sh 0 [(2, v0), (0, v1)] [] Sh σ := by
  unfold f_X11_couples_b0 at h
  refine E_aload_n d_X11_couples_0 rfl (by decide) ?_
  refine E_iload_n d_X11_couples_1 rfl ?_
  refine E_if_lt (tgt := 11) d_X11_couples_2 (by decide) h (fun _ h => ?_) (fun _ h => ?_)
  · exact (L_X11_couples_b11 h)
  · refine E_iload_n d_X11_couples_5 rfl ?_
    refine E_bipush d_X11_couples_6 (c8 rfl) ?_
    refine E_icmp_le (tgt := 15) d_X11_couples_8 (by decide) h (fun _ h => ?_) (fun _ h => ?_)
    · refine E_iconst d_X11_couples_15 (c32 rfl) ?_
      exact (L_X11_couples_b16 h)
    · exact (L_X11_couples_b11 h)
noncomputable def f_X11_couples (v0 v1 : Int) (σ : Mem) : Option (Int × Mem) := if isO Sh 11 v0 = true then f_X11_couples_b0 v0 v1 σ else none
theorem L_X11_couples {o : Int × Mem} {v0 v1 : Int} {σ : Mem} (h : f_X11_couples v0 v1 σ = some o) : (isO Sh 11 v0 = true ∧ Cn mt_X11_couples 4 [(2, v0), (0, v1)] Sh σ (some (0, o.1)) Sh o.2) := ⟨(ite_ok h).1, Cn_of mk_X11_couples.1.2.2.1 (Nat.le_of_ble_eq_true rfl) (fun sc => L_X11_couples_b0 (ite_ok h).2)⟩
