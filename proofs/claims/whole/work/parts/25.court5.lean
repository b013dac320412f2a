theorem d_X11_status_0 : decode mt_X11_status.2.1 0 = .ok (.aload_n 0, 1) := by decide +kernel
theorem d_X11_status_1 : decode mt_X11_status.2.1 1 = .ok (.getfield 114, 3) := by decide +kernel
theorem d_X11_status_4 : decode mt_X11_status.2.1 4 = .ok (.ireturn, 1) := by decide +kernel
noncomputable def f_X11_status_b0 (v0 : Int) (σ : Mem) : Option (Int) :=
  (gf Sh σ 11 v0 19).bind fun x1 =>
  some (x1)
theorem L_X11_status_b0 {sc : Nat × (Nat → Int32)} {o : Int} {σ : Mem} {v0 : Int} (h : f_X11_status_b0 v0 σ = some o) : E sc (Fm Sh (some (0, o)) Sh σ) mt_X11_status 1 Sh Sh 0 [(2, v0)] [] Sh σ := by
  unfold f_X11_status_b0 at h
  refine E_aload_n d_X11_status_0 rfl (by decide) ?_
  refine E_get d_X11_status_1 okX11 fl_X11_114 ⟨by decide, rfl⟩ h (fun x1 h => ?_)
  cases h
  exact E_iret d_X11_status_4 rfl
noncomputable def f_X11_status (v0 : Int) (σ : Mem) : Option (Int) := if isO Sh 11 v0 = true then f_X11_status_b0 v0 σ else none
theorem L_X11_status {o : Int} {v0 : Int} {σ : Mem} (h : f_X11_status v0 σ = some o) : (isO Sh 11 v0 = true ∧ Cn mt_X11_status 1 [(2, v0)] Sh σ (some (0, o)) Sh σ) := ⟨(ite_ok h).1, Cn_of mk_X11_status.1.2.2.1 (Nat.le_of_ble_eq_true rfl) (fun sc => L_X11_status_b0 (ite_ok h).2)⟩
theorem d_X11_top_0 : decode mt_X11_top.2.1 0 = .ok (.aload_n 0, 1) := by decide +kernel
theorem d_X11_top_1 : decode mt_X11_top.2.1 1 = .ok (.getfield 109, 3) := by decide +kernel
theorem d_X11_top_4 : decode mt_X11_top.2.1 4 = .ok (.getfield 118, 3) := by decide +kernel
theorem d_X11_top_7 : decode mt_X11_top.2.1 7 = .ok (.lreturn, 1) := by decide +kernel
noncomputable def f_X11_top_b0 (v0 : Int) (σ : Mem) : Option (Int) :=
  (gf Sh σ 11 v0 15).bind fun x1 =>
  (gf Sh σ 2 x1 0).bind fun x2 =>
  some (x2)
theorem L_X11_top_b0 {sc : Nat × (Nat → Int32)} {o : Int} {σ : Mem} {v0 : Int} (h : f_X11_top_b0 v0 σ = some o) : E sc (Fm Sh (some (1, o)) Sh σ) mt_X11_top 1 Sh Sh 0 [(2, v0)] [] Sh σ := by
  unfold f_X11_top_b0 at h
  refine E_aload_n d_X11_top_0 rfl (by decide) ?_
  refine E_get d_X11_top_1 okX11 fl_X11_109 ⟨by decide, rfl⟩ h (fun x1 h => ?_)
  refine E_get d_X11_top_4 okX2 fl_X11_118 ⟨by decide, rfl⟩ h (fun x2 h => ?_)
  cases h
  exact E_lret d_X11_top_7 rfl
noncomputable def f_X11_top (v0 : Int) (σ : Mem) : Option (Int) := if isO Sh 11 v0 = true then f_X11_top_b0 v0 σ else none
theorem L_X11_top {o : Int} {v0 : Int} {σ : Mem} (h : f_X11_top v0 σ = some o) : (isO Sh 11 v0 = true ∧ Cn mt_X11_top 1 [(2, v0)] Sh σ (some (1, o)) Sh σ) := ⟨(ite_ok h).1, Cn_of mk_X11_top.1.2.2.1 (Nat.le_of_ble_eq_true rfl) (fun sc => L_X11_top_b0 (ite_ok h).2)⟩
theorem d_X11_bottom_0 : decode mt_X11_bottom.2.1 0 = .ok (.aload_n 0, 1) := by decide +kernel
theorem d_X11_bottom_1 : decode mt_X11_bottom.2.1 1 = .ok (.getfield 109, 3) := by decide +kernel
theorem d_X11_bottom_4 : decode mt_X11_bottom.2.1 4 = .ok (.getfield 122, 3) := by decide +kernel
theorem d_X11_bottom_7 : decode mt_X11_bottom.2.1 7 = .ok (.lreturn, 1) := by decide +kernel
noncomputable def f_X11_bottom_b0 (v0 : Int) (σ : Mem) : Option (Int) :=
  (gf Sh σ 11 v0 15).bind fun x1 =>
  (gf Sh σ 2 x1 1).bind fun x2 =>
  some (x2)
theorem L_X11_bottom_b0 {sc : Nat × (Nat → Int32)} {o : Int} {σ : Mem} {v0 : Int} (h : f_X11_bottom_b0 v0 σ = some o) : E sc (Fm Sh (some (1, o)) Sh σ) mt_X11_bottom 1 Sh Sh 0 [(2, v0)] [] Sh σ := by
  unfold f_X11_bottom_b0 at h
  refine E_aload_n d_X11_bottom_0 rfl (by decide) ?_
  refine E_get d_X11_bottom_1 okX11 fl_X11_109 ⟨by decide, rfl⟩ h (fun x1 h => ?_)
  refine E_get d_X11_bottom_4 okX2 fl_X11_122 ⟨by decide, rfl⟩ h (fun x2 h => ?_)
  cases h
  exact E_lret d_X11_bottom_7 rfl
noncomputable def f_X11_bottom (v0 : Int) (σ : Mem) : Option (Int) := if isO Sh 11 v0 = true then f_X11_bottom_b0 v0 σ else none
theorem L_X11_bottom {o : Int} {v0 : Int} {σ : Mem} (h : f_X11_bottom v0 σ = some o) : (isO Sh 11 v0 = true ∧ Cn mt_X11_bottom 1 [(2, v0)] Sh σ (some (1, o)) Sh σ) := ⟨(ite_ok h).1, Cn_of mk_X11_bottom.1.2.2.1 (Nat.le_of_ble_eq_true rfl) (fun sc => L_X11_bottom_b0 (ite_ok h).2)⟩
theorem d_X11_isTray_0 : decode mt_X11_isTray.2.1 0 = .ok (.iload_n 0, 1) := by decide +kernel
theorem d_X11_isTray_1 : decode mt_X11_isTray.2.1 1 = .ok (.ifCond .lt 12, 3) := by decide +kernel
theorem d_X11_isTray_4 : decode mt_X11_isTray.2.1 4 = .ok (.iload_n 0, 1) := by decide +kernel
theorem d_X11_isTray_5 : decode mt_X11_isTray.2.1 5 = .ok (.iconst 4, 1) := by decide +kernel
theorem d_X11_isTray_6 : decode mt_X11_isTray.2.1 6 = .ok (.if_icmp .ge 7, 3) := by decide +kernel
theorem d_X11_isTray_9 : decode mt_X11_isTray.2.1 9 = .ok (.iconst 1, 1) := by decide +kernel
theorem d_X11_isTray_10 : decode mt_X11_isTray.2.1 10 = .ok (.goto 4, 3) := by decide +kernel
theorem d_X11_isTray_13 : decode mt_X11_isTray.2.1 13 = .ok (.iconst 0, 1) := by decide +kernel
theorem d_X11_isTray_14 : decode mt_X11_isTray.2.1 14 = .ok (.ireturn, 1) := by decide +kernel
noncomputable def f_X11_isTray_b0 (v0 : Int) (σ : Mem) : Option (Int) :=
  if v0 < 0 then
    some (0)
  else
    if 4 ≤ v0 then
      some (0)
    else
      some (1)
theorem L_X11_isTray_b0 {sc : Nat × (Nat → Int32)} {o : Int} {σ : Mem} {v0 : Int} (h : f_X11_isTray_b0 v0 σ = some o) : E sc (Fm Sh (some (0, o)) Sh σ) mt_X11_isTray 1 Sh Sh 0 [(0, v0)] [] Sh σ := by
  unfold f_X11_isTray_b0 at h
  refine E_iload_n d_X11_isTray_0 rfl ?_
  refine E_if_lt (tgt := 13) d_X11_isTray_1 (by decide) h (fun _ h => ?_) (fun _ h => ?_)
  · refine E_iconst d_X11_isTray_13 (c32 rfl) ?_
    cases h
    exact E_zret d_X11_isTray_14 rfl (Or.inl rfl)
  · refine E_iload_n d_X11_isTray_4 rfl ?_
    refine E_iconst d_X11_isTray_5 (c32 rfl) ?_
    refine E_icmp_ge (tgt := 13) d_X11_isTray_6 (by decide) h (fun _ h => ?_) (fun _ h => ?_)
    · refine E_iconst d_X11_isTray_13 (c32 rfl) ?_
      cases h
      exact E_zret d_X11_isTray_14 rfl (Or.inl rfl)
    · refine E_iconst d_X11_isTray_9 (c32 rfl) ?_
      refine E_goto (tgt := 14) d_X11_isTray_10 (by decide) ?_
      cases h
      exact E_zret d_X11_isTray_14 rfl (Or.inr rfl)
noncomputable def f_X11_isTray (v0 : Int) (σ : Mem) : Option (Int) := f_X11_isTray_b0 v0 σ
theorem L_X11_isTray {o : Int} {v0 : Int} {σ : Mem} (h : f_X11_isTray v0 σ = some o) : Cn mt_X11_isTray 1 [(0, v0)] Sh σ (some (0, o)) Sh σ := Cn_of mk_X11_isTray.1.2.2.1 (Nat.le_of_ble_eq_true rfl) (fun sc => L_X11_isTray_b0 h)
theorem d_X11_refused_0 : decode mt_X11_refused.2.1 0 = .ok (.aload_n 0, 1) := by decide +kernel
theorem d_X11_refused_1 : decode mt_X11_refused.2.1 1 = .ok (.iload_n 1, 1) := by decide +kernel
theorem d_X11_refused_2 : decode mt_X11_refused.2.1 2 = .ok (.putfield 114, 3) := by decide +kernel
theorem d_X11_refused_5 : decode mt_X11_refused.2.1 5 = .ok (.iload_n 1, 1) := by decide +kernel
theorem d_X11_refused_6 : decode mt_X11_refused.2.1 6 = .ok (.ifCond .eq 7, 3) := by decide +kernel
theorem d_X11_refused_9 : decode mt_X11_refused.2.1 9 = .ok (.iconst 1, 1) := by decide +kernel
theorem d_X11_refused_10 : decode mt_X11_refused.2.1 10 = .ok (.goto 4, 3) := by decide +kernel
theorem d_X11_refused_13 : decode mt_X11_refused.2.1 13 = .ok (.iconst 0, 1) := by decide +kernel
theorem d_X11_refused_14 : decode mt_X11_refused.2.1 14 = .ok (.ireturn, 1) := by decide +kernel
noncomputable def f_X11_refused_b0 (v0 v1 : Int) (σ : Mem) : Option (Int × Mem) :=
  (pf Sh σ 11 v0 19 v1).bind fun σ1 =>
  if v1 = 0 then
    some (0, σ1)
  else
    some (1, σ1)
theorem L_X11_refused_b0 {sc : Nat × (Nat → Int32)} {o : Int × Mem} {v0 v1 : Int} {σ : Mem} (h : f_X11_refused_b0 v0 v1 σ = some o) : E sc (Fm Sh (some (0, o.1)) Sh o.2) mt_X11_refused 1 Sh Sh 0 [(2, v0), (0, v1)] [] Sh σ := by
  unfold f_X11_refused_b0 at h
  refine E_aload_n d_X11_refused_0 rfl (by decide) ?_
  refine E_iload_n d_X11_refused_1 rfl ?_
  refine E_put d_X11_refused_2 okX11 fl_X11_114 ⟨by decide, rfl⟩ (Or.inl ⟨rfl, rfl⟩) (Or.inl rfl) h (fun σ1 h => ?_)
  refine E_iload_n d_X11_refused_5 rfl ?_
  refine E_if_eq (tgt := 13) d_X11_refused_6 (by decide) h (fun _ h => ?_) (fun _ h => ?_)
  · refine E_iconst d_X11_refused_13 (c32 rfl) ?_
    cases h
    exact E_zret d_X11_refused_14 rfl (Or.inl rfl)
  · refine E_iconst d_X11_refused_9 (c32 rfl) ?_
    refine E_goto (tgt := 14) d_X11_refused_10 (by decide) ?_
    cases h
    exact E_zret d_X11_refused_14 rfl (Or.inr rfl)
noncomputable def f_X11_refused (v0 v1 : Int) (σ : Mem) : Option (Int × Mem) := if isO Sh 11 v0 = true then f_X11_refused_b0 v0 v1 σ else none
theorem L_X11_refused {o : Int × Mem} {v0 v1 : Int} {σ : Mem} (h : f_X11_refused v0 v1 σ = some o) : (isO Sh 11 v0 = true ∧ Cn mt_X11_refused 1 [(2, v0), (0, v1)] Sh σ (some (0, o.1)) Sh o.2) := ⟨(ite_ok h).1, Cn_of mk_X11_refused.1.2.2.1 (Nat.le_of_ble_eq_true rfl) (fun sc => L_X11_refused_b0 (ite_ok h).2)⟩
theorem d_X11_tray_0 : decode mt_X11_tray.2.1 0 = .ok (.iconst 0, 1) := by decide +kernel
theorem d_X11_tray_1 : decode mt_X11_tray.2.1 1 = .ok (.istore 4, 2) := by decide +kernel
theorem d_X11_tray_3 : decode mt_X11_tray.2.1 3 = .ok (.iload_n 1, 1) := by decide +kernel
theorem d_X11_tray_4 : decode mt_X11_tray.2.1 4 = .ok (.invokestatic 125, 3) := by decide +kernel
theorem d_X11_tray_7 : decode mt_X11_tray.2.1 7 = .ok (.ifCond .eq 10, 3) := by decide +kernel
theorem d_X11_tray_10 : decode mt_X11_tray.2.1 10 = .ok (.iload_n 2, 1) := by decide +kernel
theorem d_X11_tray_11 : decode mt_X11_tray.2.1 11 = .ok (.invokestatic 129, 3) := by decide +kernel
theorem d_X11_tray_14 : decode mt_X11_tray.2.1 14 = .ok (.ifCond .ne 9, 3) := by decide +kernel
theorem d_X11_tray_17 : decode mt_X11_tray.2.1 17 = .ok (.iconst 1, 1) := by decide +kernel
theorem d_X11_tray_18 : decode mt_X11_tray.2.1 18 = .ok (.istore 4, 2) := by decide +kernel
theorem d_X11_tray_20 : decode mt_X11_tray.2.1 20 = .ok (.goto 23, 3) := by decide +kernel
theorem d_X11_tray_23 : decode mt_X11_tray.2.1 23 = .ok (.iload_n 3, 1) := by decide +kernel
theorem d_X11_tray_24 : decode mt_X11_tray.2.1 24 = .ok (.bipush 60, 2) := by decide +kernel
theorem d_X11_tray_26 : decode mt_X11_tray.2.1 26 = .ok (.if_icmp .le 9, 3) := by decide +kernel
theorem d_X11_tray_29 : decode mt_X11_tray.2.1 29 = .ok (.iconst 5, 1) := by decide +kernel
theorem d_X11_tray_30 : decode mt_X11_tray.2.1 30 = .ok (.istore 4, 2) := by decide +kernel
theorem d_X11_tray_32 : decode mt_X11_tray.2.1 32 = .ok (.goto 11, 3) := by decide +kernel
theorem d_X11_tray_35 : decode mt_X11_tray.2.1 35 = .ok (.iload_n 3, 1) := by decide +kernel
theorem d_X11_tray_36 : decode mt_X11_tray.2.1 36 = .ok (.ifCond .ge 7, 3) := by decide +kernel
theorem d_X11_tray_39 : decode mt_X11_tray.2.1 39 = .ok (.bipush 6, 2) := by decide +kernel
theorem d_X11_tray_41 : decode mt_X11_tray.2.1 41 = .ok (.istore 4, 2) := by decide +kernel
theorem d_X11_tray_43 : decode mt_X11_tray.2.1 43 = .ok (.aload_n 0, 1) := by decide +kernel
theorem d_X11_tray_44 : decode mt_X11_tray.2.1 44 = .ok (.iload 4, 2) := by decide +kernel
theorem d_X11_tray_46 : decode mt_X11_tray.2.1 46 = .ok (.invokevirtual 132, 3) := by decide +kernel
theorem d_X11_tray_49 : decode mt_X11_tray.2.1 49 = .ok (.ifCond .eq 5, 3) := by decide +kernel
theorem d_X11_tray_52 : decode mt_X11_tray.2.1 52 = .ok (.iconst 0, 1) := by decide +kernel
theorem d_X11_tray_53 : decode mt_X11_tray.2.1 53 = .ok (.ireturn, 1) := by decide +kernel
theorem d_X11_tray_54 : decode mt_X11_tray.2.1 54 = .ok (.aload_n 0, 1) := by decide +kernel
theorem d_X11_tray_55 : decode mt_X11_tray.2.1 55 = .ok (.getfield 11, 3) := by decide +kernel
theorem d_X11_tray_58 : decode mt_X11_tray.2.1 58 = .ok (.iload_n 1, 1) := by decide +kernel
theorem d_X11_tray_59 : decode mt_X11_tray.2.1 59 = .ok (.aaload, 1) := by decide +kernel
theorem d_X11_tray_60 : decode mt_X11_tray.2.1 60 = .ok (.iload_n 2, 1) := by decide +kernel
theorem d_X11_tray_61 : decode mt_X11_tray.2.1 61 = .ok (.iload_n 3, 1) := by decide +kernel
theorem d_X11_tray_62 : decode mt_X11_tray.2.1 62 = .ok (.invokevirtual 135, 3) := by decide +kernel
theorem d_X11_tray_65 : decode mt_X11_tray.2.1 65 = .ok (.iconst 1, 1) := by decide +kernel
theorem d_X11_tray_66 : decode mt_X11_tray.2.1 66 = .ok (.ireturn, 1) := by decide +kernel
noncomputable def f_X11_tray_b43 (v0 v1 v2 v3 v4 : Int) (σ : Mem) : Option (Int × Mem) :=
  (f_X11_refused v0 v4 σ).bind fun r5 =>
  if r5.1 = 0 then
    (gf Sh r5.2 11 v0 0).bind fun x7 =>
    (al Sh r5.2 38 x7 v1).bind fun x8 =>
    (f_X8_make x8 v2 v3 r5.2).bind fun r9 =>
    some (1, r9)
  else
    some (0, r5.2)
theorem L_X11_tray_b43 {sc : Nat × (Nat → Int32)} {o : Int × Mem} {v0 v1 v2 v3 v4 : Int} {σ : Mem} (h : f_X11_tray_b43 v0 v1 v2 v3 v4 σ = some o) : E sc (Fm Sh (some (0, o.1)) Sh o.2) mt_X11_tray 2 Sh Sh 43 [(2, v0), (0, v1), (0, v2), (0, v3), (0, v4)] [] Sh σ := by
  unfold f_X11_tray_b43 at h
  refine E_aload_n d_X11_tray_43 rfl (by decide) ?_
  refine E_iload d_X11_tray_44 rfl ?_
  refine bd h (fun r5 q6 h => ?_)
  refine E_cV (as := [(0, v4)]) (st := []) (a := v0) d_X11_tray_46 mk_X11_refused nl_X11_132 (by omega) ⟨rfl, rfl, Nat.le_of_ble_eq_true rfl⟩ okX11 rfl (L_X11_refused q6) ?_
  refine E_if_eq (tgt := 54) d_X11_tray_49 (by decide) h (fun _ h => ?_) (fun _ h => ?_)
  · refine E_aload_n d_X11_tray_54 rfl (by decide) ?_
    refine E_get d_X11_tray_55 okX11 fl_X11_11 ⟨by decide, rfl⟩ h (fun x7 h => ?_)
    refine E_iload_n d_X11_tray_58 rfl ?_
    refine E_aaload d_X11_tray_59 (Or.inr (Or.inl ⟨rfl, rfl, rfl⟩)) h (fun x8 h => ?_)
    refine E_iload_n d_X11_tray_60 rfl ?_
    refine E_iload_n d_X11_tray_61 rfl ?_
    refine bd h (fun r9 q10 h => ?_)
    refine E_cVv (as := [(0, v2), (0, v3)]) (st := []) (a := x8) d_X11_tray_62 mk_X8_make nl_X11_135 (by omega) ⟨rfl, rfl, Nat.le_of_ble_eq_true rfl⟩ okX8 rfl (L_X8_make q10) ?_
    refine E_iconst d_X11_tray_65 (c32 rfl) ?_
    cases h
    exact E_zret d_X11_tray_66 rfl (Or.inr rfl)
  · refine E_iconst d_X11_tray_52 (c32 rfl) ?_
    cases h
    exact E_zret d_X11_tray_53 rfl (Or.inl rfl)
noncomputable def f_X11_tray_b17 (v0 v1 v2 v3 : Int) (σ : Mem) : Option (Int × Mem) :=
  f_X11_tray_b43 v0 v1 v2 v3 1 σ
theorem L_X11_tray_b17 {sc : Nat × (Nat → Int32)} {o : Int × Mem} {v0 v1 v2 v3 : Int} {σ : Mem} (h : f_X11_tray_b17 v0 v1 v2 v3 σ = some o) : E sc (Fm Sh (some (0, o.1)) Sh o.2) mt_X11_tray 2 Sh Sh 17 [(2, v0), (0, v1), (0, v2), (0, v3), (9, 0)] [] Sh σ := by
  unfold f_X11_tray_b17 at h
  refine E_iconst d_X11_tray_17 (c32 rfl) ?_
  refine E_istore d_X11_tray_18 (ls' := [(2, v0), (0, v1), (0, v2), (0, v3), (0, 1)]) ⟨by decide, rfl⟩ ?_
  refine E_goto (tgt := 43) d_X11_tray_20 (by decide) ?_
  exact (L_X11_tray_b43 h)
noncomputable def f_X11_tray_b0 (v0 v1 v2 v3 : Int) (σ : Mem) : Option (Int × Mem) :=
  (f_X11_isTray v1 σ).bind fun r1 =>
  if r1 = 0 then
    f_X11_tray_b17 v0 v1 v2 v3 σ
  else
    (f_X8_isSort v2 σ).bind fun r3 =>
    if r3 = 0 then
      f_X11_tray_b17 v0 v1 v2 v3 σ
    else
      if v3 ≤ 60 then
        if 0 ≤ v3 then
          f_X11_tray_b43 v0 v1 v2 v3 0 σ
        else
          f_X11_tray_b43 v0 v1 v2 v3 6 σ
      else
        f_X11_tray_b43 v0 v1 v2 v3 5 σ
theorem L_X11_tray_b0 {sc : Nat × (Nat → Int32)} {o : Int × Mem} {v0 v1 v2 v3 : Int} {σ : Mem} (h : f_X11_tray_b0 v0 v1 v2 v3 σ = some o) : E sc (Fm Sh (some (0, o.1)) Sh o.2) mt_X11_tray 2 Sh Sh 0 [(2, v0), (0, v1), (0, v2), (0, v3), (9, 0)] [] Sh σ := by
  unfold f_X11_tray_b0 at h
  refine E_iconst d_X11_tray_0 (c32 rfl) ?_
  refine E_istore d_X11_tray_1 (ls' := [(2, v0), (0, v1), (0, v2), (0, v3), (0, 0)]) ⟨by decide, rfl⟩ ?_
  refine E_iload_n d_X11_tray_3 rfl ?_
  refine bd h (fun r1 q2 h => ?_)
  refine E_cS (as := [(0, v1)]) (st := []) d_X11_tray_4 mk_X11_isTray nl_X11_125 (by omega) ⟨rfl, rfl, Nat.le_of_ble_eq_true rfl⟩ (L_X11_isTray q2) ?_
  refine E_if_eq (tgt := 17) d_X11_tray_7 (by decide) h (fun _ h => ?_) (fun _ h => ?_)
  · exact E_weak (ls' := [(2, v0), (0, v1), (0, v2), (0, v3), (9, 0)]) ⟨Or.inr rfl, Or.inr rfl, Or.inr rfl, Or.inr rfl, Or.inl rfl, trivial⟩ (L_X11_tray_b17 h)
  · refine E_iload_n d_X11_tray_10 rfl ?_
    refine bd h (fun r3 q4 h => ?_)
    refine E_cS (as := [(0, v2)]) (st := []) d_X11_tray_11 mk_X8_isSort nl_X11_129 (by omega) ⟨rfl, rfl, Nat.le_of_ble_eq_true rfl⟩ (L_X8_isSort q4) ?_
    refine E_if_ne (tgt := 23) d_X11_tray_14 (by decide) h (fun _ h => ?_) (fun _ h => ?_)
    · exact E_weak (ls' := [(2, v0), (0, v1), (0, v2), (0, v3), (9, 0)]) ⟨Or.inr rfl, Or.inr rfl, Or.inr rfl, Or.inr rfl, Or.inl rfl, trivial⟩ (L_X11_tray_b17 h)
    · refine E_iload_n d_X11_tray_23 rfl ?_
      refine E_bipush d_X11_tray_24 (c8 rfl) ?_
      refine E_icmp_le (tgt := 35) d_X11_tray_26 (by decide) h (fun _ h => ?_) (fun _ h => ?_)
      · refine E_iload_n d_X11_tray_35 rfl ?_
        refine E_if_ge (tgt := 43) d_X11_tray_36 (by decide) h (fun _ h => ?_) (fun _ h => ?_)
        · exact (L_X11_tray_b43 h)
        · refine E_bipush d_X11_tray_39 (c8 rfl) ?_
          refine E_istore d_X11_tray_41 (ls' := [(2, v0), (0, v1), (0, v2), (0, v3), (0, 6)]) ⟨by decide, rfl⟩ ?_
          exact (L_X11_tray_b43 h)
      · refine E_iconst d_X11_tray_29 (c32 rfl) ?_
        refine E_istore d_X11_tray_30 (ls' := [(2, v0), (0, v1), (0, v2), (0, v3), (0, 5)]) ⟨by decide, rfl⟩ ?_
        refine E_goto (tgt := 43) d_X11_tray_32 (by decide) ?_
        exact (L_X11_tray_b43 h)
noncomputable def f_X11_tray (v0 v1 v2 v3 : Int) (σ : Mem) : Option (Int × Mem) := if isO Sh 11 v0 = true then f_X11_tray_b0 v0 v1 v2 v3 σ else none
theorem L_X11_tray {o : Int × Mem} {v0 v1 v2 v3 : Int} {σ : Mem} (h : f_X11_tray v0 v1 v2 v3 σ = some o) : (isO Sh 11 v0 = true ∧ Cn mt_X11_tray 2 [(2, v0), (0, v1), (0, v2), (0, v3)] Sh σ (some (0, o.1)) Sh o.2) := ⟨(ite_ok h).1, Cn_of mk_X11_tray.1.2.2.1 (Nat.le_of_ble_eq_true rfl) (fun sc => L_X11_tray_b0 (ite_ok h).2)⟩
theorem d_X11_trayPlaceWhy_0 : decode mt_X11_trayPlaceWhy.2.1 0 = .ok (.iload_n 1, 1) := by decide +kernel
theorem d_X11_trayPlaceWhy_1 : decode mt_X11_trayPlaceWhy.2.1 1 = .ok (.invokestatic 125, 3) := by decide +kernel
theorem d_X11_trayPlaceWhy_4 : decode mt_X11_trayPlaceWhy.2.1 4 = .ok (.ifCond .ne 5, 3) := by decide +kernel
theorem d_X11_trayPlaceWhy_7 : decode mt_X11_trayPlaceWhy.2.1 7 = .ok (.iconst 1, 1) := by decide +kernel
theorem d_X11_trayPlaceWhy_8 : decode mt_X11_trayPlaceWhy.2.1 8 = .ok (.ireturn, 1) := by decide +kernel
theorem d_X11_trayPlaceWhy_9 : decode mt_X11_trayPlaceWhy.2.1 9 = .ok (.aload_n 0, 1) := by decide +kernel
theorem d_X11_trayPlaceWhy_10 : decode mt_X11_trayPlaceWhy.2.1 10 = .ok (.getfield 11, 3) := by decide +kernel
theorem d_X11_trayPlaceWhy_13 : decode mt_X11_trayPlaceWhy.2.1 13 = .ok (.iload_n 1, 1) := by decide +kernel
theorem d_X11_trayPlaceWhy_14 : decode mt_X11_trayPlaceWhy.2.1 14 = .ok (.aaload, 1) := by decide +kernel
theorem d_X11_trayPlaceWhy_15 : decode mt_X11_trayPlaceWhy.2.1 15 = .ok (.invokevirtual 163, 3) := by decide +kernel
theorem d_X11_trayPlaceWhy_18 : decode mt_X11_trayPlaceWhy.2.1 18 = .ok (.ifCond .eq 5, 3) := by decide +kernel
theorem d_X11_trayPlaceWhy_21 : decode mt_X11_trayPlaceWhy.2.1 21 = .ok (.iconst 3, 1) := by decide +kernel
theorem d_X11_trayPlaceWhy_22 : decode mt_X11_trayPlaceWhy.2.1 22 = .ok (.ireturn, 1) := by decide +kernel
theorem d_X11_trayPlaceWhy_23 : decode mt_X11_trayPlaceWhy.2.1 23 = .ok (.aload_n 0, 1) := by decide +kernel
theorem d_X11_trayPlaceWhy_24 : decode mt_X11_trayPlaceWhy.2.1 24 = .ok (.getfield 11, 3) := by decide +kernel
theorem d_X11_trayPlaceWhy_27 : decode mt_X11_trayPlaceWhy.2.1 27 = .ok (.iload_n 1, 1) := by decide +kernel
theorem d_X11_trayPlaceWhy_28 : decode mt_X11_trayPlaceWhy.2.1 28 = .ok (.aaload, 1) := by decide +kernel
theorem d_X11_trayPlaceWhy_29 : decode mt_X11_trayPlaceWhy.2.1 29 = .ok (.iload_n 2, 1) := by decide +kernel
theorem d_X11_trayPlaceWhy_30 : decode mt_X11_trayPlaceWhy.2.1 30 = .ok (.iconst 1, 1) := by decide +kernel
theorem d_X11_trayPlaceWhy_31 : decode mt_X11_trayPlaceWhy.2.1 31 = .ok (.invokevirtual 170, 3) := by decide +kernel
theorem d_X11_trayPlaceWhy_34 : decode mt_X11_trayPlaceWhy.2.1 34 = .ok (.ifCond .eq 7, 3) := by decide +kernel
theorem d_X11_trayPlaceWhy_37 : decode mt_X11_trayPlaceWhy.2.1 37 = .ok (.iconst 0, 1) := by decide +kernel
theorem d_X11_trayPlaceWhy_38 : decode mt_X11_trayPlaceWhy.2.1 38 = .ok (.goto 4, 3) := by decide +kernel
theorem d_X11_trayPlaceWhy_41 : decode mt_X11_trayPlaceWhy.2.1 41 = .ok (.iconst 4, 1) := by decide +kernel
theorem d_X11_trayPlaceWhy_42 : decode mt_X11_trayPlaceWhy.2.1 42 = .ok (.ireturn, 1) := by decide +kernel
noncomputable def f_X11_trayPlaceWhy_b0 (v0 v1 v2 : Int) (σ : Mem) : Option (Int) :=
  (f_X11_isTray v1 σ).bind fun r1 =>
  if r1 = 0 then
    some (1)
  else
    (gf Sh σ 11 v0 0).bind fun x3 =>
    (al Sh σ 38 x3 v1).bind fun x4 =>
    (f_X8_isMissing x4 σ).bind fun r5 =>
    if r5 = 0 then
      (gf Sh σ 11 v0 0).bind fun x7 =>
      (al Sh σ 38 x7 v1).bind fun x8 =>
      (f_X8_hasRow x8 v2 1 σ).bind fun r9 =>
      if r9 = 0 then
        some (4)
      else
        some (0)
    else
      some (3)
theorem L_X11_trayPlaceWhy_b0 {sc : Nat × (Nat → Int32)} {o : Int} {σ : Mem} {v0 v1 v2 : Int} (h : f_X11_trayPlaceWhy_b0 v0 v1 v2 σ = some o) : E sc (Fm Sh (some (0, o)) Sh σ) mt_X11_trayPlaceWhy 2 Sh Sh 0 [(2, v0), (0, v1), (0, v2)] [] Sh σ := by
  unfold f_X11_trayPlaceWhy_b0 at h
  refine E_iload_n d_X11_trayPlaceWhy_0 rfl ?_
  refine bd h (fun r1 q2 h => ?_)
  refine E_cS (as := [(0, v1)]) (st := []) d_X11_trayPlaceWhy_1 mk_X11_isTray nl_X11_125 (by omega) ⟨rfl, rfl, Nat.le_of_ble_eq_true rfl⟩ (L_X11_isTray q2) ?_
  refine E_if_ne (tgt := 9) d_X11_trayPlaceWhy_4 (by decide) h (fun _ h => ?_) (fun _ h => ?_)
  · refine E_iconst d_X11_trayPlaceWhy_7 (c32 rfl) ?_
    cases h
    exact E_iret d_X11_trayPlaceWhy_8 rfl
  · refine E_aload_n d_X11_trayPlaceWhy_9 rfl (by decide) ?_
    refine E_get d_X11_trayPlaceWhy_10 okX11 fl_X11_11 ⟨by decide, rfl⟩ h (fun x3 h => ?_)
    refine E_iload_n d_X11_trayPlaceWhy_13 rfl ?_
    refine E_aaload d_X11_trayPlaceWhy_14 (Or.inr (Or.inl ⟨rfl, rfl, rfl⟩)) h (fun x4 h => ?_)
    refine bd h (fun r5 q6 h => ?_)
    refine E_cV (as := []) (st := []) (a := x4) d_X11_trayPlaceWhy_15 mk_X8_isMissing nl_X11_163 (by omega) ⟨rfl, rfl, Nat.le_of_ble_eq_true rfl⟩ okX8 rfl (L_X8_isMissing q6) ?_
    refine E_if_eq (tgt := 23) d_X11_trayPlaceWhy_18 (by decide) h (fun _ h => ?_) (fun _ h => ?_)
    · refine E_aload_n d_X11_trayPlaceWhy_23 rfl (by decide) ?_
      refine E_get d_X11_trayPlaceWhy_24 okX11 fl_X11_11 ⟨by decide, rfl⟩ h (fun x7 h => ?_)
      refine E_iload_n d_X11_trayPlaceWhy_27 rfl ?_
      refine E_aaload d_X11_trayPlaceWhy_28 (Or.inr (Or.inl ⟨rfl, rfl, rfl⟩)) h (fun x8 h => ?_)
      refine E_iload_n d_X11_trayPlaceWhy_29 rfl ?_
      refine E_iconst d_X11_trayPlaceWhy_30 (c32 rfl) ?_
      refine bd h (fun r9 q10 h => ?_)
      refine E_cV (as := [(0, v2), (0, 1)]) (st := []) (a := x8) d_X11_trayPlaceWhy_31 mk_X8_hasRow nl_X11_170 (by omega) ⟨rfl, rfl, Nat.le_of_ble_eq_true rfl⟩ okX8 rfl (L_X8_hasRow q10) ?_
      refine E_if_eq (tgt := 41) d_X11_trayPlaceWhy_34 (by decide) h (fun _ h => ?_) (fun _ h => ?_)
      · refine E_iconst d_X11_trayPlaceWhy_41 (c32 rfl) ?_
        cases h
        exact E_iret d_X11_trayPlaceWhy_42 rfl
      · refine E_iconst d_X11_trayPlaceWhy_37 (c32 rfl) ?_
        refine E_goto (tgt := 42) d_X11_trayPlaceWhy_38 (by decide) ?_
        cases h
        exact E_iret d_X11_trayPlaceWhy_42 rfl
    · refine E_iconst d_X11_trayPlaceWhy_21 (c32 rfl) ?_
      cases h
      exact E_iret d_X11_trayPlaceWhy_22 rfl
noncomputable def f_X11_trayPlaceWhy (v0 v1 v2 : Int) (σ : Mem) : Option (Int) := if isO Sh 11 v0 = true then f_X11_trayPlaceWhy_b0 v0 v1 v2 σ else none
theorem L_X11_trayPlaceWhy {o : Int} {v0 v1 v2 : Int} {σ : Mem} (h : f_X11_trayPlaceWhy v0 v1 v2 σ = some o) : (isO Sh 11 v0 = true ∧ Cn mt_X11_trayPlaceWhy 2 [(2, v0), (0, v1), (0, v2)] Sh σ (some (0, o)) Sh σ) := ⟨(ite_ok h).1, Cn_of mk_X11_trayPlaceWhy.1.2.2.1 (Nat.le_of_ble_eq_true rfl) (fun sc => L_X11_trayPlaceWhy_b0 (ite_ok h).2)⟩
theorem d_X11_write_0 : decode mt_X11_write.2.1 0 = .ok (.aload_n 0, 1) := by decide +kernel
theorem d_X11_write_1 : decode mt_X11_write.2.1 1 = .ok (.aload_n 0, 1) := by decide +kernel
theorem d_X11_write_2 : decode mt_X11_write.2.1 2 = .ok (.iload_n 1, 1) := by decide +kernel
theorem d_X11_write_3 : decode mt_X11_write.2.1 3 = .ok (.iload_n 2, 1) := by decide +kernel
theorem d_X11_write_4 : decode mt_X11_write.2.1 4 = .ok (.invokevirtual 139, 3) := by decide +kernel
theorem d_X11_write_7 : decode mt_X11_write.2.1 7 = .ok (.invokevirtual 132, 3) := by decide +kernel
theorem d_X11_write_10 : decode mt_X11_write.2.1 10 = .ok (.ifCond .eq 5, 3) := by decide +kernel
theorem d_X11_write_13 : decode mt_X11_write.2.1 13 = .ok (.iconst 0, 1) := by decide +kernel
theorem d_X11_write_14 : decode mt_X11_write.2.1 14 = .ok (.ireturn, 1) := by decide +kernel
theorem d_X11_write_15 : decode mt_X11_write.2.1 15 = .ok (.aload_n 0, 1) := by decide +kernel
theorem d_X11_write_16 : decode mt_X11_write.2.1 16 = .ok (.getfield 11, 3) := by decide +kernel
theorem d_X11_write_19 : decode mt_X11_write.2.1 19 = .ok (.iload_n 1, 1) := by decide +kernel
theorem d_X11_write_20 : decode mt_X11_write.2.1 20 = .ok (.aaload, 1) := by decide +kernel
theorem d_X11_write_21 : decode mt_X11_write.2.1 21 = .ok (.iload_n 2, 1) := by decide +kernel
theorem d_X11_write_22 : decode mt_X11_write.2.1 22 = .ok (.lload_n 3, 1) := by decide +kernel
theorem d_X11_write_23 : decode mt_X11_write.2.1 23 = .ok (.invokevirtual 143, 3) := by decide +kernel
theorem d_X11_write_26 : decode mt_X11_write.2.1 26 = .ok (.iconst 1, 1) := by decide +kernel
theorem d_X11_write_27 : decode mt_X11_write.2.1 27 = .ok (.ireturn, 1) := by decide +kernel
noncomputable def f_X11_write_b0 (v0 v1 v2 v3 : Int) (σ : Mem) : Option (Int × Mem) :=
  (f_X11_trayPlaceWhy v0 v1 v2 σ).bind fun r1 =>
  (f_X11_refused v0 r1 σ).bind fun r3 =>
  if r3.1 = 0 then
    (gf Sh r3.2 11 v0 0).bind fun x5 =>
    (al Sh r3.2 38 x5 v1).bind fun x6 =>
    (f_X8_put x6 v2 v3 r3.2).bind fun r7 =>
    some (1, r7)
  else
    some (0, r3.2)
theorem L_X11_write_b0 {sc : Nat × (Nat → Int32)} {o : Int × Mem} {v0 v1 v2 v3 : Int} {σ : Mem} (h : f_X11_write_b0 v0 v1 v2 v3 σ = some o) : E sc (Fm Sh (some (0, o.1)) Sh o.2) mt_X11_write 3 Sh Sh 0 [(2, v0), (0, v1), (0, v2), (1, v3), (9, 0)] [] Sh σ := by
  unfold f_X11_write_b0 at h
  refine E_aload_n d_X11_write_0 rfl (by decide) ?_
  refine E_aload_n d_X11_write_1 rfl (by decide) ?_
  refine E_iload_n d_X11_write_2 rfl ?_
  refine E_iload_n d_X11_write_3 rfl ?_
  refine bd h (fun r1 q2 h => ?_)
  refine E_cV (as := [(0, v1), (0, v2)]) (st := [(2, v0)]) (a := v0) d_X11_write_4 mk_X11_trayPlaceWhy nl_X11_139 (by omega) ⟨rfl, rfl, Nat.le_of_ble_eq_true rfl⟩ okX11 rfl (L_X11_trayPlaceWhy q2) ?_
  refine bd h (fun r3 q4 h => ?_)
  refine E_cV (as := [(0, r1)]) (st := []) (a := v0) d_X11_write_7 mk_X11_refused nl_X11_132 (by omega) ⟨rfl, rfl, Nat.le_of_ble_eq_true rfl⟩ okX11 rfl (L_X11_refused q4) ?_
  refine E_if_eq (tgt := 15) d_X11_write_10 (by decide) h (fun _ h => ?_) (fun _ h => ?_)
  · refine E_aload_n d_X11_write_15 rfl (by decide) ?_
    refine E_get d_X11_write_16 okX11 fl_X11_11 ⟨by decide, rfl⟩ h (fun x5 h => ?_)
    refine E_iload_n d_X11_write_19 rfl ?_
    refine E_aaload d_X11_write_20 (Or.inr (Or.inl ⟨rfl, rfl, rfl⟩)) h (fun x6 h => ?_)
    refine E_iload_n d_X11_write_21 rfl ?_
    refine E_lload_n d_X11_write_22 rfl ?_
    refine bd h (fun r7 q8 h => ?_)
    refine E_cVv (as := [(0, v2), (1, v3)]) (st := []) (a := x6) d_X11_write_23 mk_X8_put nl_X11_143 (by omega) ⟨rfl, rfl, Nat.le_of_ble_eq_true rfl⟩ okX8 rfl (L_X8_put q8) ?_
    refine E_iconst d_X11_write_26 (c32 rfl) ?_
    cases h
    exact E_zret d_X11_write_27 rfl (Or.inr rfl)
  · refine E_iconst d_X11_write_13 (c32 rfl) ?_
    cases h
    exact E_zret d_X11_write_14 rfl (Or.inl rfl)
noncomputable def f_X11_write (v0 v1 v2 v3 : Int) (σ : Mem) : Option (Int × Mem) := if isO Sh 11 v0 = true then f_X11_write_b0 v0 v1 v2 v3 σ else none
theorem L_X11_write {o : Int × Mem} {v0 v1 v2 v3 : Int} {σ : Mem} (h : f_X11_write v0 v1 v2 v3 σ = some o) : (isO Sh 11 v0 = true ∧ Cn mt_X11_write 3 [(2, v0), (0, v1), (0, v2), (1, v3)] Sh σ (some (0, o.1)) Sh o.2) := ⟨(ite_ok h).1, Cn_of mk_X11_write.1.2.2.1 (Nat.le_of_ble_eq_true rfl) (fun sc => L_X11_write_b0 (ite_ok h).2)⟩
theorem d_X11_read_0 : decode mt_X11_read.2.1 0 = .ok (.aload_n 0, 1) := by decide +kernel
theorem d_X11_read_1 : decode mt_X11_read.2.1 1 = .ok (.aload_n 0, 1) := by decide +kernel
theorem d_X11_read_2 : decode mt_X11_read.2.1 2 = .ok (.iload_n 1, 1) := by decide +kernel
theorem d_X11_read_3 : decode mt_X11_read.2.1 3 = .ok (.iload_n 2, 1) := by decide +kernel
theorem d_X11_read_4 : decode mt_X11_read.2.1 4 = .ok (.invokevirtual 139, 3) := by decide +kernel
theorem d_X11_read_7 : decode mt_X11_read.2.1 7 = .ok (.invokevirtual 132, 3) := by decide +kernel
theorem d_X11_read_10 : decode mt_X11_read.2.1 10 = .ok (.ifCond .eq 7, 3) := by decide +kernel
theorem d_X11_read_13 : decode mt_X11_read.2.1 13 = .ok (.ldc2_w 147, 3) := by decide +kernel
theorem d_X11_read_16 : decode mt_X11_read.2.1 16 = .ok (.lreturn, 1) := by decide +kernel
theorem d_X11_read_17 : decode mt_X11_read.2.1 17 = .ok (.aload_n 0, 1) := by decide +kernel
theorem d_X11_read_18 : decode mt_X11_read.2.1 18 = .ok (.getfield 11, 3) := by decide +kernel
theorem d_X11_read_21 : decode mt_X11_read.2.1 21 = .ok (.iload_n 1, 1) := by decide +kernel
theorem d_X11_read_22 : decode mt_X11_read.2.1 22 = .ok (.aaload, 1) := by decide +kernel
theorem d_X11_read_23 : decode mt_X11_read.2.1 23 = .ok (.getfield 149, 3) := by decide +kernel
theorem d_X11_read_26 : decode mt_X11_read.2.1 26 = .ok (.iload_n 2, 1) := by decide +kernel
theorem d_X11_read_27 : decode mt_X11_read.2.1 27 = .ok (.laload, 1) := by decide +kernel
theorem d_X11_read_28 : decode mt_X11_read.2.1 28 = .ok (.lreturn, 1) := by decide +kernel
noncomputable def f_X11_read_b0 (v0 v1 v2 : Int) (σ : Mem) : Option (Int × Mem) :=
  (f_X11_trayPlaceWhy v0 v1 v2 σ).bind fun r1 =>
  (f_X11_refused v0 r1 σ).bind fun r3 =>
  if r3.1 = 0 then
    (gf Sh r3.2 11 v0 0).bind fun x5 =>
    (al Sh r3.2 38 x5 v1).bind fun x6 =>
    (gf Sh r3.2 8 x6 0).bind fun x7 =>
    (al Sh r3.2 21 x7 v2).bind fun x8 =>
    some (x8, r3.2)
  else
    some ((-1), r3.2)
theorem L_X11_read_b0 {sc : Nat × (Nat → Int32)} {o : Int × Mem} {v0 v1 v2 : Int} {σ : Mem} (h : f_X11_read_b0 v0 v1 v2 σ = some o) : E sc (Fm Sh (some (1, o.1)) Sh o.2) mt_X11_read 3 Sh Sh 0 [(2, v0), (0, v1), (0, v2)] [] Sh σ := by
  unfold f_X11_read_b0 at h
  refine E_aload_n d_X11_read_0 rfl (by decide) ?_
  refine E_aload_n d_X11_read_1 rfl (by decide) ?_
  refine E_iload_n d_X11_read_2 rfl ?_
  refine E_iload_n d_X11_read_3 rfl ?_
  refine bd h (fun r1 q2 h => ?_)
  refine E_cV (as := [(0, v1), (0, v2)]) (st := [(2, v0)]) (a := v0) d_X11_read_4 mk_X11_trayPlaceWhy nl_X11_139 (by omega) ⟨rfl, rfl, Nat.le_of_ble_eq_true rfl⟩ okX11 rfl (L_X11_trayPlaceWhy q2) ?_
  refine bd h (fun r3 q4 h => ?_)
  refine E_cV (as := [(0, r1)]) (st := []) (a := v0) d_X11_read_7 mk_X11_refused nl_X11_132 (by omega) ⟨rfl, rfl, Nat.le_of_ble_eq_true rfl⟩ okX11 rfl (L_X11_refused q4) ?_
  refine E_if_eq (tgt := 17) d_X11_read_10 (by decide) h (fun _ h => ?_) (fun _ h => ?_)
  · refine E_aload_n d_X11_read_17 rfl (by decide) ?_
    refine E_get d_X11_read_18 okX11 fl_X11_11 ⟨by decide, rfl⟩ h (fun x5 h => ?_)
    refine E_iload_n d_X11_read_21 rfl ?_
    refine E_aaload d_X11_read_22 (Or.inr (Or.inl ⟨rfl, rfl, rfl⟩)) h (fun x6 h => ?_)
    refine E_get d_X11_read_23 okX8 fl_X11_149 ⟨by decide, rfl⟩ h (fun x7 h => ?_)
    refine E_iload_n d_X11_read_26 rfl ?_
    refine E_laload d_X11_read_27 h (fun x8 h => ?_)
    cases h
    exact E_lret d_X11_read_28 rfl
  · refine E_ldc2 d_X11_read_13 kw_X11_147 ?_
    cases h
    exact E_lret d_X11_read_16 rfl
noncomputable def f_X11_read (v0 v1 v2 : Int) (σ : Mem) : Option (Int × Mem) := if isO Sh 11 v0 = true then f_X11_read_b0 v0 v1 v2 σ else none
theorem L_X11_read {o : Int × Mem} {v0 v1 v2 : Int} {σ : Mem} (h : f_X11_read v0 v1 v2 σ = some o) : (isO Sh 11 v0 = true ∧ Cn mt_X11_read 3 [(2, v0), (0, v1), (0, v2)] Sh σ (some (1, o.1)) Sh o.2) := ⟨(ite_ok h).1, Cn_of mk_X11_read.1.2.2.1 (Nat.le_of_ble_eq_true rfl) (fun sc => L_X11_read_b0 (ite_ok h).2)⟩
theorem d_X11_pourWhy_0 : decode mt_X11_pourWhy.2.1 0 = .ok (.iload_n 1, 1) := by decide +kernel
theorem d_X11_pourWhy_1 : decode mt_X11_pourWhy.2.1 1 = .ok (.invokestatic 125, 3) := by decide +kernel
theorem d_X11_pourWhy_4 : decode mt_X11_pourWhy.2.1 4 = .ok (.ifCond .eq 10, 3) := by decide +kernel
theorem d_X11_pourWhy_7 : decode mt_X11_pourWhy.2.1 7 = .ok (.iload_n 3, 1) := by decide +kernel
theorem d_X11_pourWhy_8 : decode mt_X11_pourWhy.2.1 8 = .ok (.invokestatic 125, 3) := by decide +kernel
theorem d_X11_pourWhy_11 : decode mt_X11_pourWhy.2.1 11 = .ok (.ifCond .ne 5, 3) := by decide +kernel
theorem d_X11_pourWhy_14 : decode mt_X11_pourWhy.2.1 14 = .ok (.iconst 1, 1) := by decide +kernel
theorem d_X11_pourWhy_15 : decode mt_X11_pourWhy.2.1 15 = .ok (.ireturn, 1) := by decide +kernel
theorem d_X11_pourWhy_16 : decode mt_X11_pourWhy.2.1 16 = .ok (.aload_n 0, 1) := by decide +kernel
theorem d_X11_pourWhy_17 : decode mt_X11_pourWhy.2.1 17 = .ok (.getfield 11, 3) := by decide +kernel
theorem d_X11_pourWhy_20 : decode mt_X11_pourWhy.2.1 20 = .ok (.iload_n 1, 1) := by decide +kernel
theorem d_X11_pourWhy_21 : decode mt_X11_pourWhy.2.1 21 = .ok (.aaload, 1) := by decide +kernel
theorem d_X11_pourWhy_22 : decode mt_X11_pourWhy.2.1 22 = .ok (.astore 6, 2) := by decide +kernel
theorem d_X11_pourWhy_24 : decode mt_X11_pourWhy.2.1 24 = .ok (.aload_n 0, 1) := by decide +kernel
theorem d_X11_pourWhy_25 : decode mt_X11_pourWhy.2.1 25 = .ok (.getfield 11, 3) := by decide +kernel
theorem d_X11_pourWhy_28 : decode mt_X11_pourWhy.2.1 28 = .ok (.iload_n 3, 1) := by decide +kernel
theorem d_X11_pourWhy_29 : decode mt_X11_pourWhy.2.1 29 = .ok (.aaload, 1) := by decide +kernel
theorem d_X11_pourWhy_30 : decode mt_X11_pourWhy.2.1 30 = .ok (.astore 7, 2) := by decide +kernel
theorem d_X11_pourWhy_32 : decode mt_X11_pourWhy.2.1 32 = .ok (.aload 6, 2) := by decide +kernel
theorem d_X11_pourWhy_34 : decode mt_X11_pourWhy.2.1 34 = .ok (.invokevirtual 163, 3) := by decide +kernel
theorem d_X11_pourWhy_37 : decode mt_X11_pourWhy.2.1 37 = .ok (.ifCond .ne 11, 3) := by decide +kernel
theorem d_X11_pourWhy_40 : decode mt_X11_pourWhy.2.1 40 = .ok (.aload 7, 2) := by decide +kernel
theorem d_X11_pourWhy_42 : decode mt_X11_pourWhy.2.1 42 = .ok (.invokevirtual 163, 3) := by decide +kernel
theorem d_X11_pourWhy_45 : decode mt_X11_pourWhy.2.1 45 = .ok (.ifCond .eq 5, 3) := by decide +kernel
theorem d_X11_pourWhy_48 : decode mt_X11_pourWhy.2.1 48 = .ok (.iconst 3, 1) := by decide +kernel
theorem d_X11_pourWhy_49 : decode mt_X11_pourWhy.2.1 49 = .ok (.ireturn, 1) := by decide +kernel
theorem d_X11_pourWhy_50 : decode mt_X11_pourWhy.2.1 50 = .ok (.aload 6, 2) := by decide +kernel
theorem d_X11_pourWhy_52 : decode mt_X11_pourWhy.2.1 52 = .ok (.getfield 167, 3) := by decide +kernel
theorem d_X11_pourWhy_55 : decode mt_X11_pourWhy.2.1 55 = .ok (.aload 7, 2) := by decide +kernel
theorem d_X11_pourWhy_57 : decode mt_X11_pourWhy.2.1 57 = .ok (.getfield 167, 3) := by decide +kernel
theorem d_X11_pourWhy_60 : decode mt_X11_pourWhy.2.1 60 = .ok (.if_icmp .eq 6, 3) := by decide +kernel
theorem d_X11_pourWhy_63 : decode mt_X11_pourWhy.2.1 63 = .ok (.bipush 11, 2) := by decide +kernel
theorem d_X11_pourWhy_65 : decode mt_X11_pourWhy.2.1 65 = .ok (.ireturn, 1) := by decide +kernel
theorem d_X11_pourWhy_66 : decode mt_X11_pourWhy.2.1 66 = .ok (.iload 5, 2) := by decide +kernel
theorem d_X11_pourWhy_68 : decode mt_X11_pourWhy.2.1 68 = .ok (.ifCond .ge 6, 3) := by decide +kernel
theorem d_X11_pourWhy_71 : decode mt_X11_pourWhy.2.1 71 = .ok (.bipush 6, 2) := by decide +kernel
theorem d_X11_pourWhy_73 : decode mt_X11_pourWhy.2.1 73 = .ok (.ireturn, 1) := by decide +kernel
theorem d_X11_pourWhy_74 : decode mt_X11_pourWhy.2.1 74 = .ok (.aload 6, 2) := by decide +kernel
theorem d_X11_pourWhy_76 : decode mt_X11_pourWhy.2.1 76 = .ok (.iload_n 2, 1) := by decide +kernel
theorem d_X11_pourWhy_77 : decode mt_X11_pourWhy.2.1 77 = .ok (.iload 5, 2) := by decide +kernel
theorem d_X11_pourWhy_79 : decode mt_X11_pourWhy.2.1 79 = .ok (.invokevirtual 170, 3) := by decide +kernel
theorem d_X11_pourWhy_82 : decode mt_X11_pourWhy.2.1 82 = .ok (.ifCond .eq 19, 3) := by decide +kernel
theorem d_X11_pourWhy_85 : decode mt_X11_pourWhy.2.1 85 = .ok (.aload 7, 2) := by decide +kernel
theorem d_X11_pourWhy_87 : decode mt_X11_pourWhy.2.1 87 = .ok (.iload 4, 2) := by decide +kernel
theorem d_X11_pourWhy_89 : decode mt_X11_pourWhy.2.1 89 = .ok (.iload 5, 2) := by decide +kernel
theorem d_X11_pourWhy_91 : decode mt_X11_pourWhy.2.1 91 = .ok (.invokevirtual 170, 3) := by decide +kernel
theorem d_X11_pourWhy_94 : decode mt_X11_pourWhy.2.1 94 = .ok (.ifCond .eq 7, 3) := by decide +kernel
theorem d_X11_pourWhy_97 : decode mt_X11_pourWhy.2.1 97 = .ok (.iconst 0, 1) := by decide +kernel
theorem d_X11_pourWhy_98 : decode mt_X11_pourWhy.2.1 98 = .ok (.goto 4, 3) := by decide +kernel
theorem d_X11_pourWhy_101 : decode mt_X11_pourWhy.2.1 101 = .ok (.iconst 4, 1) := by decide +kernel
theorem d_X11_pourWhy_102 : decode mt_X11_pourWhy.2.1 102 = .ok (.ireturn, 1) := by decide +kernel
noncomputable def f_X11_pourWhy_b0 (v0 v1 v2 v3 v4 v5 : Int) (σ : Mem) : Option (Int) :=
  (f_X11_isTray v1 σ).bind fun r1 =>
  if r1 = 0 then
    some (1)
  else
    (f_X11_isTray v3 σ).bind fun r3 =>
    if r3 = 0 then
      some (1)
    else
      (gf Sh σ 11 v0 0).bind fun x5 =>
      (al Sh σ 38 x5 v1).bind fun x6 =>
      (gf Sh σ 11 v0 0).bind fun x7 =>
      (al Sh σ 38 x7 v3).bind fun x8 =>
      (f_X8_isMissing x6 σ).bind fun r9 =>
      if r9 = 0 then
        (f_X8_isMissing x8 σ).bind fun r11 =>
        if r11 = 0 then
          (gf Sh σ 8 x6 1).bind fun x13 =>
          (gf Sh σ 8 x8 1).bind fun x14 =>
          if x13 = x14 then
            if 0 ≤ v5 then
              (f_X8_hasRow x6 v2 v5 σ).bind fun r15 =>
              if r15 = 0 then
                some (4)
              else
                (f_X8_hasRow x8 v4 v5 σ).bind fun r17 =>
                if r17 = 0 then
                  some (4)
                else
                  some (0)
            else
              some (6)
          else
            some (11)
        else
          some (3)
      else
        some (3)
theorem L_X11_pourWhy_b0 {sc : Nat × (Nat → Int32)} {o : Int} {σ : Mem} {v0 v1 v2 v3 v4 v5 : Int} (h : f_X11_pourWhy_b0 v0 v1 v2 v3 v4 v5 σ = some o) : E sc (Fm Sh (some (0, o)) Sh σ) mt_X11_pourWhy 2 Sh Sh 0 [(2, v0), (0, v1), (0, v2), (0, v3), (0, v4), (0, v5), (9, 0), (9, 0)] [] Sh σ := by
  unfold f_X11_pourWhy_b0 at h
  refine E_iload_n d_X11_pourWhy_0 rfl ?_
  refine bd h (fun r1 q2 h => ?_)
  refine E_cS (as := [(0, v1)]) (st := []) d_X11_pourWhy_1 mk_X11_isTray nl_X11_125 (by omega) ⟨rfl, rfl, Nat.le_of_ble_eq_true rfl⟩ (L_X11_isTray q2) ?_
  refine E_if_eq (tgt := 14) d_X11_pourWhy_4 (by decide) h (fun _ h => ?_) (fun _ h => ?_)
  · refine E_iconst d_X11_pourWhy_14 (c32 rfl) ?_
    cases h
    exact E_iret d_X11_pourWhy_15 rfl
  · refine E_iload_n d_X11_pourWhy_7 rfl ?_
    refine bd h (fun r3 q4 h => ?_)
    refine E_cS (as := [(0, v3)]) (st := []) d_X11_pourWhy_8 mk_X11_isTray nl_X11_125 (by omega) ⟨rfl, rfl, Nat.le_of_ble_eq_true rfl⟩ (L_X11_isTray q4) ?_
    refine E_if_ne (tgt := 16) d_X11_pourWhy_11 (by decide) h (fun _ h => ?_) (fun _ h => ?_)
    · refine E_iconst d_X11_pourWhy_14 (c32 rfl) ?_
      cases h
      exact E_iret d_X11_pourWhy_15 rfl
    · refine E_aload_n d_X11_pourWhy_16 rfl (by decide) ?_
      refine E_get d_X11_pourWhy_17 okX11 fl_X11_11 ⟨by decide, rfl⟩ h (fun x5 h => ?_)
      refine E_iload_n d_X11_pourWhy_20 rfl ?_
      refine E_aaload d_X11_pourWhy_21 (Or.inr (Or.inl ⟨rfl, rfl, rfl⟩)) h (fun x6 h => ?_)
      refine E_astore d_X11_pourWhy_22 (ls' := [(2, v0), (0, v1), (0, v2), (0, v3), (0, v4), (0, v5), (2, x6), (9, 0)]) (by decide) ⟨by decide, rfl⟩ ?_
      refine E_aload_n d_X11_pourWhy_24 rfl (by decide) ?_
      refine E_get d_X11_pourWhy_25 okX11 fl_X11_11 ⟨by decide, rfl⟩ h (fun x7 h => ?_)
      refine E_iload_n d_X11_pourWhy_28 rfl ?_
      refine E_aaload d_X11_pourWhy_29 (Or.inr (Or.inl ⟨rfl, rfl, rfl⟩)) h (fun x8 h => ?_)
      refine E_astore d_X11_pourWhy_30 (ls' := [(2, v0), (0, v1), (0, v2), (0, v3), (0, v4), (0, v5), (2, x6), (2, x8)]) (by decide) ⟨by decide, rfl⟩ ?_
      refine E_aload d_X11_pourWhy_32 rfl (by decide) ?_
      refine bd h (fun r9 q10 h => ?_)
      refine E_cV (as := []) (st := []) (a := x6) d_X11_pourWhy_34 mk_X8_isMissing nl_X11_163 (by omega) ⟨rfl, rfl, Nat.le_of_ble_eq_true rfl⟩ okX8 rfl (L_X8_isMissing q10) ?_
      refine E_if_ne (tgt := 48) d_X11_pourWhy_37 (by decide) h (fun _ h => ?_) (fun _ h => ?_)
      · refine E_aload d_X11_pourWhy_40 rfl (by decide) ?_
        refine bd h (fun r11 q12 h => ?_)
        refine E_cV (as := []) (st := []) (a := x8) d_X11_pourWhy_42 mk_X8_isMissing nl_X11_163 (by omega) ⟨rfl, rfl, Nat.le_of_ble_eq_true rfl⟩ okX8 rfl (L_X8_isMissing q12) ?_
        refine E_if_eq (tgt := 50) d_X11_pourWhy_45 (by decide) h (fun _ h => ?_) (fun _ h => ?_)
        · refine E_aload d_X11_pourWhy_50 rfl (by decide) ?_
          refine E_get d_X11_pourWhy_52 okX8 fl_X11_167 ⟨by decide, rfl⟩ h (fun x13 h => ?_)
          refine E_aload d_X11_pourWhy_55 rfl (by decide) ?_
          refine E_get d_X11_pourWhy_57 okX8 fl_X11_167 ⟨by decide, rfl⟩ h (fun x14 h => ?_)
          refine E_icmp_eq (tgt := 66) d_X11_pourWhy_60 (by decide) h (fun _ h => ?_) (fun _ h => ?_)
          · refine E_iload d_X11_pourWhy_66 rfl ?_
            refine E_if_ge (tgt := 74) d_X11_pourWhy_68 (by decide) h (fun _ h => ?_) (fun _ h => ?_)
            · refine E_aload d_X11_pourWhy_74 rfl (by decide) ?_
              refine E_iload_n d_X11_pourWhy_76 rfl ?_
              refine E_iload d_X11_pourWhy_77 rfl ?_
              refine bd h (fun r15 q16 h => ?_)
              refine E_cV (as := [(0, v2), (0, v5)]) (st := []) (a := x6) d_X11_pourWhy_79 mk_X8_hasRow nl_X11_170 (by omega) ⟨rfl, rfl, Nat.le_of_ble_eq_true rfl⟩ okX8 rfl (L_X8_hasRow q16) ?_
              refine E_if_eq (tgt := 101) d_X11_pourWhy_82 (by decide) h (fun _ h => ?_) (fun _ h => ?_)
              · refine E_iconst d_X11_pourWhy_101 (c32 rfl) ?_
                cases h
                exact E_iret d_X11_pourWhy_102 rfl
              · refine E_aload d_X11_pourWhy_85 rfl (by decide) ?_
                refine E_iload d_X11_pourWhy_87 rfl ?_
                refine E_iload d_X11_pourWhy_89 rfl ?_
                refine bd h (fun r17 q18 h => ?_)
                refine E_cV (as := [(0, v4), (0, v5)]) (st := []) (a := x8) d_X11_pourWhy_91 mk_X8_hasRow nl_X11_170 (by omega) ⟨rfl, rfl, Nat.le_of_ble_eq_true rfl⟩ okX8 rfl (L_X8_hasRow q18) ?_
                refine E_if_eq (tgt := 101) d_X11_pourWhy_94 (by decide) h (fun _ h => ?_) (fun _ h => ?_)
                · refine E_iconst d_X11_pourWhy_101 (c32 rfl) ?_
                  cases h
                  exact E_iret d_X11_pourWhy_102 rfl
                · refine E_iconst d_X11_pourWhy_97 (c32 rfl) ?_
                  refine E_goto (tgt := 102) d_X11_pourWhy_98 (by decide) ?_
                  cases h
                  exact E_iret d_X11_pourWhy_102 rfl
            · refine E_bipush d_X11_pourWhy_71 (c8 rfl) ?_
              cases h
              exact E_iret d_X11_pourWhy_73 rfl
          · refine E_bipush d_X11_pourWhy_63 (c8 rfl) ?_
            cases h
            exact E_iret d_X11_pourWhy_65 rfl
        · refine E_iconst d_X11_pourWhy_48 (c32 rfl) ?_
          cases h
          exact E_iret d_X11_pourWhy_49 rfl
      · refine E_iconst d_X11_pourWhy_48 (c32 rfl) ?_
        cases h
        exact E_iret d_X11_pourWhy_49 rfl
noncomputable def f_X11_pourWhy (v0 v1 v2 v3 v4 v5 : Int) (σ : Mem) : Option (Int) := if isO Sh 11 v0 = true then f_X11_pourWhy_b0 v0 v1 v2 v3 v4 v5 σ else none
theorem L_X11_pourWhy {o : Int} {v0 v1 v2 v3 v4 v5 : Int} {σ : Mem} (h : f_X11_pourWhy v0 v1 v2 v3 v4 v5 σ = some o) : (isO Sh 11 v0 = true ∧ Cn mt_X11_pourWhy 2 [(2, v0), (0, v1), (0, v2), (0, v3), (0, v4), (0, v5)] Sh σ (some (0, o)) Sh σ) := ⟨(ite_ok h).1, Cn_of mk_X11_pourWhy.1.2.2.1 (Nat.le_of_ble_eq_true rfl) (fun sc => L_X11_pourWhy_b0 (ite_ok h).2)⟩
theorem d_X11_pour_0 : decode mt_X11_pour.2.1 0 = .ok (.aload_n 0, 1) := by decide +kernel
theorem d_X11_pour_1 : decode mt_X11_pour.2.1 1 = .ok (.aload_n 0, 1) := by decide +kernel
theorem d_X11_pour_2 : decode mt_X11_pour.2.1 2 = .ok (.iload_n 1, 1) := by decide +kernel
theorem d_X11_pour_3 : decode mt_X11_pour.2.1 3 = .ok (.iload_n 2, 1) := by decide +kernel
theorem d_X11_pour_4 : decode mt_X11_pour.2.1 4 = .ok (.iload_n 3, 1) := by decide +kernel
theorem d_X11_pour_5 : decode mt_X11_pour.2.1 5 = .ok (.iload 4, 2) := by decide +kernel
theorem d_X11_pour_7 : decode mt_X11_pour.2.1 7 = .ok (.iload 5, 2) := by decide +kernel
theorem d_X11_pour_9 : decode mt_X11_pour.2.1 9 = .ok (.invokevirtual 153, 3) := by decide +kernel
theorem d_X11_pour_12 : decode mt_X11_pour.2.1 12 = .ok (.invokevirtual 132, 3) := by decide +kernel
theorem d_X11_pour_15 : decode mt_X11_pour.2.1 15 = .ok (.ifCond .eq 5, 3) := by decide +kernel
theorem d_X11_pour_18 : decode mt_X11_pour.2.1 18 = .ok (.iconst 0, 1) := by decide +kernel
theorem d_X11_pour_19 : decode mt_X11_pour.2.1 19 = .ok (.ireturn, 1) := by decide +kernel
theorem d_X11_pour_20 : decode mt_X11_pour.2.1 20 = .ok (.aload_n 0, 1) := by decide +kernel
theorem d_X11_pour_21 : decode mt_X11_pour.2.1 21 = .ok (.getfield 11, 3) := by decide +kernel
theorem d_X11_pour_24 : decode mt_X11_pour.2.1 24 = .ok (.iload_n 1, 1) := by decide +kernel
theorem d_X11_pour_25 : decode mt_X11_pour.2.1 25 = .ok (.aaload, 1) := by decide +kernel
theorem d_X11_pour_26 : decode mt_X11_pour.2.1 26 = .ok (.getfield 149, 3) := by decide +kernel
theorem d_X11_pour_29 : decode mt_X11_pour.2.1 29 = .ok (.iload_n 2, 1) := by decide +kernel
theorem d_X11_pour_30 : decode mt_X11_pour.2.1 30 = .ok (.aload_n 0, 1) := by decide +kernel
theorem d_X11_pour_31 : decode mt_X11_pour.2.1 31 = .ok (.getfield 11, 3) := by decide +kernel
theorem d_X11_pour_34 : decode mt_X11_pour.2.1 34 = .ok (.iload_n 3, 1) := by decide +kernel
theorem d_X11_pour_35 : decode mt_X11_pour.2.1 35 = .ok (.aaload, 1) := by decide +kernel
theorem d_X11_pour_36 : decode mt_X11_pour.2.1 36 = .ok (.getfield 149, 3) := by decide +kernel
theorem d_X11_pour_39 : decode mt_X11_pour.2.1 39 = .ok (.iload 4, 2) := by decide +kernel
theorem d_X11_pour_41 : decode mt_X11_pour.2.1 41 = .ok (.iload 5, 2) := by decide +kernel
theorem d_X11_pour_43 : decode mt_X11_pour.2.1 43 = .ok (.invokestatic 157, 3) := by decide +kernel
theorem d_X11_pour_46 : decode mt_X11_pour.2.1 46 = .ok (.iconst 1, 1) := by decide +kernel
theorem d_X11_pour_47 : decode mt_X11_pour.2.1 47 = .ok (.ireturn, 1) := by decide +kernel
noncomputable def f_X11_pour_b0 (v0 v1 v2 v3 v4 v5 : Int) (σ : Mem) : Option (Int × Mem) :=
  (f_X11_pourWhy v0 v1 v2 v3 v4 v5 σ).bind fun r1 =>
  (f_X11_refused v0 r1 σ).bind fun r3 =>
  if r3.1 = 0 then
    (gf Sh r3.2 11 v0 0).bind fun x5 =>
    (al Sh r3.2 38 x5 v1).bind fun x6 =>
    (gf Sh r3.2 8 x6 0).bind fun x7 =>
    (gf Sh r3.2 11 v0 0).bind fun x8 =>
    (al Sh r3.2 38 x8 v3).bind fun x9 =>
    (gf Sh r3.2 8 x9 0).bind fun x10 =>
    (cp Sh r3.2 21 x7 v2 x10 v4 v5).bind fun σ11 =>
    some (1, σ11)
  else
    some (0, r3.2)
theorem L_X11_pour_b0 {sc : Nat × (Nat → Int32)} {o : Int × Mem} {v0 v1 v2 v3 v4 v5 : Int} {σ : Mem} (h : f_X11_pour_b0 v0 v1 v2 v3 v4 v5 σ = some o) : E sc (Fm Sh (some (0, o.1)) Sh o.2) mt_X11_pour 3 Sh Sh 0 [(2, v0), (0, v1), (0, v2), (0, v3), (0, v4), (0, v5)] [] Sh σ := by
  unfold f_X11_pour_b0 at h
  refine E_aload_n d_X11_pour_0 rfl (by decide) ?_
  refine E_aload_n d_X11_pour_1 rfl (by decide) ?_
  refine E_iload_n d_X11_pour_2 rfl ?_
  refine E_iload_n d_X11_pour_3 rfl ?_
  refine E_iload_n d_X11_pour_4 rfl ?_
  refine E_iload d_X11_pour_5 rfl ?_
  refine E_iload d_X11_pour_7 rfl ?_
  refine bd h (fun r1 q2 h => ?_)
  refine E_cV (as := [(0, v1), (0, v2), (0, v3), (0, v4), (0, v5)]) (st := [(2, v0)]) (a := v0) d_X11_pour_9 mk_X11_pourWhy nl_X11_153 (by omega) ⟨rfl, rfl, Nat.le_of_ble_eq_true rfl⟩ okX11 rfl (L_X11_pourWhy q2) ?_
  refine bd h (fun r3 q4 h => ?_)
  refine E_cV (as := [(0, r1)]) (st := []) (a := v0) d_X11_pour_12 mk_X11_refused nl_X11_132 (by omega) ⟨rfl, rfl, Nat.le_of_ble_eq_true rfl⟩ okX11 rfl (L_X11_refused q4) ?_
  refine E_if_eq (tgt := 20) d_X11_pour_15 (by decide) h (fun _ h => ?_) (fun _ h => ?_)
  · refine E_aload_n d_X11_pour_20 rfl (by decide) ?_
    refine E_get d_X11_pour_21 okX11 fl_X11_11 ⟨by decide, rfl⟩ h (fun x5 h => ?_)
    refine E_iload_n d_X11_pour_24 rfl ?_
    refine E_aaload d_X11_pour_25 (Or.inr (Or.inl ⟨rfl, rfl, rfl⟩)) h (fun x6 h => ?_)
    refine E_get d_X11_pour_26 okX8 fl_X11_149 ⟨by decide, rfl⟩ h (fun x7 h => ?_)
    refine E_iload_n d_X11_pour_29 rfl ?_
    refine E_aload_n d_X11_pour_30 rfl (by decide) ?_
    refine E_get d_X11_pour_31 okX11 fl_X11_11 ⟨by decide, rfl⟩ h (fun x8 h => ?_)
    refine E_iload_n d_X11_pour_34 rfl ?_
    refine E_aaload d_X11_pour_35 (Or.inr (Or.inl ⟨rfl, rfl, rfl⟩)) h (fun x9 h => ?_)
    refine E_get d_X11_pour_36 okX8 fl_X11_149 ⟨by decide, rfl⟩ h (fun x10 h => ?_)
    refine E_iload d_X11_pour_39 rfl ?_
    refine E_iload d_X11_pour_41 rfl ?_
    refine E_copy d_X11_pour_43 (cpw nl_X11_157) (by omega) (Nat.le_of_ble_eq_true rfl) (Or.inr (Or.inl ⟨rfl, rfl, rfl⟩)) h (fun σ11 h => ?_)
    refine E_iconst d_X11_pour_46 (c32 rfl) ?_
    cases h
    exact E_zret d_X11_pour_47 rfl (Or.inr rfl)
  · refine E_iconst d_X11_pour_18 (c32 rfl) ?_
    cases h
    exact E_zret d_X11_pour_19 rfl (Or.inl rfl)
noncomputable def f_X11_pour (v0 v1 v2 v3 v4 v5 : Int) (σ : Mem) : Option (Int × Mem) := if isO Sh 11 v0 = true then f_X11_pour_b0 v0 v1 v2 v3 v4 v5 σ else none
theorem L_X11_pour {o : Int × Mem} {v0 v1 v2 v3 v4 v5 : Int} {σ : Mem} (h : f_X11_pour v0 v1 v2 v3 v4 v5 σ = some o) : (isO Sh 11 v0 = true ∧ Cn mt_X11_pour 3 [(2, v0), (0, v1), (0, v2), (0, v3), (0, v4), (0, v5)] Sh σ (some (0, o.1)) Sh o.2) := ⟨(ite_ok h).1, Cn_of mk_X11_pour.1.2.2.1 (Nat.le_of_ble_eq_true rfl) (fun sc => L_X11_pour_b0 (ite_ok h).2)⟩
theorem d_X11_feedInt_0 : decode mt_X11_feedInt.2.1 0 = .ok (.bipush 24, 2) := by decide +kernel
theorem d_X11_feedInt_2 : decode mt_X11_feedInt.2.1 2 = .ok (.istore_n 2, 1) := by decide +kernel
theorem d_X11_feedInt_3 : decode mt_X11_feedInt.2.1 3 = .ok (.iload_n 2, 1) := by decide +kernel
theorem d_X11_feedInt_4 : decode mt_X11_feedInt.2.1 4 = .ok (.ifCond .lt 42, 3) := by decide +kernel
theorem d_X11_feedInt_7 : decode mt_X11_feedInt.2.1 7 = .ok (.aload_n 0, 1) := by decide +kernel
theorem d_X11_feedInt_8 : decode mt_X11_feedInt.2.1 8 = .ok (.getfield 174, 3) := by decide +kernel
theorem d_X11_feedInt_11 : decode mt_X11_feedInt.2.1 11 = .ok (.sipush 900, 3) := by decide +kernel
theorem d_X11_feedInt_14 : decode mt_X11_feedInt.2.1 14 = .ok (.if_icmp .ge 32, 3) := by decide +kernel
theorem d_X11_feedInt_17 : decode mt_X11_feedInt.2.1 17 = .ok (.aload_n 0, 1) := by decide +kernel
theorem d_X11_feedInt_18 : decode mt_X11_feedInt.2.1 18 = .ok (.getfield 15, 3) := by decide +kernel
theorem d_X11_feedInt_21 : decode mt_X11_feedInt.2.1 21 = .ok (.aload_n 0, 1) := by decide +kernel
theorem d_X11_feedInt_22 : decode mt_X11_feedInt.2.1 22 = .ok (.getfield 174, 3) := by decide +kernel
theorem d_X11_feedInt_25 : decode mt_X11_feedInt.2.1 25 = .ok (.iload_n 1, 1) := by decide +kernel
theorem d_X11_feedInt_26 : decode mt_X11_feedInt.2.1 26 = .ok (.iload_n 2, 1) := by decide +kernel
theorem d_X11_feedInt_27 : decode mt_X11_feedInt.2.1 27 = .ok (.ishr, 1) := by decide +kernel
theorem d_X11_feedInt_28 : decode mt_X11_feedInt.2.1 28 = .ok (.i2b, 1) := by decide +kernel
theorem d_X11_feedInt_29 : decode mt_X11_feedInt.2.1 29 = .ok (.bastore, 1) := by decide +kernel
theorem d_X11_feedInt_30 : decode mt_X11_feedInt.2.1 30 = .ok (.aload_n 0, 1) := by decide +kernel
theorem d_X11_feedInt_31 : decode mt_X11_feedInt.2.1 31 = .ok (.dup, 1) := by decide +kernel
theorem d_X11_feedInt_32 : decode mt_X11_feedInt.2.1 32 = .ok (.getfield 174, 3) := by decide +kernel
theorem d_X11_feedInt_35 : decode mt_X11_feedInt.2.1 35 = .ok (.iconst 1, 1) := by decide +kernel
theorem d_X11_feedInt_36 : decode mt_X11_feedInt.2.1 36 = .ok (.iadd, 1) := by decide +kernel
theorem d_X11_feedInt_37 : decode mt_X11_feedInt.2.1 37 = .ok (.putfield 174, 3) := by decide +kernel
theorem d_X11_feedInt_40 : decode mt_X11_feedInt.2.1 40 = .ok (.iinc 2 (-8), 3) := by decide +kernel
theorem d_X11_feedInt_43 : decode mt_X11_feedInt.2.1 43 = .ok (.goto (-40), 3) := by decide +kernel
theorem d_X11_feedInt_46 : decode mt_X11_feedInt.2.1 46 = .ok (.return_, 1) := by decide +kernel
noncomputable def f_X11_feedInt_b3 (k3 : (Int → Int → Int → Mem → Option (Mem))) (v0 v1 v2 : Int) (σ : Mem) : Option (Mem) :=
  if v2 < 0 then
    some σ
  else
    (gf Sh σ 11 v0 16).bind fun x1 =>
    if 900 ≤ x1 then
      some σ
    else
      (gf Sh σ 11 v0 1).bind fun x2 =>
      (gf Sh σ 11 v0 16).bind fun x3 =>
      (st_ Sh σ 22 x2 x3 (w8 (w8 (ishr v1 v2)))).bind fun σ4 =>
      (gf Sh σ4 11 v0 16).bind fun x5 =>
      (pf Sh σ4 11 v0 16 (w32 (x5 + 1))).bind fun σ6 =>
      k3 v0 v1 (w32 (v2 + (-8))) σ6
theorem L_X11_feedInt_b3 {sc : Nat × (Nat → Int32)} {o : Mem} {k3 : (Int → Int → Int → Mem → Option (Mem))} (hk3 : ∀ {v0 v1 v2 : Int} {σ : Mem}, k3 v0 v1 v2 σ = some o → E sc (Fm Sh none Sh o) mt_X11_feedInt 1 Sh Sh 3 [(2, v0), (0, v1), (0, v2)] [] Sh σ) {v0 v1 v2 : Int} {σ : Mem} (h : f_X11_feedInt_b3 k3 v0 v1 v2 σ = some o) : E sc (Fm Sh none Sh o) mt_X11_feedInt 1 Sh Sh 3 [(2, v0), (0, v1), (0, v2)] [] Sh σ := by
  unfold f_X11_feedInt_b3 at h
  refine E_iload_n d_X11_feedInt_3 rfl ?_
  refine E_if_lt (tgt := 46) d_X11_feedInt_4 (by decide) h (fun _ h => ?_) (fun _ h => ?_)
  · cases h
    exact E_vret d_X11_feedInt_46 rfl
  · refine E_aload_n d_X11_feedInt_7 rfl (by decide) ?_
    refine E_get d_X11_feedInt_8 okX11 fl_X11_174 ⟨by decide, rfl⟩ h (fun x1 h => ?_)
    refine E_sipush d_X11_feedInt_11 (c16 rfl) ?_
    refine E_icmp_ge (tgt := 46) d_X11_feedInt_14 (by decide) h (fun _ h => ?_) (fun _ h => ?_)
    · cases h
      exact E_vret d_X11_feedInt_46 rfl
    · refine E_aload_n d_X11_feedInt_17 rfl (by decide) ?_
      refine E_get d_X11_feedInt_18 okX11 fl_X11_15 ⟨by decide, rfl⟩ h (fun x2 h => ?_)
      refine E_aload_n d_X11_feedInt_21 rfl (by decide) ?_
      refine E_get d_X11_feedInt_22 okX11 fl_X11_174 ⟨by decide, rfl⟩ h (fun x3 h => ?_)
      refine E_iload_n d_X11_feedInt_25 rfl ?_
      refine E_iload_n d_X11_feedInt_26 rfl ?_
      refine E_ishr d_X11_feedInt_27 ?_
      refine E_i2b d_X11_feedInt_28 ?_
      refine E_bastore d_X11_feedInt_29 h (fun σ4 h => ?_)
      refine E_aload_n d_X11_feedInt_30 rfl (by decide) ?_
      refine E_dupT d_X11_feedInt_31 (by decide) ?_
      refine E_get d_X11_feedInt_32 okX11 fl_X11_174 ⟨by decide, rfl⟩ h (fun x5 h => ?_)
      refine E_iconst d_X11_feedInt_35 (c32 rfl) ?_
      refine E_iadd d_X11_feedInt_36 ?_
      refine E_put d_X11_feedInt_37 okX11 fl_X11_174 ⟨by decide, rfl⟩ (Or.inl ⟨rfl, rfl⟩) (Or.inl rfl) h (fun σ6 h => ?_)
      refine E_iinc d_X11_feedInt_40 (ls' := [(2, v0), (0, v1), (0, w32 (v2 + (-8)))]) rfl ⟨by decide, rfl⟩ ?_
      refine E_goto (tgt := 3) d_X11_feedInt_43 (by decide) ?_
      exact (hk3 h)
noncomputable def f_X11_feedInt_h3 (n : Nat) : Int → Int → Int → Mem → Option (Mem) := Nat.rec (motive := fun _ => Int → Int → Int → Mem → Option (Mem)) (fun _ _ _ _ => none) (fun _ ih => f_X11_feedInt_b3 (ih)) n
theorem L_X11_feedInt_h3 {sc : Nat × (Nat → Int32)} {o : Mem} : ∀ (n : Nat) {v0 v1 v2 : Int} {σ : Mem}, f_X11_feedInt_h3 n v0 v1 v2 σ = some o → E sc (Fm Sh none Sh o) mt_X11_feedInt 1 Sh Sh 3 [(2, v0), (0, v1), (0, v2)] [] Sh σ := by
  intro n
  induction n with
  | zero => intro v0 v1 v2 σ h; cases h
  | succ n ih => intro v0 v1 v2 σ h; exact L_X11_feedInt_b3 (@ih) h
noncomputable def f_X11_feedInt_b0 (v0 v1 : Int) (σ : Mem) : Option (Mem) :=
  f_X11_feedInt_h3 FU v0 v1 24 σ
theorem L_X11_feedInt_b0 {sc : Nat × (Nat → Int32)} {o : Mem} {v0 v1 : Int} {σ : Mem} (h : f_X11_feedInt_b0 v0 v1 σ = some o) : E sc (Fm Sh none Sh o) mt_X11_feedInt 1 Sh Sh 0 [(2, v0), (0, v1), (9, 0)] [] Sh σ := by
  unfold f_X11_feedInt_b0 at h
  refine E_bipush d_X11_feedInt_0 (c8 rfl) ?_
  refine E_istore_n d_X11_feedInt_2 (ls' := [(2, v0), (0, v1), (0, 24)]) ⟨by decide, rfl⟩ ?_
  exact (L_X11_feedInt_h3 FU h)
noncomputable def f_X11_feedInt (v0 v1 : Int) (σ : Mem) : Option (Mem) := if isO Sh 11 v0 = true then f_X11_feedInt_b0 v0 v1 σ else none
theorem L_X11_feedInt {o : Mem} {v0 v1 : Int} {σ : Mem} (h : f_X11_feedInt v0 v1 σ = some o) : (isO Sh 11 v0 = true ∧ Cn mt_X11_feedInt 1 [(2, v0), (0, v1)] Sh σ none Sh o) := ⟨(ite_ok h).1, Cn_of mk_X11_feedInt.1.2.2.1 (Nat.le_of_ble_eq_true rfl) (fun sc => L_X11_feedInt_b0 (ite_ok h).2)⟩
theorem d_X11_feed_0 : decode mt_X11_feed.2.1 0 = .ok (.aload_n 0, 1) := by decide +kernel
theorem d_X11_feed_1 : decode mt_X11_feed.2.1 1 = .ok (.getfield 174, 3) := by decide +kernel
theorem d_X11_feed_4 : decode mt_X11_feed.2.1 4 = .ok (.bipush 20, 2) := by decide +kernel
theorem d_X11_feed_6 : decode mt_X11_feed.2.1 6 = .ok (.iadd, 1) := by decide +kernel
theorem d_X11_feed_7 : decode mt_X11_feed.2.1 7 = .ok (.sipush 900, 3) := by decide +kernel
theorem d_X11_feed_10 : decode mt_X11_feed.2.1 10 = .ok (.if_icmp .le 5, 3) := by decide +kernel
theorem d_X11_feed_13 : decode mt_X11_feed.2.1 13 = .ok (.iconst (-1), 1) := by decide +kernel
theorem d_X11_feed_14 : decode mt_X11_feed.2.1 14 = .ok (.ireturn, 1) := by decide +kernel
theorem d_X11_feed_15 : decode mt_X11_feed.2.1 15 = .ok (.aload_n 0, 1) := by decide +kernel
theorem d_X11_feed_16 : decode mt_X11_feed.2.1 16 = .ok (.iload_n 1, 1) := by decide +kernel
theorem d_X11_feed_17 : decode mt_X11_feed.2.1 17 = .ok (.invokevirtual 177, 3) := by decide +kernel
theorem d_X11_feed_20 : decode mt_X11_feed.2.1 20 = .ok (.aload_n 0, 1) := by decide +kernel
theorem d_X11_feed_21 : decode mt_X11_feed.2.1 21 = .ok (.iload_n 2, 1) := by decide +kernel
theorem d_X11_feed_22 : decode mt_X11_feed.2.1 22 = .ok (.invokevirtual 177, 3) := by decide +kernel
theorem d_X11_feed_25 : decode mt_X11_feed.2.1 25 = .ok (.aload_n 0, 1) := by decide +kernel
theorem d_X11_feed_26 : decode mt_X11_feed.2.1 26 = .ok (.iload_n 3, 1) := by decide +kernel
theorem d_X11_feed_27 : decode mt_X11_feed.2.1 27 = .ok (.invokevirtual 177, 3) := by decide +kernel
theorem d_X11_feed_30 : decode mt_X11_feed.2.1 30 = .ok (.aload_n 0, 1) := by decide +kernel
theorem d_X11_feed_31 : decode mt_X11_feed.2.1 31 = .ok (.iload 4, 2) := by decide +kernel
theorem d_X11_feed_33 : decode mt_X11_feed.2.1 33 = .ok (.invokevirtual 177, 3) := by decide +kernel
theorem d_X11_feed_36 : decode mt_X11_feed.2.1 36 = .ok (.aload_n 0, 1) := by decide +kernel
theorem d_X11_feed_37 : decode mt_X11_feed.2.1 37 = .ok (.iload 5, 2) := by decide +kernel
theorem d_X11_feed_39 : decode mt_X11_feed.2.1 39 = .ok (.invokevirtual 177, 3) := by decide +kernel
theorem d_X11_feed_42 : decode mt_X11_feed.2.1 42 = .ok (.aload_n 0, 1) := by decide +kernel
theorem d_X11_feed_43 : decode mt_X11_feed.2.1 43 = .ok (.getfield 174, 3) := by decide +kernel
theorem d_X11_feed_46 : decode mt_X11_feed.2.1 46 = .ok (.ireturn, 1) := by decide +kernel
noncomputable def f_X11_feed_b0 (v0 v1 v2 v3 v4 v5 : Int) (σ : Mem) : Option (Int × Mem) :=
  (gf Sh σ 11 v0 16).bind fun x1 =>
  if w32 (x1 + 20) ≤ 900 then
    (f_X11_feedInt v0 v1 σ).bind fun r2 =>
    (f_X11_feedInt v0 v2 r2).bind fun r4 =>
    (f_X11_feedInt v0 v3 r4).bind fun r6 =>
    (f_X11_feedInt v0 v4 r6).bind fun r8 =>
    (f_X11_feedInt v0 v5 r8).bind fun r10 =>
    (gf Sh r10 11 v0 16).bind fun x12 =>
    some (x12, r10)
  else
    some ((-1), σ)
theorem L_X11_feed_b0 {sc : Nat × (Nat → Int32)} {o : Int × Mem} {v0 v1 v2 v3 v4 v5 : Int} {σ : Mem} (h : f_X11_feed_b0 v0 v1 v2 v3 v4 v5 σ = some o) : E sc (Fm Sh (some (0, o.1)) Sh o.2) mt_X11_feed 2 Sh Sh 0 [(2, v0), (0, v1), (0, v2), (0, v3), (0, v4), (0, v5)] [] Sh σ := by
  unfold f_X11_feed_b0 at h
  refine E_aload_n d_X11_feed_0 rfl (by decide) ?_
  refine E_get d_X11_feed_1 okX11 fl_X11_174 ⟨by decide, rfl⟩ h (fun x1 h => ?_)
  refine E_bipush d_X11_feed_4 (c8 rfl) ?_
  refine E_iadd d_X11_feed_6 ?_
  refine E_sipush d_X11_feed_7 (c16 rfl) ?_
  refine E_icmp_le (tgt := 15) d_X11_feed_10 (by decide) h (fun _ h => ?_) (fun _ h => ?_)
  · refine E_aload_n d_X11_feed_15 rfl (by decide) ?_
    refine E_iload_n d_X11_feed_16 rfl ?_
    refine bd h (fun r2 q3 h => ?_)
    refine E_cVv (as := [(0, v1)]) (st := []) (a := v0) d_X11_feed_17 mk_X11_feedInt nl_X11_177 (by omega) ⟨rfl, rfl, Nat.le_of_ble_eq_true rfl⟩ okX11 rfl (L_X11_feedInt q3) ?_
    refine E_aload_n d_X11_feed_20 rfl (by decide) ?_
    refine E_iload_n d_X11_feed_21 rfl ?_
    refine bd h (fun r4 q5 h => ?_)
    refine E_cVv (as := [(0, v2)]) (st := []) (a := v0) d_X11_feed_22 mk_X11_feedInt nl_X11_177 (by omega) ⟨rfl, rfl, Nat.le_of_ble_eq_true rfl⟩ okX11 rfl (L_X11_feedInt q5) ?_
    refine E_aload_n d_X11_feed_25 rfl (by decide) ?_
    refine E_iload_n d_X11_feed_26 rfl ?_
    refine bd h (fun r6 q7 h => ?_)
    refine E_cVv (as := [(0, v3)]) (st := []) (a := v0) d_X11_feed_27 mk_X11_feedInt nl_X11_177 (by omega) ⟨rfl, rfl, Nat.le_of_ble_eq_true rfl⟩ okX11 rfl (L_X11_feedInt q7) ?_
    refine E_aload_n d_X11_feed_30 rfl (by decide) ?_
    refine E_iload d_X11_feed_31 rfl ?_
    refine bd h (fun r8 q9 h => ?_)
    refine E_cVv (as := [(0, v4)]) (st := []) (a := v0) d_X11_feed_33 mk_X11_feedInt nl_X11_177 (by omega) ⟨rfl, rfl, Nat.le_of_ble_eq_true rfl⟩ okX11 rfl (L_X11_feedInt q9) ?_
    refine E_aload_n d_X11_feed_36 rfl (by decide) ?_
    refine E_iload d_X11_feed_37 rfl ?_
    refine bd h (fun r10 q11 h => ?_)
    refine E_cVv (as := [(0, v5)]) (st := []) (a := v0) d_X11_feed_39 mk_X11_feedInt nl_X11_177 (by omega) ⟨rfl, rfl, Nat.le_of_ble_eq_true rfl⟩ okX11 rfl (L_X11_feedInt q11) ?_
    refine E_aload_n d_X11_feed_42 rfl (by decide) ?_
    refine E_get d_X11_feed_43 okX11 fl_X11_174 ⟨by decide, rfl⟩ h (fun x12 h => ?_)
    cases h
    exact E_iret d_X11_feed_46 rfl
  · refine E_iconst d_X11_feed_13 (c32 rfl) ?_
    cases h
    exact E_iret d_X11_feed_14 rfl
noncomputable def f_X11_feed (v0 v1 v2 v3 v4 v5 : Int) (σ : Mem) : Option (Int × Mem) := if isO Sh 11 v0 = true then f_X11_feed_b0 v0 v1 v2 v3 v4 v5 σ else none
theorem L_X11_feed {o : Int × Mem} {v0 v1 v2 v3 v4 v5 : Int} {σ : Mem} (h : f_X11_feed v0 v1 v2 v3 v4 v5 σ = some o) : (isO Sh 11 v0 = true ∧ Cn mt_X11_feed 2 [(2, v0), (0, v1), (0, v2), (0, v3), (0, v4), (0, v5)] Sh σ (some (0, o.1)) Sh o.2) := ⟨(ite_ok h).1, Cn_of mk_X11_feed.1.2.2.1 (Nat.le_of_ble_eq_true rfl) (fun sc => L_X11_feed_b0 (ite_ok h).2)⟩
theorem d_X11_wall_0 : decode mt_X11_wall.2.1 0 = .ok (.aload_n 0, 1) := by decide +kernel
theorem d_X11_wall_1 : decode mt_X11_wall.2.1 1 = .ok (.iload_n 1, 1) := by decide +kernel
theorem d_X11_wall_2 : decode mt_X11_wall.2.1 2 = .ok (.ifCond .lt 11, 3) := by decide +kernel
theorem d_X11_wall_5 : decode mt_X11_wall.2.1 5 = .ok (.iload_n 1, 1) := by decide +kernel
theorem d_X11_wall_6 : decode mt_X11_wall.2.1 6 = .ok (.aload_n 0, 1) := by decide +kernel
theorem d_X11_wall_7 : decode mt_X11_wall.2.1 7 = .ok (.getfield 174, 3) := by decide +kernel
theorem d_X11_wall_10 : decode mt_X11_wall.2.1 10 = .ok (.if_icmp .le 7, 3) := by decide +kernel
theorem d_X11_wall_13 : decode mt_X11_wall.2.1 13 = .ok (.iconst 5, 1) := by decide +kernel
theorem d_X11_wall_14 : decode mt_X11_wall.2.1 14 = .ok (.goto 4, 3) := by decide +kernel
theorem d_X11_wall_17 : decode mt_X11_wall.2.1 17 = .ok (.iconst 0, 1) := by decide +kernel
theorem d_X11_wall_18 : decode mt_X11_wall.2.1 18 = .ok (.invokevirtual 132, 3) := by decide +kernel
theorem d_X11_wall_21 : decode mt_X11_wall.2.1 21 = .ok (.ifCond .eq 5, 3) := by decide +kernel
theorem d_X11_wall_24 : decode mt_X11_wall.2.1 24 = .ok (.iconst (-1), 1) := by decide +kernel
theorem d_X11_wall_25 : decode mt_X11_wall.2.1 25 = .ok (.ireturn, 1) := by decide +kernel
theorem d_X11_wall_26 : decode mt_X11_wall.2.1 26 = .ok (.aload_n 0, 1) := by decide +kernel
theorem d_X11_wall_27 : decode mt_X11_wall.2.1 27 = .ok (.iconst 0, 1) := by decide +kernel
theorem d_X11_wall_28 : decode mt_X11_wall.2.1 28 = .ok (.putfield 174, 3) := by decide +kernel
theorem d_X11_wall_31 : decode mt_X11_wall.2.1 31 = .ok (.aload_n 0, 1) := by decide +kernel
theorem d_X11_wall_32 : decode mt_X11_wall.2.1 32 = .ok (.getfield 24, 3) := by decide +kernel
theorem d_X11_wall_35 : decode mt_X11_wall.2.1 35 = .ok (.iload_n 1, 1) := by decide +kernel
theorem d_X11_wall_36 : decode mt_X11_wall.2.1 36 = .ok (.invokevirtual 181, 3) := by decide +kernel
theorem d_X11_wall_39 : decode mt_X11_wall.2.1 39 = .ok (.aload_n 0, 1) := by decide +kernel
theorem d_X11_wall_40 : decode mt_X11_wall.2.1 40 = .ok (.aload_n 0, 1) := by decide +kernel
theorem d_X11_wall_41 : decode mt_X11_wall.2.1 41 = .ok (.getfield 47, 3) := by decide +kernel
theorem d_X11_wall_44 : decode mt_X11_wall.2.1 44 = .ok (.invokevirtual 184, 3) := by decide +kernel
theorem d_X11_wall_47 : decode mt_X11_wall.2.1 47 = .ok (.ifCond .eq 7, 3) := by decide +kernel
theorem d_X11_wall_50 : decode mt_X11_wall.2.1 50 = .ok (.iconst 0, 1) := by decide +kernel
theorem d_X11_wall_51 : decode mt_X11_wall.2.1 51 = .ok (.goto 5, 3) := by decide +kernel
theorem d_X11_wall_54 : decode mt_X11_wall.2.1 54 = .ok (.bipush 10, 2) := by decide +kernel
theorem d_X11_wall_56 : decode mt_X11_wall.2.1 56 = .ok (.invokevirtual 132, 3) := by decide +kernel
theorem d_X11_wall_59 : decode mt_X11_wall.2.1 59 = .ok (.ifCond .eq 5, 3) := by decide +kernel
theorem d_X11_wall_62 : decode mt_X11_wall.2.1 62 = .ok (.iconst (-1), 1) := by decide +kernel
theorem d_X11_wall_63 : decode mt_X11_wall.2.1 63 = .ok (.ireturn, 1) := by decide +kernel
theorem d_X11_wall_64 : decode mt_X11_wall.2.1 64 = .ok (.aload_n 0, 1) := by decide +kernel
theorem d_X11_wall_65 : decode mt_X11_wall.2.1 65 = .ok (.getfield 31, 3) := by decide +kernel
theorem d_X11_wall_68 : decode mt_X11_wall.2.1 68 = .ok (.aload_n 0, 1) := by decide +kernel
theorem d_X11_wall_69 : decode mt_X11_wall.2.1 69 = .ok (.getfield 47, 3) := by decide +kernel
theorem d_X11_wall_72 : decode mt_X11_wall.2.1 72 = .ok (.getfield 187, 3) := by decide +kernel
theorem d_X11_wall_75 : decode mt_X11_wall.2.1 75 = .ok (.invokevirtual 190, 3) := by decide +kernel
theorem d_X11_wall_78 : decode mt_X11_wall.2.1 78 = .ok (.aload_n 0, 1) := by decide +kernel
theorem d_X11_wall_79 : decode mt_X11_wall.2.1 79 = .ok (.getfield 38, 3) := by decide +kernel
theorem d_X11_wall_82 : decode mt_X11_wall.2.1 82 = .ok (.invokevirtual 193, 3) := by decide +kernel
theorem d_X11_wall_85 : decode mt_X11_wall.2.1 85 = .ok (.aload_n 0, 1) := by decide +kernel
theorem d_X11_wall_86 : decode mt_X11_wall.2.1 86 = .ok (.getfield 31, 3) := by decide +kernel
theorem d_X11_wall_89 : decode mt_X11_wall.2.1 89 = .ok (.getfield 196, 3) := by decide +kernel
theorem d_X11_wall_92 : decode mt_X11_wall.2.1 92 = .ok (.ireturn, 1) := by decide +kernel
noncomputable def f_X11_wall_b56 (v0 s0 s1 : Int) (σ : Mem) : Option (Int × Mem) :=
  (f_X11_refused s1 s0 σ).bind fun r11 =>
  if r11.1 = 0 then
    (gf Sh r11.2 11 v0 3).bind fun x13 =>
    (gf Sh r11.2 11 v0 5).bind fun x14 =>
    (gf Sh r11.2 10 x14 1).bind fun x15 =>
    (f_X9_copyFrom x13 x15 r11.2).bind fun r16 =>
    (gf Sh r16 11 v0 4).bind fun x18 =>
    (f_X5_forget x18 r16).bind fun r19 =>
    (gf Sh r19 11 v0 3).bind fun x21 =>
    (gf Sh r19 9 x21 0).bind fun x22 =>
    some (x22, r19)
  else
    some ((-1), r11.2)
theorem L_X11_wall_b56 {sc : Nat × (Nat → Int32)} {o : Int × Mem} {v0 s0 s1 : Int} {σ : Mem} (h : f_X11_wall_b56 v0 s0 s1 σ = some o) : E sc (Fm Sh (some (0, o.1)) Sh o.2) mt_X11_wall 8 Sh Sh 56 [(2, v0), (9, 0)] [(0, s0), (2, s1)] Sh σ := by
  unfold f_X11_wall_b56 at h
  refine bd h (fun r11 q12 h => ?_)
  refine E_cV (as := [(0, s0)]) (st := []) (a := s1) d_X11_wall_56 mk_X11_refused nl_X11_132 (by omega) ⟨rfl, rfl, Nat.le_of_ble_eq_true rfl⟩ okX11 rfl (L_X11_refused q12) ?_
  refine E_if_eq (tgt := 64) d_X11_wall_59 (by decide) h (fun _ h => ?_) (fun _ h => ?_)
  · refine E_aload_n d_X11_wall_64 rfl (by decide) ?_
    refine E_get d_X11_wall_65 okX11 fl_X11_31 ⟨by decide, rfl⟩ h (fun x13 h => ?_)
    refine E_aload_n d_X11_wall_68 rfl (by decide) ?_
    refine E_get d_X11_wall_69 okX11 fl_X11_47 ⟨by decide, rfl⟩ h (fun x14 h => ?_)
    refine E_get d_X11_wall_72 okX10 fl_X11_187 ⟨by decide, rfl⟩ h (fun x15 h => ?_)
    refine bd h (fun r16 q17 h => ?_)
    refine E_cVv (as := [(2, x15)]) (st := []) (a := x13) d_X11_wall_75 mk_X9_copyFrom nl_X11_190 (by omega) ⟨rfl, rfl, Nat.le_of_ble_eq_true rfl⟩ okX9 rfl (L_X9_copyFrom q17) ?_
    refine E_aload_n d_X11_wall_78 rfl (by decide) ?_
    refine E_get d_X11_wall_79 okX11 fl_X11_38 ⟨by decide, rfl⟩ h (fun x18 h => ?_)
    refine bd h (fun r19 q20 h => ?_)
    refine E_cVv (as := []) (st := []) (a := x18) d_X11_wall_82 mk_X5_forget nl_X11_193 (by omega) ⟨rfl, rfl, Nat.le_of_ble_eq_true rfl⟩ okX5 rfl (L_X5_forget q20) ?_
    refine E_aload_n d_X11_wall_85 rfl (by decide) ?_
    refine E_get d_X11_wall_86 okX11 fl_X11_31 ⟨by decide, rfl⟩ h (fun x21 h => ?_)
    refine E_get d_X11_wall_89 okX9 fl_X11_196 ⟨by decide, rfl⟩ h (fun x22 h => ?_)
    cases h
    exact E_iret d_X11_wall_92 rfl
  · refine E_iconst d_X11_wall_62 (c32 rfl) ?_
    cases h
    exact E_iret d_X11_wall_63 rfl
noncomputable def f_X11_wall_b18 (v0 v1 s0 s1 : Int) (σ : Mem) : Option (Int × Mem) :=
  (f_X11_refused s1 s0 σ).bind fun r2 =>
  if r2.1 = 0 then
    (pf Sh r2.2 11 v0 16 0).bind fun σ4 =>
    (gf Sh σ4 11 v0 2).bind fun x5 =>
    (f_X7_begin x5 v1 σ4).bind fun r6 =>
    (gf Sh r6 11 v0 5).bind fun x8 =>
    (f_X10_reads x8 r6).bind fun r9 =>
    if r9.1 = 0 then
      f_X11_wall_b56 v0 10 v0 r9.2
    else
      f_X11_wall_b56 v0 0 v0 r9.2
  else
    some ((-1), r2.2)
theorem L_X11_wall_b18 {sc : Nat × (Nat → Int32)} {o : Int × Mem} {v0 v1 s0 s1 : Int} {σ : Mem} (h : f_X11_wall_b18 v0 v1 s0 s1 σ = some o) : E sc (Fm Sh (some (0, o.1)) Sh o.2) mt_X11_wall 8 Sh Sh 18 [(2, v0), (0, v1)] [(0, s0), (2, s1)] Sh σ := by
  unfold f_X11_wall_b18 at h
  refine bd h (fun r2 q3 h => ?_)
  refine E_cV (as := [(0, s0)]) (st := []) (a := s1) d_X11_wall_18 mk_X11_refused nl_X11_132 (by omega) ⟨rfl, rfl, Nat.le_of_ble_eq_true rfl⟩ okX11 rfl (L_X11_refused q3) ?_
  refine E_if_eq (tgt := 26) d_X11_wall_21 (by decide) h (fun _ h => ?_) (fun _ h => ?_)
  · refine E_aload_n d_X11_wall_26 rfl (by decide) ?_
    refine E_iconst d_X11_wall_27 (c32 rfl) ?_
    refine E_put d_X11_wall_28 okX11 fl_X11_174 ⟨by decide, rfl⟩ (Or.inl ⟨rfl, rfl⟩) (Or.inl rfl) h (fun σ4 h => ?_)
    refine E_aload_n d_X11_wall_31 rfl (by decide) ?_
    refine E_get d_X11_wall_32 okX11 fl_X11_24 ⟨by decide, rfl⟩ h (fun x5 h => ?_)
    refine E_iload_n d_X11_wall_35 rfl ?_
    refine bd h (fun r6 q7 h => ?_)
    refine E_cVv (as := [(0, v1)]) (st := []) (a := x5) d_X11_wall_36 mk_X7_begin nl_X11_181 (by omega) ⟨rfl, rfl, Nat.le_of_ble_eq_true rfl⟩ okX7 rfl (L_X7_begin q7) ?_
    refine E_aload_n d_X11_wall_39 rfl (by decide) ?_
    refine E_aload_n d_X11_wall_40 rfl (by decide) ?_
    refine E_get d_X11_wall_41 okX11 fl_X11_47 ⟨by decide, rfl⟩ h (fun x8 h => ?_)
    refine bd h (fun r9 q10 h => ?_)
    refine E_cV (as := []) (st := [(2, v0)]) (a := x8) d_X11_wall_44 mk_X10_reads nl_X11_184 (by omega) ⟨rfl, rfl, Nat.le_of_ble_eq_true rfl⟩ okX10 rfl (L_X10_reads q10) ?_
    refine E_if_eq (tgt := 54) d_X11_wall_47 (by decide) h (fun _ h => ?_) (fun _ h => ?_)
    · refine E_bipush d_X11_wall_54 (c8 rfl) ?_
      exact E_weak (ls' := [(2, v0), (9, 0)]) ⟨Or.inr rfl, Or.inl rfl, trivial⟩ (L_X11_wall_b56 h)
    · refine E_iconst d_X11_wall_50 (c32 rfl) ?_
      refine E_goto (tgt := 56) d_X11_wall_51 (by decide) ?_
      exact E_weak (ls' := [(2, v0), (9, 0)]) ⟨Or.inr rfl, Or.inl rfl, trivial⟩ (L_X11_wall_b56 h)
  · refine E_iconst d_X11_wall_24 (c32 rfl) ?_
    cases h
    exact E_iret d_X11_wall_25 rfl
noncomputable def f_X11_wall_b13 (v0 v1 s0 : Int) (σ : Mem) : Option (Int × Mem) :=
  f_X11_wall_b18 v0 v1 5 s0 σ
theorem L_X11_wall_b13 {sc : Nat × (Nat → Int32)} {o : Int × Mem} {v0 v1 s0 : Int} {σ : Mem} (h : f_X11_wall_b13 v0 v1 s0 σ = some o) : E sc (Fm Sh (some (0, o.1)) Sh o.2) mt_X11_wall 8 Sh Sh 13 [(2, v0), (0, v1)] [(2, s0)] Sh σ := by
  unfold f_X11_wall_b13 at h
  refine E_iconst d_X11_wall_13 (c32 rfl) ?_
  refine E_goto (tgt := 18) d_X11_wall_14 (by decide) ?_
  exact (L_X11_wall_b18 h)
noncomputable def f_X11_wall_b0 (v0 v1 : Int) (σ : Mem) : Option (Int × Mem) :=
  if v1 < 0 then
    f_X11_wall_b13 v0 v1 v0 σ
  else
    (gf Sh σ 11 v0 16).bind fun x1 =>
    if v1 ≤ x1 then
      f_X11_wall_b18 v0 v1 0 v0 σ
    else
      f_X11_wall_b13 v0 v1 v0 σ
theorem L_X11_wall_b0 {sc : Nat × (Nat → Int32)} {o : Int × Mem} {v0 v1 : Int} {σ : Mem} (h : f_X11_wall_b0 v0 v1 σ = some o) : E sc (Fm Sh (some (0, o.1)) Sh o.2) mt_X11_wall 8 Sh Sh 0 [(2, v0), (0, v1)] [] Sh σ := by
  unfold f_X11_wall_b0 at h
  refine E_aload_n d_X11_wall_0 rfl (by decide) ?_
  refine E_iload_n d_X11_wall_1 rfl ?_
  refine E_if_lt (tgt := 13) d_X11_wall_2 (by decide) h (fun _ h => ?_) (fun _ h => ?_)
  · exact (L_X11_wall_b13 h)
  · refine E_iload_n d_X11_wall_5 rfl ?_
    refine E_aload_n d_X11_wall_6 rfl (by decide) ?_
    refine E_get d_X11_wall_7 okX11 fl_X11_174 ⟨by decide, rfl⟩ h (fun x1 h => ?_)
    refine E_icmp_le (tgt := 17) d_X11_wall_10 (by decide) h (fun _ h => ?_) (fun _ h => ?_)
    · refine E_iconst d_X11_wall_17 (c32 rfl) ?_
      exact (L_X11_wall_b18 h)
    · exact (L_X11_wall_b13 h)
noncomputable def f_X11_wall (v0 v1 : Int) (σ : Mem) : Option (Int × Mem) := if isO Sh 11 v0 = true then f_X11_wall_b0 v0 v1 σ else none
theorem L_X11_wall {o : Int × Mem} {v0 v1 : Int} {σ : Mem} (h : f_X11_wall v0 v1 σ = some o) : (isO Sh 11 v0 = true ∧ Cn mt_X11_wall 8 [(2, v0), (0, v1)] Sh σ (some (0, o.1)) Sh o.2) := ⟨(ite_ok h).1, Cn_of mk_X11_wall.1.2.2.1 (Nat.le_of_ble_eq_true rfl) (fun sc => L_X11_wall_b0 (ite_ok h).2)⟩
theorem d_X11_terms_0 : decode mt_X11_terms.2.1 0 = .ok (.aload_n 0, 1) := by decide +kernel
theorem d_X11_terms_1 : decode mt_X11_terms.2.1 1 = .ok (.iload_n 1, 1) := by decide +kernel
theorem d_X11_terms_2 : decode mt_X11_terms.2.1 2 = .ok (.ifCond .lt 18, 3) := by decide +kernel
theorem d_X11_terms_5 : decode mt_X11_terms.2.1 5 = .ok (.iload_n 1, 1) := by decide +kernel
theorem d_X11_terms_6 : decode mt_X11_terms.2.1 6 = .ok (.aload_n 0, 1) := by decide +kernel
theorem d_X11_terms_7 : decode mt_X11_terms.2.1 7 = .ok (.getfield 174, 3) := by decide +kernel
theorem d_X11_terms_10 : decode mt_X11_terms.2.1 10 = .ok (.if_icmp .gt 10, 3) := by decide +kernel
theorem d_X11_terms_13 : decode mt_X11_terms.2.1 13 = .ok (.iload_n 1, 1) := by decide +kernel
theorem d_X11_terms_14 : decode mt_X11_terms.2.1 14 = .ok (.sipush 300, 3) := by decide +kernel
theorem d_X11_terms_17 : decode mt_X11_terms.2.1 17 = .ok (.if_icmp .le 7, 3) := by decide +kernel
theorem d_X11_terms_20 : decode mt_X11_terms.2.1 20 = .ok (.iconst 5, 1) := by decide +kernel
theorem d_X11_terms_21 : decode mt_X11_terms.2.1 21 = .ok (.goto 4, 3) := by decide +kernel
theorem d_X11_terms_24 : decode mt_X11_terms.2.1 24 = .ok (.iconst 0, 1) := by decide +kernel
theorem d_X11_terms_25 : decode mt_X11_terms.2.1 25 = .ok (.invokevirtual 132, 3) := by decide +kernel
theorem d_X11_terms_28 : decode mt_X11_terms.2.1 28 = .ok (.ifCond .eq 5, 3) := by decide +kernel
theorem d_X11_terms_31 : decode mt_X11_terms.2.1 31 = .ok (.iconst (-1), 1) := by decide +kernel
theorem d_X11_terms_32 : decode mt_X11_terms.2.1 32 = .ok (.ireturn, 1) := by decide +kernel
theorem d_X11_terms_33 : decode mt_X11_terms.2.1 33 = .ok (.aload_n 0, 1) := by decide +kernel
theorem d_X11_terms_34 : decode mt_X11_terms.2.1 34 = .ok (.iconst 0, 1) := by decide +kernel
theorem d_X11_terms_35 : decode mt_X11_terms.2.1 35 = .ok (.putfield 174, 3) := by decide +kernel
theorem d_X11_terms_38 : decode mt_X11_terms.2.1 38 = .ok (.aload_n 0, 1) := by decide +kernel
theorem d_X11_terms_39 : decode mt_X11_terms.2.1 39 = .ok (.getfield 24, 3) := by decide +kernel
theorem d_X11_terms_42 : decode mt_X11_terms.2.1 42 = .ok (.iload_n 1, 1) := by decide +kernel
theorem d_X11_terms_43 : decode mt_X11_terms.2.1 43 = .ok (.invokevirtual 181, 3) := by decide +kernel
theorem d_X11_terms_46 : decode mt_X11_terms.2.1 46 = .ok (.aload_n 0, 1) := by decide +kernel
theorem d_X11_terms_47 : decode mt_X11_terms.2.1 47 = .ok (.aload_n 0, 1) := by decide +kernel
theorem d_X11_terms_48 : decode mt_X11_terms.2.1 48 = .ok (.getfield 56, 3) := by decide +kernel
theorem d_X11_terms_51 : decode mt_X11_terms.2.1 51 = .ok (.invokevirtual 199, 3) := by decide +kernel
theorem d_X11_terms_54 : decode mt_X11_terms.2.1 54 = .ok (.ifCond .eq 7, 3) := by decide +kernel
theorem d_X11_terms_57 : decode mt_X11_terms.2.1 57 = .ok (.iconst 0, 1) := by decide +kernel
theorem d_X11_terms_58 : decode mt_X11_terms.2.1 58 = .ok (.goto 5, 3) := by decide +kernel
theorem d_X11_terms_61 : decode mt_X11_terms.2.1 61 = .ok (.bipush 10, 2) := by decide +kernel
theorem d_X11_terms_63 : decode mt_X11_terms.2.1 63 = .ok (.invokevirtual 132, 3) := by decide +kernel
theorem d_X11_terms_66 : decode mt_X11_terms.2.1 66 = .ok (.ifCond .eq 5, 3) := by decide +kernel
theorem d_X11_terms_69 : decode mt_X11_terms.2.1 69 = .ok (.iconst (-1), 1) := by decide +kernel
theorem d_X11_terms_70 : decode mt_X11_terms.2.1 70 = .ok (.ireturn, 1) := by decide +kernel
theorem d_X11_terms_71 : decode mt_X11_terms.2.1 71 = .ok (.aload_n 0, 1) := by decide +kernel
theorem d_X11_terms_72 : decode mt_X11_terms.2.1 72 = .ok (.getfield 38, 3) := by decide +kernel
theorem d_X11_terms_75 : decode mt_X11_terms.2.1 75 = .ok (.aload_n 0, 1) := by decide +kernel
theorem d_X11_terms_76 : decode mt_X11_terms.2.1 76 = .ok (.getfield 56, 3) := by decide +kernel
theorem d_X11_terms_79 : decode mt_X11_terms.2.1 79 = .ok (.getfield 200, 3) := by decide +kernel
theorem d_X11_terms_82 : decode mt_X11_terms.2.1 82 = .ok (.invokevirtual 202, 3) := by decide +kernel
theorem d_X11_terms_85 : decode mt_X11_terms.2.1 85 = .ok (.aload_n 0, 1) := by decide +kernel
theorem d_X11_terms_86 : decode mt_X11_terms.2.1 86 = .ok (.getfield 38, 3) := by decide +kernel
theorem d_X11_terms_89 : decode mt_X11_terms.2.1 89 = .ok (.getfield 205, 3) := by decide +kernel
theorem d_X11_terms_92 : decode mt_X11_terms.2.1 92 = .ok (.ireturn, 1) := by decide +kernel
noncomputable def f_X11_terms_b63 (v0 s0 s1 : Int) (σ : Mem) : Option (Int × Mem) :=
  (f_X11_refused s1 s0 σ).bind fun r11 =>
  if r11.1 = 0 then
    (gf Sh r11.2 11 v0 4).bind fun x13 =>
    (gf Sh r11.2 11 v0 6).bind fun x14 =>
    (gf Sh r11.2 6 x14 2).bind fun x15 =>
    (f_X5_copyFrom x13 x15 r11.2).bind fun r16 =>
    (gf Sh r16 11 v0 4).bind fun x18 =>
    (gf Sh r16 5 x18 1).bind fun x19 =>
    some (x19, r16)
  else
    some ((-1), r11.2)
theorem L_X11_terms_b63 {sc : Nat × (Nat → Int32)} {o : Int × Mem} {v0 s0 s1 : Int} {σ : Mem} (h : f_X11_terms_b63 v0 s0 s1 σ = some o) : E sc (Fm Sh (some (0, o.1)) Sh o.2) mt_X11_terms 8 Sh Sh 63 [(2, v0), (9, 0)] [(0, s0), (2, s1)] Sh σ := by
  unfold f_X11_terms_b63 at h
  refine bd h (fun r11 q12 h => ?_)
  refine E_cV (as := [(0, s0)]) (st := []) (a := s1) d_X11_terms_63 mk_X11_refused nl_X11_132 (by omega) ⟨rfl, rfl, Nat.le_of_ble_eq_true rfl⟩ okX11 rfl (L_X11_refused q12) ?_
  refine E_if_eq (tgt := 71) d_X11_terms_66 (by decide) h (fun _ h => ?_) (fun _ h => ?_)
  · refine E_aload_n d_X11_terms_71 rfl (by decide) ?_
    refine E_get d_X11_terms_72 okX11 fl_X11_38 ⟨by decide, rfl⟩ h (fun x13 h => ?_)
    refine E_aload_n d_X11_terms_75 rfl (by decide) ?_
    refine E_get d_X11_terms_76 okX11 fl_X11_56 ⟨by decide, rfl⟩ h (fun x14 h => ?_)
    refine E_get d_X11_terms_79 okX6 fl_X11_200 ⟨by decide, rfl⟩ h (fun x15 h => ?_)
    refine bd h (fun r16 q17 h => ?_)
    refine E_cVv (as := [(2, x15)]) (st := []) (a := x13) d_X11_terms_82 mk_X5_copyFrom nl_X11_202 (by omega) ⟨rfl, rfl, Nat.le_of_ble_eq_true rfl⟩ okX5 rfl (L_X5_copyFrom q17) ?_
    refine E_aload_n d_X11_terms_85 rfl (by decide) ?_
    refine E_get d_X11_terms_86 okX11 fl_X11_38 ⟨by decide, rfl⟩ h (fun x18 h => ?_)
    refine E_get d_X11_terms_89 okX5 fl_X11_205 ⟨by decide, rfl⟩ h (fun x19 h => ?_)
    cases h
    exact E_iret d_X11_terms_92 rfl
  · refine E_iconst d_X11_terms_69 (c32 rfl) ?_
    cases h
    exact E_iret d_X11_terms_70 rfl
noncomputable def f_X11_terms_b25 (v0 v1 s0 s1 : Int) (σ : Mem) : Option (Int × Mem) :=
  (f_X11_refused s1 s0 σ).bind fun r2 =>
  if r2.1 = 0 then
    (pf Sh r2.2 11 v0 16 0).bind fun σ4 =>
    (gf Sh σ4 11 v0 2).bind fun x5 =>
    (f_X7_begin x5 v1 σ4).bind fun r6 =>
    (gf Sh r6 11 v0 6).bind fun x8 =>
    (f_X6_reads x8 r6).bind fun r9 =>
    if r9.1 = 0 then
      f_X11_terms_b63 v0 10 v0 r9.2
    else
      f_X11_terms_b63 v0 0 v0 r9.2
  else
    some ((-1), r2.2)
theorem L_X11_terms_b25 {sc : Nat × (Nat → Int32)} {o : Int × Mem} {v0 v1 s0 s1 : Int} {σ : Mem} (h : f_X11_terms_b25 v0 v1 s0 s1 σ = some o) : E sc (Fm Sh (some (0, o.1)) Sh o.2) mt_X11_terms 8 Sh Sh 25 [(2, v0), (0, v1)] [(0, s0), (2, s1)] Sh σ := by
  unfold f_X11_terms_b25 at h
  refine bd h (fun r2 q3 h => ?_)
  refine E_cV (as := [(0, s0)]) (st := []) (a := s1) d_X11_terms_25 mk_X11_refused nl_X11_132 (by omega) ⟨rfl, rfl, Nat.le_of_ble_eq_true rfl⟩ okX11 rfl (L_X11_refused q3) ?_
  refine E_if_eq (tgt := 33) d_X11_terms_28 (by decide) h (fun _ h => ?_) (fun _ h => ?_)
  · refine E_aload_n d_X11_terms_33 rfl (by decide) ?_
    refine E_iconst d_X11_terms_34 (c32 rfl) ?_
    refine E_put d_X11_terms_35 okX11 fl_X11_174 ⟨by decide, rfl⟩ (Or.inl ⟨rfl, rfl⟩) (Or.inl rfl) h (fun σ4 h => ?_)
    refine E_aload_n d_X11_terms_38 rfl (by decide) ?_
    refine E_get d_X11_terms_39 okX11 fl_X11_24 ⟨by decide, rfl⟩ h (fun x5 h => ?_)
    refine E_iload_n d_X11_terms_42 rfl ?_
    refine bd h (fun r6 q7 h => ?_)
    refine E_cVv (as := [(0, v1)]) (st := []) (a := x5) d_X11_terms_43 mk_X7_begin nl_X11_181 (by omega) ⟨rfl, rfl, Nat.le_of_ble_eq_true rfl⟩ okX7 rfl (L_X7_begin q7) ?_
    refine E_aload_n d_X11_terms_46 rfl (by decide) ?_
    refine E_aload_n d_X11_terms_47 rfl (by decide) ?_
    refine E_get d_X11_terms_48 okX11 fl_X11_56 ⟨by decide, rfl⟩ h (fun x8 h => ?_)
    refine bd h (fun r9 q10 h => ?_)
    refine E_cV (as := []) (st := [(2, v0)]) (a := x8) d_X11_terms_51 mk_X6_reads nl_X11_199 (by omega) ⟨rfl, rfl, Nat.le_of_ble_eq_true rfl⟩ okX6 rfl (L_X6_reads q10) ?_
    refine E_if_eq (tgt := 61) d_X11_terms_54 (by decide) h (fun _ h => ?_) (fun _ h => ?_)
    · refine E_bipush d_X11_terms_61 (c8 rfl) ?_
      exact E_weak (ls' := [(2, v0), (9, 0)]) ⟨Or.inr rfl, Or.inl rfl, trivial⟩ (L_X11_terms_b63 h)
    · refine E_iconst d_X11_terms_57 (c32 rfl) ?_
      refine E_goto (tgt := 63) d_X11_terms_58 (by decide) ?_
      exact E_weak (ls' := [(2, v0), (9, 0)]) ⟨Or.inr rfl, Or.inl rfl, trivial⟩ (L_X11_terms_b63 h)
  · refine E_iconst d_X11_terms_31 (c32 rfl) ?_
    cases h
    exact E_iret d_X11_terms_32 rfl
noncomputable def f_X11_terms_b20 (v0 v1 s0 : Int) (σ : Mem) : Option (Int × Mem) :=
  f_X11_terms_b25 v0 v1 5 s0 σ
theorem L_X11_terms_b20 {sc : Nat × (Nat → Int32)} {o : Int × Mem} {v0 v1 s0 : Int} {σ : Mem} (h : f_X11_terms_b20 v0 v1 s0 σ = some o) : E sc (Fm Sh (some (0, o.1)) Sh o.2) mt_X11_terms 8 Sh Sh 20 [(2, v0), (0, v1)] [(2, s0)] Sh σ := by
  unfold f_X11_terms_b20 at h
  refine E_iconst d_X11_terms_20 (c32 rfl) ?_
  refine E_goto (tgt := 25) d_X11_terms_21 (by decide) ?_
  exact (L_X11_terms_b25 h)
noncomputable def f_X11_terms_b0 (v0 v1 : Int) (σ : Mem) : Option (Int × Mem) :=
  if v1 < 0 then
    f_X11_terms_b20 v0 v1 v0 σ
  else
    (gf Sh σ 11 v0 16).bind fun x1 =>
    if x1 < v1 then
      f_X11_terms_b20 v0 v1 v0 σ
    else
      if v1 ≤ 300 then
        f_X11_terms_b25 v0 v1 0 v0 σ
      else
        f_X11_terms_b20 v0 v1 v0 σ
theorem L_X11_terms_b0 {sc : Nat × (Nat → Int32)} {o : Int × Mem} {v0 v1 : Int} {σ : Mem} (h : f_X11_terms_b0 v0 v1 σ = some o) : E sc (Fm Sh (some (0, o.1)) Sh o.2) mt_X11_terms 8 Sh Sh 0 [(2, v0), (0, v1)] [] Sh σ := by
  unfold f_X11_terms_b0 at h
  refine E_aload_n d_X11_terms_0 rfl (by decide) ?_
  refine E_iload_n d_X11_terms_1 rfl ?_
  refine E_if_lt (tgt := 20) d_X11_terms_2 (by decide) h (fun _ h => ?_) (fun _ h => ?_)
  · exact (L_X11_terms_b20 h)
  · refine E_iload_n d_X11_terms_5 rfl ?_
    refine E_aload_n d_X11_terms_6 rfl (by decide) ?_
    refine E_get d_X11_terms_7 okX11 fl_X11_174 ⟨by decide, rfl⟩ h (fun x1 h => ?_)
    refine E_icmp_gt (tgt := 20) d_X11_terms_10 (by decide) h (fun _ h => ?_) (fun _ h => ?_)
    · exact (L_X11_terms_b20 h)
    · refine E_iload_n d_X11_terms_13 rfl ?_
      refine E_sipush d_X11_terms_14 (c16 rfl) ?_
      refine E_icmp_le (tgt := 24) d_X11_terms_17 (by decide) h (fun _ h => ?_) (fun _ h => ?_)
      · refine E_iconst d_X11_terms_24 (c32 rfl) ?_
        exact (L_X11_terms_b25 h)
      · exact (L_X11_terms_b20 h)
noncomputable def f_X11_terms (v0 v1 : Int) (σ : Mem) : Option (Int × Mem) := if isO Sh 11 v0 = true then f_X11_terms_b0 v0 v1 σ else none
theorem L_X11_terms {o : Int × Mem} {v0 v1 : Int} {σ : Mem} (h : f_X11_terms v0 v1 σ = some o) : (isO Sh 11 v0 = true ∧ Cn mt_X11_terms 8 [(2, v0), (0, v1)] Sh σ (some (0, o.1)) Sh o.2) := ⟨(ite_ok h).1, Cn_of mk_X11_terms.1.2.2.1 (Nat.le_of_ble_eq_true rfl) (fun sc => L_X11_terms_b0 (ite_ok h).2)⟩
theorem d_X11_fault_0 : decode mt_X11_fault.2.1 0 = .ok (.iload_n 1, 1) := by decide +kernel
theorem d_X11_fault_1 : decode mt_X11_fault.2.1 1 = .ok (.ifCond .ne 11, 3) := by decide +kernel
theorem d_X11_fault_4 : decode mt_X11_fault.2.1 4 = .ok (.aload_n 0, 1) := by decide +kernel
theorem d_X11_fault_5 : decode mt_X11_fault.2.1 5 = .ok (.getfield 24, 3) := by decide +kernel
theorem d_X11_fault_8 : decode mt_X11_fault.2.1 8 = .ok (.getfield 208, 3) := by decide +kernel
theorem d_X11_fault_11 : decode mt_X11_fault.2.1 11 = .ok (.ireturn, 1) := by decide +kernel
theorem d_X11_fault_12 : decode mt_X11_fault.2.1 12 = .ok (.iload_n 1, 1) := by decide +kernel
theorem d_X11_fault_13 : decode mt_X11_fault.2.1 13 = .ok (.iconst 1, 1) := by decide +kernel
theorem d_X11_fault_14 : decode mt_X11_fault.2.1 14 = .ok (.if_icmp .ne 13, 3) := by decide +kernel
theorem d_X11_fault_17 : decode mt_X11_fault.2.1 17 = .ok (.aload_n 0, 1) := by decide +kernel
theorem d_X11_fault_18 : decode mt_X11_fault.2.1 18 = .ok (.getfield 24, 3) := by decide +kernel
theorem d_X11_fault_21 : decode mt_X11_fault.2.1 21 = .ok (.getfield 211, 3) := by decide +kernel
theorem d_X11_fault_24 : decode mt_X11_fault.2.1 24 = .ok (.goto 4, 3) := by decide +kernel
theorem d_X11_fault_27 : decode mt_X11_fault.2.1 27 = .ok (.iconst (-1), 1) := by decide +kernel
theorem d_X11_fault_28 : decode mt_X11_fault.2.1 28 = .ok (.ireturn, 1) := by decide +kernel
noncomputable def f_X11_fault_b0 (v0 v1 : Int) (σ : Mem) : Option (Int) :=
  if v1 = 0 then
    (gf Sh σ 11 v0 2).bind fun x1 =>
    (gf Sh σ 7 x1 10).bind fun x2 =>
    some (x2)
  else
    if v1 = 1 then
      (gf Sh σ 11 v0 2).bind fun x3 =>
      (gf Sh σ 7 x3 11).bind fun x4 =>
      some (x4)
    else
      some ((-1))
theorem L_X11_fault_b0 {sc : Nat × (Nat → Int32)} {o : Int} {σ : Mem} {v0 v1 : Int} (h : f_X11_fault_b0 v0 v1 σ = some o) : E sc (Fm Sh (some (0, o)) Sh σ) mt_X11_fault 1 Sh Sh 0 [(2, v0), (0, v1)] [] Sh σ := by
  unfold f_X11_fault_b0 at h
  refine E_iload_n d_X11_fault_0 rfl ?_
  refine E_if_ne (tgt := 12) d_X11_fault_1 (by decide) h (fun _ h => ?_) (fun _ h => ?_)
  · refine E_aload_n d_X11_fault_4 rfl (by decide) ?_
    refine E_get d_X11_fault_5 okX11 fl_X11_24 ⟨by decide, rfl⟩ h (fun x1 h => ?_)
    refine E_get d_X11_fault_8 okX7 fl_X11_208 ⟨by decide, rfl⟩ h (fun x2 h => ?_)
    cases h
    exact E_iret d_X11_fault_11 rfl
  · refine E_iload_n d_X11_fault_12 rfl ?_
    refine E_iconst d_X11_fault_13 (c32 rfl) ?_
    refine E_icmp_ne (tgt := 27) d_X11_fault_14 (by decide) h (fun _ h => ?_) (fun _ h => ?_)
    · refine E_aload_n d_X11_fault_17 rfl (by decide) ?_
      refine E_get d_X11_fault_18 okX11 fl_X11_24 ⟨by decide, rfl⟩ h (fun x3 h => ?_)
      refine E_get d_X11_fault_21 okX7 fl_X11_211 ⟨by decide, rfl⟩ h (fun x4 h => ?_)
      refine E_goto (tgt := 28) d_X11_fault_24 (by decide) ?_
      cases h
      exact E_iret d_X11_fault_28 rfl
    · refine E_iconst d_X11_fault_27 (c32 rfl) ?_
      cases h
      exact E_iret d_X11_fault_28 rfl
noncomputable def f_X11_fault (v0 v1 : Int) (σ : Mem) : Option (Int) := if isO Sh 11 v0 = true then f_X11_fault_b0 v0 v1 σ else none
theorem L_X11_fault {o : Int} {v0 v1 : Int} {σ : Mem} (h : f_X11_fault v0 v1 σ = some o) : (isO Sh 11 v0 = true ∧ Cn mt_X11_fault 1 [(2, v0), (0, v1)] Sh σ (some (0, o)) Sh σ) := ⟨(ite_ok h).1, Cn_of mk_X11_fault.1.2.2.1 (Nat.le_of_ble_eq_true rfl) (fun sc => L_X11_fault_b0 (ite_ok h).2)⟩
theorem d_X11_many_0 : decode mt_X11_many.2.1 0 = .ok (.aload_n 0, 1) := by decide +kernel
theorem d_X11_many_1 : decode mt_X11_many.2.1 1 = .ok (.iload_n 1, 1) := by decide +kernel
theorem d_X11_many_2 : decode mt_X11_many.2.1 2 = .ok (.ifCond .lt 9, 3) := by decide +kernel
theorem d_X11_many_5 : decode mt_X11_many.2.1 5 = .ok (.iload_n 1, 1) := by decide +kernel
theorem d_X11_many_6 : decode mt_X11_many.2.1 6 = .ok (.bipush 9, 2) := by decide +kernel
theorem d_X11_many_8 : decode mt_X11_many.2.1 8 = .ok (.if_icmp .le 7, 3) := by decide +kernel
theorem d_X11_many_11 : decode mt_X11_many.2.1 11 = .ok (.iconst 5, 1) := by decide +kernel
theorem d_X11_many_12 : decode mt_X11_many.2.1 12 = .ok (.goto 4, 3) := by decide +kernel
theorem d_X11_many_15 : decode mt_X11_many.2.1 15 = .ok (.iconst 0, 1) := by decide +kernel
theorem d_X11_many_16 : decode mt_X11_many.2.1 16 = .ok (.invokevirtual 132, 3) := by decide +kernel
theorem d_X11_many_19 : decode mt_X11_many.2.1 19 = .ok (.ifCond .eq 5, 3) := by decide +kernel
theorem d_X11_many_22 : decode mt_X11_many.2.1 22 = .ok (.iconst (-1), 1) := by decide +kernel
theorem d_X11_many_23 : decode mt_X11_many.2.1 23 = .ok (.ireturn, 1) := by decide +kernel
theorem d_X11_many_24 : decode mt_X11_many.2.1 24 = .ok (.iload_n 1, 1) := by decide +kernel
theorem d_X11_many_25 : decode mt_X11_many.2.1 25 = .ok (.tableswitch 123 0 8 #[51, 59, 67, 75, 83, 91, 99, 107, 115], 51) := by decide +kernel
theorem d_X11_many_76 : decode mt_X11_many.2.1 76 = .ok (.aload_n 0, 1) := by decide +kernel
theorem d_X11_many_77 : decode mt_X11_many.2.1 77 = .ok (.getfield 31, 3) := by decide +kernel
theorem d_X11_many_80 : decode mt_X11_many.2.1 80 = .ok (.getfield 196, 3) := by decide +kernel
theorem d_X11_many_83 : decode mt_X11_many.2.1 83 = .ok (.ireturn, 1) := by decide +kernel
theorem d_X11_many_84 : decode mt_X11_many.2.1 84 = .ok (.aload_n 0, 1) := by decide +kernel
theorem d_X11_many_85 : decode mt_X11_many.2.1 85 = .ok (.getfield 31, 3) := by decide +kernel
theorem d_X11_many_88 : decode mt_X11_many.2.1 88 = .ok (.invokevirtual 214, 3) := by decide +kernel
theorem d_X11_many_91 : decode mt_X11_many.2.1 91 = .ok (.ireturn, 1) := by decide +kernel
theorem d_X11_many_92 : decode mt_X11_many.2.1 92 = .ok (.aload_n 0, 1) := by decide +kernel
theorem d_X11_many_93 : decode mt_X11_many.2.1 93 = .ok (.getfield 31, 3) := by decide +kernel
theorem d_X11_many_96 : decode mt_X11_many.2.1 96 = .ok (.getfield 218, 3) := by decide +kernel
theorem d_X11_many_99 : decode mt_X11_many.2.1 99 = .ok (.ireturn, 1) := by decide +kernel
theorem d_X11_many_100 : decode mt_X11_many.2.1 100 = .ok (.aload_n 0, 1) := by decide +kernel
theorem d_X11_many_101 : decode mt_X11_many.2.1 101 = .ok (.getfield 31, 3) := by decide +kernel
theorem d_X11_many_104 : decode mt_X11_many.2.1 104 = .ok (.getfield 221, 3) := by decide +kernel
theorem d_X11_many_107 : decode mt_X11_many.2.1 107 = .ok (.ireturn, 1) := by decide +kernel
theorem d_X11_many_108 : decode mt_X11_many.2.1 108 = .ok (.aload_n 0, 1) := by decide +kernel
theorem d_X11_many_109 : decode mt_X11_many.2.1 109 = .ok (.getfield 31, 3) := by decide +kernel
theorem d_X11_many_112 : decode mt_X11_many.2.1 112 = .ok (.getfield 224, 3) := by decide +kernel
theorem d_X11_many_115 : decode mt_X11_many.2.1 115 = .ok (.ireturn, 1) := by decide +kernel
theorem d_X11_many_116 : decode mt_X11_many.2.1 116 = .ok (.aload_n 0, 1) := by decide +kernel
theorem d_X11_many_117 : decode mt_X11_many.2.1 117 = .ok (.getfield 31, 3) := by decide +kernel
theorem d_X11_many_120 : decode mt_X11_many.2.1 120 = .ok (.getfield 227, 3) := by decide +kernel
theorem d_X11_many_123 : decode mt_X11_many.2.1 123 = .ok (.ireturn, 1) := by decide +kernel
theorem d_X11_many_124 : decode mt_X11_many.2.1 124 = .ok (.aload_n 0, 1) := by decide +kernel
theorem d_X11_many_125 : decode mt_X11_many.2.1 125 = .ok (.getfield 31, 3) := by decide +kernel
theorem d_X11_many_128 : decode mt_X11_many.2.1 128 = .ok (.getfield 230, 3) := by decide +kernel
theorem d_X11_many_131 : decode mt_X11_many.2.1 131 = .ok (.ireturn, 1) := by decide +kernel
theorem d_X11_many_132 : decode mt_X11_many.2.1 132 = .ok (.aload_n 0, 1) := by decide +kernel
theorem d_X11_many_133 : decode mt_X11_many.2.1 133 = .ok (.getfield 31, 3) := by decide +kernel
theorem d_X11_many_136 : decode mt_X11_many.2.1 136 = .ok (.getfield 233, 3) := by decide +kernel
theorem d_X11_many_139 : decode mt_X11_many.2.1 139 = .ok (.ireturn, 1) := by decide +kernel
theorem d_X11_many_140 : decode mt_X11_many.2.1 140 = .ok (.aload_n 0, 1) := by decide +kernel
theorem d_X11_many_141 : decode mt_X11_many.2.1 141 = .ok (.getfield 31, 3) := by decide +kernel
theorem d_X11_many_144 : decode mt_X11_many.2.1 144 = .ok (.getfield 236, 3) := by decide +kernel
theorem d_X11_many_147 : decode mt_X11_many.2.1 147 = .ok (.ireturn, 1) := by decide +kernel
theorem d_X11_many_148 : decode mt_X11_many.2.1 148 = .ok (.aload_n 0, 1) := by decide +kernel
theorem d_X11_many_149 : decode mt_X11_many.2.1 149 = .ok (.getfield 31, 3) := by decide +kernel
theorem d_X11_many_152 : decode mt_X11_many.2.1 152 = .ok (.invokevirtual 239, 3) := by decide +kernel
theorem d_X11_many_155 : decode mt_X11_many.2.1 155 = .ok (.ireturn, 1) := by decide +kernel
noncomputable def f_X11_many_b16 (v0 v1 s0 s1 : Int) (σ : Mem) : Option (Int × Mem) :=
  (f_X11_refused s1 s0 σ).bind fun r1 =>
  if r1.1 = 0 then
    if v1 = 0 then
      (gf Sh r1.2 11 v0 3).bind fun x4 =>
      (gf Sh r1.2 9 x4 0).bind fun x5 =>
      some (x5, r1.2)
    else if v1 = 1 then
      (gf Sh r1.2 11 v0 3).bind fun x7 =>
      (f_X9_stoneCount x7 r1.2).bind fun r8 =>
      some (r8, r1.2)
    else if v1 = 2 then
      (gf Sh r1.2 11 v0 3).bind fun x11 =>
      (gf Sh r1.2 9 x11 7).bind fun x12 =>
      some (x12, r1.2)
    else if v1 = 3 then
      (gf Sh r1.2 11 v0 3).bind fun x14 =>
      (gf Sh r1.2 9 x14 11).bind fun x15 =>
      some (x15, r1.2)
    else if v1 = 4 then
      (gf Sh r1.2 11 v0 3).bind fun x17 =>
      (gf Sh r1.2 9 x17 12).bind fun x18 =>
      some (x18, r1.2)
    else if v1 = 5 then
      (gf Sh r1.2 11 v0 3).bind fun x20 =>
      (gf Sh r1.2 9 x20 13).bind fun x21 =>
      some (x21, r1.2)
    else if v1 = 6 then
      (gf Sh r1.2 11 v0 3).bind fun x23 =>
      (gf Sh r1.2 9 x23 14).bind fun x24 =>
      some (x24, r1.2)
    else if v1 = 7 then
      (gf Sh r1.2 11 v0 3).bind fun x26 =>
      (gf Sh r1.2 9 x26 15).bind fun x27 =>
      some (x27, r1.2)
    else if v1 = 8 then
      (gf Sh r1.2 11 v0 3).bind fun x29 =>
      (gf Sh r1.2 9 x29 1).bind fun x30 =>
      some (x30, r1.2)
    else 
      (gf Sh r1.2 11 v0 3).bind fun x31 =>
      (f_X9_mossOfAll x31 r1.2).bind fun r32 =>
      some (r32, r1.2)
  else
    some ((-1), r1.2)
theorem L_X11_many_b16 {sc : Nat × (Nat → Int32)} {o : Int × Mem} {v0 v1 s0 s1 : Int} {σ : Mem} (h : f_X11_many_b16 v0 v1 s0 s1 σ = some o) : E sc (Fm Sh (some (0, o.1)) Sh o.2) mt_X11_many 3 Sh Sh 16 [(2, v0), (0, v1)] [(0, s0), (2, s1)] Sh σ := by
  unfold f_X11_many_b16 at h
  refine bd h (fun r1 q2 h => ?_)
  refine E_cV (as := [(0, s0)]) (st := []) (a := s1) d_X11_many_16 mk_X11_refused nl_X11_132 (by omega) ⟨rfl, rfl, Nat.le_of_ble_eq_true rfl⟩ okX11 rfl (L_X11_refused q2) ?_
  refine E_if_eq (tgt := 24) d_X11_many_19 (by decide) h (fun _ h => ?_) (fun _ h => ?_)
  · refine E_iload_n d_X11_many_24 rfl ?_
    refine br_eq h (fun q3 h => ?_) (fun q3 h => ?_)
    · refine E_tabIn (tgt := 76) d_X11_many_25 q3 ⟨by decide, by decide, rfl, by decide⟩ ?_
      refine E_aload_n d_X11_many_76 rfl (by decide) ?_
      refine E_get d_X11_many_77 okX11 fl_X11_31 ⟨by decide, rfl⟩ h (fun x4 h => ?_)
      refine E_get d_X11_many_80 okX9 fl_X11_196 ⟨by decide, rfl⟩ h (fun x5 h => ?_)
      cases h
      exact E_iret d_X11_many_83 rfl
    refine br_eq h (fun q6 h => ?_) (fun q6 h => ?_)
    · refine E_tabIn (tgt := 84) d_X11_many_25 q6 ⟨by decide, by decide, rfl, by decide⟩ ?_
      refine E_aload_n d_X11_many_84 rfl (by decide) ?_
      refine E_get d_X11_many_85 okX11 fl_X11_31 ⟨by decide, rfl⟩ h (fun x7 h => ?_)
      refine bd h (fun r8 q9 h => ?_)
      refine E_cV (as := []) (st := []) (a := x7) d_X11_many_88 mk_X9_stoneCount nl_X11_214 (by omega) ⟨rfl, rfl, Nat.le_of_ble_eq_true rfl⟩ okX9 rfl (L_X9_stoneCount q9) ?_
      cases h
      exact E_iret d_X11_many_91 rfl
    refine br_eq h (fun q10 h => ?_) (fun q10 h => ?_)
    · refine E_tabIn (tgt := 92) d_X11_many_25 q10 ⟨by decide, by decide, rfl, by decide⟩ ?_
      refine E_aload_n d_X11_many_92 rfl (by decide) ?_
      refine E_get d_X11_many_93 okX11 fl_X11_31 ⟨by decide, rfl⟩ h (fun x11 h => ?_)
      refine E_get d_X11_many_96 okX9 fl_X11_218 ⟨by decide, rfl⟩ h (fun x12 h => ?_)
      cases h
      exact E_iret d_X11_many_99 rfl
    refine br_eq h (fun q13 h => ?_) (fun q13 h => ?_)
    · refine E_tabIn (tgt := 100) d_X11_many_25 q13 ⟨by decide, by decide, rfl, by decide⟩ ?_
      refine E_aload_n d_X11_many_100 rfl (by decide) ?_
      refine E_get d_X11_many_101 okX11 fl_X11_31 ⟨by decide, rfl⟩ h (fun x14 h => ?_)
      refine E_get d_X11_many_104 okX9 fl_X11_221 ⟨by decide, rfl⟩ h (fun x15 h => ?_)
      cases h
      exact E_iret d_X11_many_107 rfl
    refine br_eq h (fun q16 h => ?_) (fun q16 h => ?_)
    · refine E_tabIn (tgt := 108) d_X11_many_25 q16 ⟨by decide, by decide, rfl, by decide⟩ ?_
      refine E_aload_n d_X11_many_108 rfl (by decide) ?_
      refine E_get d_X11_many_109 okX11 fl_X11_31 ⟨by decide, rfl⟩ h (fun x17 h => ?_)
      refine E_get d_X11_many_112 okX9 fl_X11_224 ⟨by decide, rfl⟩ h (fun x18 h => ?_)
      cases h
      exact E_iret d_X11_many_115 rfl
    refine br_eq h (fun q19 h => ?_) (fun q19 h => ?_)
    · refine E_tabIn (tgt := 116) d_X11_many_25 q19 ⟨by decide, by decide, rfl, by decide⟩ ?_
      refine E_aload_n d_X11_many_116 rfl (by decide) ?_
      refine E_get d_X11_many_117 okX11 fl_X11_31 ⟨by decide, rfl⟩ h (fun x20 h => ?_)
      refine E_get d_X11_many_120 okX9 fl_X11_227 ⟨by decide, rfl⟩ h (fun x21 h => ?_)
      cases h
      exact E_iret d_X11_many_123 rfl
    refine br_eq h (fun q22 h => ?_) (fun q22 h => ?_)
    · refine E_tabIn (tgt := 124) d_X11_many_25 q22 ⟨by decide, by decide, rfl, by decide⟩ ?_
      refine E_aload_n d_X11_many_124 rfl (by decide) ?_
      refine E_get d_X11_many_125 okX11 fl_X11_31 ⟨by decide, rfl⟩ h (fun x23 h => ?_)
      refine E_get d_X11_many_128 okX9 fl_X11_230 ⟨by decide, rfl⟩ h (fun x24 h => ?_)
      cases h
      exact E_iret d_X11_many_131 rfl
    refine br_eq h (fun q25 h => ?_) (fun q25 h => ?_)
    · refine E_tabIn (tgt := 132) d_X11_many_25 q25 ⟨by decide, by decide, rfl, by decide⟩ ?_
      refine E_aload_n d_X11_many_132 rfl (by decide) ?_
      refine E_get d_X11_many_133 okX11 fl_X11_31 ⟨by decide, rfl⟩ h (fun x26 h => ?_)
      refine E_get d_X11_many_136 okX9 fl_X11_233 ⟨by decide, rfl⟩ h (fun x27 h => ?_)
      cases h
      exact E_iret d_X11_many_139 rfl
    refine br_eq h (fun q28 h => ?_) (fun q28 h => ?_)
    · refine E_tabIn (tgt := 140) d_X11_many_25 q28 ⟨by decide, by decide, rfl, by decide⟩ ?_
      refine E_aload_n d_X11_many_140 rfl (by decide) ?_
      refine E_get d_X11_many_141 okX11 fl_X11_31 ⟨by decide, rfl⟩ h (fun x29 h => ?_)
      refine E_get d_X11_many_144 okX9 fl_X11_236 ⟨by decide, rfl⟩ h (fun x30 h => ?_)
      cases h
      exact E_iret d_X11_many_147 rfl
    refine E_tabD (tgt := 148) [0, 1, 2, 3, 4, 5, 6, 7, 8] d_X11_many_25 (by simp only [List.mem_cons, List.not_mem_nil, or_false, not_or]; exact ⟨q3, q6, q10, q13, q16, q19, q22, q25, q28⟩) (by decide) ⟨by decide, by decide⟩ ?_
    refine E_aload_n d_X11_many_148 rfl (by decide) ?_
    refine E_get d_X11_many_149 okX11 fl_X11_31 ⟨by decide, rfl⟩ h (fun x31 h => ?_)
    refine bd h (fun r32 q33 h => ?_)
    refine E_cV (as := []) (st := []) (a := x31) d_X11_many_152 mk_X9_mossOfAll nl_X11_239 (by omega) ⟨rfl, rfl, Nat.le_of_ble_eq_true rfl⟩ okX9 rfl (L_X9_mossOfAll q33) ?_
    cases h
    exact E_iret d_X11_many_155 rfl
  · refine E_iconst d_X11_many_22 (c32 rfl) ?_
    cases h
    exact E_iret d_X11_many_23 rfl
noncomputable def f_X11_many_b11 (v0 v1 s0 : Int) (σ : Mem) : Option (Int × Mem) :=
  f_X11_many_b16 v0 v1 5 s0 σ
theorem L_X11_many_b11 {sc : Nat × (Nat → Int32)} {o : Int × Mem} {v0 v1 s0 : Int} {σ : Mem} (h : f_X11_many_b11 v0 v1 s0 σ = some o) : E sc (Fm Sh (some (0, o.1)) Sh o.2) mt_X11_many 3 Sh Sh 11 [(2, v0), (0, v1)] [(2, s0)] Sh σ := by
  unfold f_X11_many_b11 at h
  refine E_iconst d_X11_many_11 (c32 rfl) ?_
  refine E_goto (tgt := 16) d_X11_many_12 (by decide) ?_
  exact (L_X11_many_b16 h)
noncomputable def f_X11_many_b0 (v0 v1 : Int) (σ : Mem) : Option (Int × Mem) :=
  if v1 < 0 then
    f_X11_many_b11 v0 v1 v0 σ
  else
    if v1 ≤ 9 then
      f_X11_many_b16 v0 v1 0 v0 σ
    else
      f_X11_many_b11 v0 v1 v0 σ
theorem L_X11_many_b0 {sc : Nat × (Nat → Int32)} {o : Int × Mem} {v0 v1 : Int} {σ : Mem} (h : f_X11_many_b0 v0 v1 σ = some o) : E sc (Fm Sh (some (0, o.1)) Sh o.2) mt_X11_many 3 Sh Sh 0 [(2, v0), (0, v1)] [] Sh σ := by
  unfold f_X11_many_b0 at h
  refine E_aload_n d_X11_many_0 rfl (by decide) ?_
  refine E_iload_n d_X11_many_1 rfl ?_
  refine E_if_lt (tgt := 11) d_X11_many_2 (by decide) h (fun _ h => ?_) (fun _ h => ?_)
  · exact (L_X11_many_b11 h)
  · refine E_iload_n d_X11_many_5 rfl ?_
    refine E_bipush d_X11_many_6 (c8 rfl) ?_
    refine E_icmp_le (tgt := 15) d_X11_many_8 (by decide) h (fun _ h => ?_) (fun _ h => ?_)
    · refine E_iconst d_X11_many_15 (c32 rfl) ?_
      exact (L_X11_many_b16 h)
    · exact (L_X11_many_b11 h)
noncomputable def f_X11_many (v0 v1 : Int) (σ : Mem) : Option (Int × Mem) := if isO Sh 11 v0 = true then f_X11_many_b0 v0 v1 σ else none
theorem L_X11_many {o : Int × Mem} {v0 v1 : Int} {σ : Mem} (h : f_X11_many v0 v1 σ = some o) : (isO Sh 11 v0 = true ∧ Cn mt_X11_many 3 [(2, v0), (0, v1)] Sh σ (some (0, o.1)) Sh o.2) := ⟨(ite_ok h).1, Cn_of mk_X11_many.1.2.2.1 (Nat.le_of_ble_eq_true rfl) (fun sc => L_X11_many_b0 (ite_ok h).2)⟩
theorem d_X11_stoneWhy_0 : decode mt_X11_stoneWhy.2.1 0 = .ok (.aload_n 0, 1) := by decide +kernel
theorem d_X11_stoneWhy_1 : decode mt_X11_stoneWhy.2.1 1 = .ok (.getfield 31, 3) := by decide +kernel
theorem d_X11_stoneWhy_4 : decode mt_X11_stoneWhy.2.1 4 = .ok (.iload_n 1, 1) := by decide +kernel
theorem d_X11_stoneWhy_5 : decode mt_X11_stoneWhy.2.1 5 = .ok (.i2l, 1) := by decide +kernel
theorem d_X11_stoneWhy_6 : decode mt_X11_stoneWhy.2.1 6 = .ok (.invokevirtual 290, 3) := by decide +kernel
theorem d_X11_stoneWhy_9 : decode mt_X11_stoneWhy.2.1 9 = .ok (.ifCond .ne 5, 3) := by decide +kernel
theorem d_X11_stoneWhy_12 : decode mt_X11_stoneWhy.2.1 12 = .ok (.iconst 2, 1) := by decide +kernel
theorem d_X11_stoneWhy_13 : decode mt_X11_stoneWhy.2.1 13 = .ok (.ireturn, 1) := by decide +kernel
theorem d_X11_stoneWhy_14 : decode mt_X11_stoneWhy.2.1 14 = .ok (.iload_n 2, 1) := by decide +kernel
theorem d_X11_stoneWhy_15 : decode mt_X11_stoneWhy.2.1 15 = .ok (.ifCond .ne 5, 3) := by decide +kernel
theorem d_X11_stoneWhy_18 : decode mt_X11_stoneWhy.2.1 18 = .ok (.iconst 5, 1) := by decide +kernel
theorem d_X11_stoneWhy_19 : decode mt_X11_stoneWhy.2.1 19 = .ok (.ireturn, 1) := by decide +kernel
theorem d_X11_stoneWhy_20 : decode mt_X11_stoneWhy.2.1 20 = .ok (.aload_n 0, 1) := by decide +kernel
theorem d_X11_stoneWhy_21 : decode mt_X11_stoneWhy.2.1 21 = .ok (.getfield 31, 3) := by decide +kernel
theorem d_X11_stoneWhy_24 : decode mt_X11_stoneWhy.2.1 24 = .ok (.iload_n 1, 1) := by decide +kernel
theorem d_X11_stoneWhy_25 : decode mt_X11_stoneWhy.2.1 25 = .ok (.i2l, 1) := by decide +kernel
theorem d_X11_stoneWhy_26 : decode mt_X11_stoneWhy.2.1 26 = .ok (.invokevirtual 294, 3) := by decide +kernel
theorem d_X11_stoneWhy_29 : decode mt_X11_stoneWhy.2.1 29 = .ok (.ifCond .eq 7, 3) := by decide +kernel
theorem d_X11_stoneWhy_32 : decode mt_X11_stoneWhy.2.1 32 = .ok (.iconst 0, 1) := by decide +kernel
theorem d_X11_stoneWhy_33 : decode mt_X11_stoneWhy.2.1 33 = .ok (.goto 5, 3) := by decide +kernel
theorem d_X11_stoneWhy_36 : decode mt_X11_stoneWhy.2.1 36 = .ok (.bipush 8, 2) := by decide +kernel
theorem d_X11_stoneWhy_38 : decode mt_X11_stoneWhy.2.1 38 = .ok (.ireturn, 1) := by decide +kernel
noncomputable def f_X11_stoneWhy_b0 (v0 v1 v2 : Int) (σ : Mem) : Option (Int) :=
  (gf Sh σ 11 v0 3).bind fun x1 =>
  (f_X9_isPlace x1 v1 σ).bind fun r2 =>
  if r2 = 0 then
    some (2)
  else
    if v2 = 0 then
      some (5)
    else
      (gf Sh σ 11 v0 3).bind fun x4 =>
      (f_X9_isStone x4 v1 σ).bind fun r5 =>
      if r5 = 0 then
        some (8)
      else
        some (0)
theorem L_X11_stoneWhy_b0 {sc : Nat × (Nat → Int32)} {o : Int} {σ : Mem} {v0 v1 v2 : Int} (h : f_X11_stoneWhy_b0 v0 v1 v2 σ = some o) : E sc (Fm Sh (some (0, o)) Sh σ) mt_X11_stoneWhy 2 Sh Sh 0 [(2, v0), (0, v1), (0, v2)] [] Sh σ := by
  unfold f_X11_stoneWhy_b0 at h
  refine E_aload_n d_X11_stoneWhy_0 rfl (by decide) ?_
  refine E_get d_X11_stoneWhy_1 okX11 fl_X11_31 ⟨by decide, rfl⟩ h (fun x1 h => ?_)
  refine E_iload_n d_X11_stoneWhy_4 rfl ?_
  refine E_i2l d_X11_stoneWhy_5 ?_
  refine bd h (fun r2 q3 h => ?_)
  refine E_cV (as := [(1, v1)]) (st := []) (a := x1) d_X11_stoneWhy_6 mk_X9_isPlace nl_X11_290 (by omega) ⟨rfl, rfl, Nat.le_of_ble_eq_true rfl⟩ okX9 rfl (L_X9_isPlace q3) ?_
  refine E_if_ne (tgt := 14) d_X11_stoneWhy_9 (by decide) h (fun _ h => ?_) (fun _ h => ?_)
  · refine E_iconst d_X11_stoneWhy_12 (c32 rfl) ?_
    cases h
    exact E_iret d_X11_stoneWhy_13 rfl
  · refine E_iload_n d_X11_stoneWhy_14 rfl ?_
    refine E_if_ne (tgt := 20) d_X11_stoneWhy_15 (by decide) h (fun _ h => ?_) (fun _ h => ?_)
    · refine E_iconst d_X11_stoneWhy_18 (c32 rfl) ?_
      cases h
      exact E_iret d_X11_stoneWhy_19 rfl
    · refine E_aload_n d_X11_stoneWhy_20 rfl (by decide) ?_
      refine E_get d_X11_stoneWhy_21 okX11 fl_X11_31 ⟨by decide, rfl⟩ h (fun x4 h => ?_)
      refine E_iload_n d_X11_stoneWhy_24 rfl ?_
      refine E_i2l d_X11_stoneWhy_25 ?_
      refine bd h (fun r5 q6 h => ?_)
      refine E_cV (as := [(1, v1)]) (st := []) (a := x4) d_X11_stoneWhy_26 mk_X9_isStone nl_X11_294 (by omega) ⟨rfl, rfl, Nat.le_of_ble_eq_true rfl⟩ okX9 rfl (L_X9_isStone q6) ?_
      refine E_if_eq (tgt := 36) d_X11_stoneWhy_29 (by decide) h (fun _ h => ?_) (fun _ h => ?_)
      · refine E_bipush d_X11_stoneWhy_36 (c8 rfl) ?_
        cases h
        exact E_iret d_X11_stoneWhy_38 rfl
      · refine E_iconst d_X11_stoneWhy_32 (c32 rfl) ?_
        refine E_goto (tgt := 38) d_X11_stoneWhy_33 (by decide) ?_
        cases h
        exact E_iret d_X11_stoneWhy_38 rfl
noncomputable def f_X11_stoneWhy (v0 v1 v2 : Int) (σ : Mem) : Option (Int) := if isO Sh 11 v0 = true then f_X11_stoneWhy_b0 v0 v1 v2 σ else none
theorem L_X11_stoneWhy {o : Int} {v0 v1 v2 : Int} {σ : Mem} (h : f_X11_stoneWhy v0 v1 v2 σ = some o) : (isO Sh 11 v0 = true ∧ Cn mt_X11_stoneWhy 2 [(2, v0), (0, v1), (0, v2)] Sh σ (some (0, o)) Sh σ) := ⟨(ite_ok h).1, Cn_of mk_X11_stoneWhy.1.2.2.1 (Nat.le_of_ble_eq_true rfl) (fun sc => L_X11_stoneWhy_b0 (ite_ok h).2)⟩
theorem d_X11_stone_0 : decode mt_X11_stone.2.1 0 = .ok (.aload_n 0, 1) := by decide +kernel
theorem d_X11_stone_1 : decode mt_X11_stone.2.1 1 = .ok (.aload_n 0, 1) := by decide +kernel
theorem d_X11_stone_2 : decode mt_X11_stone.2.1 2 = .ok (.iload_n 1, 1) := by decide +kernel
theorem d_X11_stone_3 : decode mt_X11_stone.2.1 3 = .ok (.iload_n 2, 1) := by decide +kernel
theorem d_X11_stone_4 : decode mt_X11_stone.2.1 4 = .ok (.ifCond .lt 12, 3) := by decide +kernel
theorem d_X11_stone_7 : decode mt_X11_stone.2.1 7 = .ok (.iload_n 2, 1) := by decide +kernel
theorem d_X11_stone_8 : decode mt_X11_stone.2.1 8 = .ok (.iconst 4, 1) := by decide +kernel
theorem d_X11_stone_9 : decode mt_X11_stone.2.1 9 = .ok (.if_icmp .gt 7, 3) := by decide +kernel
theorem d_X11_stone_12 : decode mt_X11_stone.2.1 12 = .ok (.iconst 1, 1) := by decide +kernel
theorem d_X11_stone_13 : decode mt_X11_stone.2.1 13 = .ok (.goto 4, 3) := by decide +kernel
theorem d_X11_stone_16 : decode mt_X11_stone.2.1 16 = .ok (.iconst 0, 1) := by decide +kernel
theorem d_X11_stone_17 : decode mt_X11_stone.2.1 17 = .ok (.invokevirtual 242, 3) := by decide +kernel
theorem d_X11_stone_20 : decode mt_X11_stone.2.1 20 = .ok (.invokevirtual 132, 3) := by decide +kernel
theorem d_X11_stone_23 : decode mt_X11_stone.2.1 23 = .ok (.ifCond .eq 5, 3) := by decide +kernel
theorem d_X11_stone_26 : decode mt_X11_stone.2.1 26 = .ok (.iconst (-1), 1) := by decide +kernel
theorem d_X11_stone_27 : decode mt_X11_stone.2.1 27 = .ok (.ireturn, 1) := by decide +kernel
theorem d_X11_stone_28 : decode mt_X11_stone.2.1 28 = .ok (.iload_n 2, 1) := by decide +kernel
theorem d_X11_stone_29 : decode mt_X11_stone.2.1 29 = .ok (.tableswitch 70 0 3 #[31, 41, 51, 61], 31) := by decide +kernel
theorem d_X11_stone_60 : decode mt_X11_stone.2.1 60 = .ok (.aload_n 0, 1) := by decide +kernel
theorem d_X11_stone_61 : decode mt_X11_stone.2.1 61 = .ok (.getfield 31, 3) := by decide +kernel
theorem d_X11_stone_64 : decode mt_X11_stone.2.1 64 = .ok (.getfield 246, 3) := by decide +kernel
theorem d_X11_stone_67 : decode mt_X11_stone.2.1 67 = .ok (.iload_n 1, 1) := by decide +kernel
theorem d_X11_stone_68 : decode mt_X11_stone.2.1 68 = .ok (.iaload, 1) := by decide +kernel
theorem d_X11_stone_69 : decode mt_X11_stone.2.1 69 = .ok (.ireturn, 1) := by decide +kernel
theorem d_X11_stone_70 : decode mt_X11_stone.2.1 70 = .ok (.aload_n 0, 1) := by decide +kernel
theorem d_X11_stone_71 : decode mt_X11_stone.2.1 71 = .ok (.getfield 31, 3) := by decide +kernel
theorem d_X11_stone_74 : decode mt_X11_stone.2.1 74 = .ok (.getfield 250, 3) := by decide +kernel
theorem d_X11_stone_77 : decode mt_X11_stone.2.1 77 = .ok (.iload_n 1, 1) := by decide +kernel
theorem d_X11_stone_78 : decode mt_X11_stone.2.1 78 = .ok (.iaload, 1) := by decide +kernel
theorem d_X11_stone_79 : decode mt_X11_stone.2.1 79 = .ok (.ireturn, 1) := by decide +kernel
theorem d_X11_stone_80 : decode mt_X11_stone.2.1 80 = .ok (.aload_n 0, 1) := by decide +kernel
theorem d_X11_stone_81 : decode mt_X11_stone.2.1 81 = .ok (.getfield 31, 3) := by decide +kernel
theorem d_X11_stone_84 : decode mt_X11_stone.2.1 84 = .ok (.getfield 253, 3) := by decide +kernel
theorem d_X11_stone_87 : decode mt_X11_stone.2.1 87 = .ok (.iload_n 1, 1) := by decide +kernel
theorem d_X11_stone_88 : decode mt_X11_stone.2.1 88 = .ok (.iaload, 1) := by decide +kernel
theorem d_X11_stone_89 : decode mt_X11_stone.2.1 89 = .ok (.ireturn, 1) := by decide +kernel
theorem d_X11_stone_90 : decode mt_X11_stone.2.1 90 = .ok (.aload_n 0, 1) := by decide +kernel
theorem d_X11_stone_91 : decode mt_X11_stone.2.1 91 = .ok (.getfield 31, 3) := by decide +kernel
theorem d_X11_stone_94 : decode mt_X11_stone.2.1 94 = .ok (.iload_n 1, 1) := by decide +kernel
theorem d_X11_stone_95 : decode mt_X11_stone.2.1 95 = .ok (.invokevirtual 256, 3) := by decide +kernel
theorem d_X11_stone_98 : decode mt_X11_stone.2.1 98 = .ok (.ireturn, 1) := by decide +kernel
theorem d_X11_stone_99 : decode mt_X11_stone.2.1 99 = .ok (.aload_n 0, 1) := by decide +kernel
theorem d_X11_stone_100 : decode mt_X11_stone.2.1 100 = .ok (.getfield 31, 3) := by decide +kernel
theorem d_X11_stone_103 : decode mt_X11_stone.2.1 103 = .ok (.iload_n 1, 1) := by decide +kernel
theorem d_X11_stone_104 : decode mt_X11_stone.2.1 104 = .ok (.iload_n 1, 1) := by decide +kernel
theorem d_X11_stone_105 : decode mt_X11_stone.2.1 105 = .ok (.iconst 0, 1) := by decide +kernel
theorem d_X11_stone_106 : decode mt_X11_stone.2.1 106 = .ok (.invokevirtual 260, 3) := by decide +kernel
theorem d_X11_stone_109 : decode mt_X11_stone.2.1 109 = .ok (.ireturn, 1) := by decide +kernel
noncomputable def f_X11_stone_b17 (v0 v1 v2 s0 s1 s2 s3 : Int) (σ : Mem) : Option (Int × Mem) :=
  (f_X11_stoneWhy s2 s1 s0 σ).bind fun r1 =>
  (f_X11_refused s3 r1 σ).bind fun r3 =>
  if r3.1 = 0 then
    if v2 = 0 then
      (gf Sh r3.2 11 v0 3).bind fun x6 =>
      (gf Sh r3.2 9 x6 2).bind fun x7 =>
      (al Sh r3.2 20 x7 v1).bind fun x8 =>
      some (x8, r3.2)
    else if v2 = 1 then
      (gf Sh r3.2 11 v0 3).bind fun x10 =>
      (gf Sh r3.2 9 x10 3).bind fun x11 =>
      (al Sh r3.2 20 x11 v1).bind fun x12 =>
      some (x12, r3.2)
    else if v2 = 2 then
      (gf Sh r3.2 11 v0 3).bind fun x14 =>
      (gf Sh r3.2 9 x14 4).bind fun x15 =>
      (al Sh r3.2 20 x15 v1).bind fun x16 =>
      some (x16, r3.2)
    else if v2 = 3 then
      (gf Sh r3.2 11 v0 3).bind fun x18 =>
      (f_X9_crowsOn x18 v1 r3.2).bind fun r19 =>
      some (r19, r3.2)
    else 
      (gf Sh r3.2 11 v0 3).bind fun x21 =>
      (f_X9_mercyFor x21 v1 v1 0 r3.2).bind fun r22 =>
      some (r22, r3.2)
  else
    some ((-1), r3.2)
theorem L_X11_stone_b17 {sc : Nat × (Nat → Int32)} {o : Int × Mem} {v0 v1 v2 s0 s1 s2 s3 : Int} {σ : Mem} (h : f_X11_stone_b17 v0 v1 v2 s0 s1 s2 s3 σ = some o) : E sc (Fm Sh (some (0, o.1)) Sh o.2) mt_X11_stone 3 Sh Sh 17 [(2, v0), (0, v1), (0, v2)] [(0, s0), (0, s1), (2, s2), (2, s3)] Sh σ := by
  unfold f_X11_stone_b17 at h
  refine bd h (fun r1 q2 h => ?_)
  refine E_cV (as := [(0, s1), (0, s0)]) (st := [(2, s3)]) (a := s2) d_X11_stone_17 mk_X11_stoneWhy nl_X11_242 (by omega) ⟨rfl, rfl, Nat.le_of_ble_eq_true rfl⟩ okX11 rfl (L_X11_stoneWhy q2) ?_
  refine bd h (fun r3 q4 h => ?_)
  refine E_cV (as := [(0, r1)]) (st := []) (a := s3) d_X11_stone_20 mk_X11_refused nl_X11_132 (by omega) ⟨rfl, rfl, Nat.le_of_ble_eq_true rfl⟩ okX11 rfl (L_X11_refused q4) ?_
  refine E_if_eq (tgt := 28) d_X11_stone_23 (by decide) h (fun _ h => ?_) (fun _ h => ?_)
  · refine E_iload_n d_X11_stone_28 rfl ?_
    refine br_eq h (fun q5 h => ?_) (fun q5 h => ?_)
    · refine E_tabIn (tgt := 60) d_X11_stone_29 q5 ⟨by decide, by decide, rfl, by decide⟩ ?_
      refine E_aload_n d_X11_stone_60 rfl (by decide) ?_
      refine E_get d_X11_stone_61 okX11 fl_X11_31 ⟨by decide, rfl⟩ h (fun x6 h => ?_)
      refine E_get d_X11_stone_64 okX9 fl_X11_246 ⟨by decide, rfl⟩ h (fun x7 h => ?_)
      refine E_iload_n d_X11_stone_67 rfl ?_
      refine E_iaload d_X11_stone_68 h (fun x8 h => ?_)
      cases h
      exact E_iret d_X11_stone_69 rfl
    refine br_eq h (fun q9 h => ?_) (fun q9 h => ?_)
    · refine E_tabIn (tgt := 70) d_X11_stone_29 q9 ⟨by decide, by decide, rfl, by decide⟩ ?_
      refine E_aload_n d_X11_stone_70 rfl (by decide) ?_
      refine E_get d_X11_stone_71 okX11 fl_X11_31 ⟨by decide, rfl⟩ h (fun x10 h => ?_)
      refine E_get d_X11_stone_74 okX9 fl_X11_250 ⟨by decide, rfl⟩ h (fun x11 h => ?_)
      refine E_iload_n d_X11_stone_77 rfl ?_
      refine E_iaload d_X11_stone_78 h (fun x12 h => ?_)
      cases h
      exact E_iret d_X11_stone_79 rfl
    refine br_eq h (fun q13 h => ?_) (fun q13 h => ?_)
    · refine E_tabIn (tgt := 80) d_X11_stone_29 q13 ⟨by decide, by decide, rfl, by decide⟩ ?_
      refine E_aload_n d_X11_stone_80 rfl (by decide) ?_
      refine E_get d_X11_stone_81 okX11 fl_X11_31 ⟨by decide, rfl⟩ h (fun x14 h => ?_)
      refine E_get d_X11_stone_84 okX9 fl_X11_253 ⟨by decide, rfl⟩ h (fun x15 h => ?_)
      refine E_iload_n d_X11_stone_87 rfl ?_
      refine E_iaload d_X11_stone_88 h (fun x16 h => ?_)
      cases h
      exact E_iret d_X11_stone_89 rfl
    refine br_eq h (fun q17 h => ?_) (fun q17 h => ?_)
    · refine E_tabIn (tgt := 90) d_X11_stone_29 q17 ⟨by decide, by decide, rfl, by decide⟩ ?_
      refine E_aload_n d_X11_stone_90 rfl (by decide) ?_
      refine E_get d_X11_stone_91 okX11 fl_X11_31 ⟨by decide, rfl⟩ h (fun x18 h => ?_)
      refine E_iload_n d_X11_stone_94 rfl ?_
      refine bd h (fun r19 q20 h => ?_)
      refine E_cV (as := [(0, v1)]) (st := []) (a := x18) d_X11_stone_95 mk_X9_crowsOn nl_X11_256 (by omega) ⟨rfl, rfl, Nat.le_of_ble_eq_true rfl⟩ okX9 rfl (L_X9_crowsOn q20) ?_
      cases h
      exact E_iret d_X11_stone_98 rfl
    refine E_tabD (tgt := 99) [0, 1, 2, 3] d_X11_stone_29 (by simp only [List.mem_cons, List.not_mem_nil, or_false, not_or]; exact ⟨q5, q9, q13, q17⟩) (by decide) ⟨by decide, by decide⟩ ?_
    refine E_aload_n d_X11_stone_99 rfl (by decide) ?_
    refine E_get d_X11_stone_100 okX11 fl_X11_31 ⟨by decide, rfl⟩ h (fun x21 h => ?_)
    refine E_iload_n d_X11_stone_103 rfl ?_
    refine E_iload_n d_X11_stone_104 rfl ?_
    refine E_iconst d_X11_stone_105 (c32 rfl) ?_
    refine bd h (fun r22 q23 h => ?_)
    refine E_cV (as := [(0, v1), (0, v1), (0, 0)]) (st := []) (a := x21) d_X11_stone_106 mk_X9_mercyFor nl_X11_260 (by omega) ⟨rfl, rfl, Nat.le_of_ble_eq_true rfl⟩ okX9 rfl (L_X9_mercyFor q23) ?_
    cases h
    exact E_iret d_X11_stone_109 rfl
  · refine E_iconst d_X11_stone_26 (c32 rfl) ?_
    cases h
    exact E_iret d_X11_stone_27 rfl
noncomputable def f_X11_stone_b16 (v0 v1 v2 s0 s1 s2 : Int) (σ : Mem) : Option (Int × Mem) :=
  f_X11_stone_b17 v0 v1 v2 0 s0 s1 s2 σ
theorem L_X11_stone_b16 {sc : Nat × (Nat → Int32)} {o : Int × Mem} {v0 v1 v2 s0 s1 s2 : Int} {σ : Mem} (h : f_X11_stone_b16 v0 v1 v2 s0 s1 s2 σ = some o) : E sc (Fm Sh (some (0, o.1)) Sh o.2) mt_X11_stone 3 Sh Sh 16 [(2, v0), (0, v1), (0, v2)] [(0, s0), (2, s1), (2, s2)] Sh σ := by
  unfold f_X11_stone_b16 at h
  refine E_iconst d_X11_stone_16 (c32 rfl) ?_
  exact (L_X11_stone_b17 h)
noncomputable def f_X11_stone_b0 (v0 v1 v2 : Int) (σ : Mem) : Option (Int × Mem) :=
  if v2 < 0 then
    f_X11_stone_b16 v0 v1 v2 v1 v0 v0 σ
  else
    if 4 < v2 then
      f_X11_stone_b16 v0 v1 v2 v1 v0 v0 σ
    else
      f_X11_stone_b17 v0 v1 v2 1 v1 v0 v0 σ
theorem L_X11_stone_b0 {sc : Nat × (Nat → Int32)} {o : Int × Mem} {v0 v1 v2 : Int} {σ : Mem} (h : f_X11_stone_b0 v0 v1 v2 σ = some o) : E sc (Fm Sh (some (0, o.1)) Sh o.2) mt_X11_stone 3 Sh Sh 0 [(2, v0), (0, v1), (0, v2)] [] Sh σ := by
  unfold f_X11_stone_b0 at h
  refine E_aload_n d_X11_stone_0 rfl (by decide) ?_
  refine E_aload_n d_X11_stone_1 rfl (by decide) ?_
  refine E_iload_n d_X11_stone_2 rfl ?_
  refine E_iload_n d_X11_stone_3 rfl ?_
  refine E_if_lt (tgt := 16) d_X11_stone_4 (by decide) h (fun _ h => ?_) (fun _ h => ?_)
  · exact (L_X11_stone_b16 h)
  · refine E_iload_n d_X11_stone_7 rfl ?_
    refine E_iconst d_X11_stone_8 (c32 rfl) ?_
    refine E_icmp_gt (tgt := 16) d_X11_stone_9 (by decide) h (fun _ h => ?_) (fun _ h => ?_)
    · exact (L_X11_stone_b16 h)
    · refine E_iconst d_X11_stone_12 (c32 rfl) ?_
      refine E_goto (tgt := 17) d_X11_stone_13 (by decide) ?_
      exact (L_X11_stone_b17 h)
noncomputable def f_X11_stone (v0 v1 v2 : Int) (σ : Mem) : Option (Int × Mem) := if isO Sh 11 v0 = true then f_X11_stone_b0 v0 v1 v2 σ else none
theorem L_X11_stone {o : Int × Mem} {v0 v1 v2 : Int} {σ : Mem} (h : f_X11_stone v0 v1 v2 σ = some o) : (isO Sh 11 v0 = true ∧ Cn mt_X11_stone 3 [(2, v0), (0, v1), (0, v2)] Sh σ (some (0, o.1)) Sh o.2) := ⟨(ite_ok h).1, Cn_of mk_X11_stone.1.2.2.1 (Nat.le_of_ble_eq_true rfl) (fun sc => L_X11_stone_b0 (ite_ok h).2)⟩
theorem d_X11_crow_0 : decode mt_X11_crow.2.1 0 = .ok (.iconst 0, 1) := by decide +kernel
theorem d_X11_crow_1 : decode mt_X11_crow.2.1 1 = .ok (.istore_n 3, 1) := by decide +kernel
theorem d_X11_crow_2 : decode mt_X11_crow.2.1 2 = .ok (.aload_n 0, 1) := by decide +kernel
theorem d_X11_crow_3 : decode mt_X11_crow.2.1 3 = .ok (.getfield 31, 3) := by decide +kernel
theorem d_X11_crow_6 : decode mt_X11_crow.2.1 6 = .ok (.iload_n 1, 1) := by decide +kernel
theorem d_X11_crow_7 : decode mt_X11_crow.2.1 7 = .ok (.invokevirtual 264, 3) := by decide +kernel
theorem d_X11_crow_10 : decode mt_X11_crow.2.1 10 = .ok (.ifCond .ne 8, 3) := by decide +kernel
theorem d_X11_crow_13 : decode mt_X11_crow.2.1 13 = .ok (.iconst 2, 1) := by decide +kernel
theorem d_X11_crow_14 : decode mt_X11_crow.2.1 14 = .ok (.istore_n 3, 1) := by decide +kernel
theorem d_X11_crow_15 : decode mt_X11_crow.2.1 15 = .ok (.goto 37, 3) := by decide +kernel
theorem d_X11_crow_18 : decode mt_X11_crow.2.1 18 = .ok (.iload_n 2, 1) := by decide +kernel
theorem d_X11_crow_19 : decode mt_X11_crow.2.1 19 = .ok (.ifCond .lt 8, 3) := by decide +kernel
theorem d_X11_crow_22 : decode mt_X11_crow.2.1 22 = .ok (.iload_n 2, 1) := by decide +kernel
theorem d_X11_crow_23 : decode mt_X11_crow.2.1 23 = .ok (.iconst 1, 1) := by decide +kernel
theorem d_X11_crow_24 : decode mt_X11_crow.2.1 24 = .ok (.if_icmp .le 8, 3) := by decide +kernel
theorem d_X11_crow_27 : decode mt_X11_crow.2.1 27 = .ok (.iconst 5, 1) := by decide +kernel
theorem d_X11_crow_28 : decode mt_X11_crow.2.1 28 = .ok (.istore_n 3, 1) := by decide +kernel
theorem d_X11_crow_29 : decode mt_X11_crow.2.1 29 = .ok (.goto 23, 3) := by decide +kernel
theorem d_X11_crow_32 : decode mt_X11_crow.2.1 32 = .ok (.iload_n 2, 1) := by decide +kernel
theorem d_X11_crow_33 : decode mt_X11_crow.2.1 33 = .ok (.ifCond .ne 19, 3) := by decide +kernel
theorem d_X11_crow_36 : decode mt_X11_crow.2.1 36 = .ok (.aload_n 0, 1) := by decide +kernel
theorem d_X11_crow_37 : decode mt_X11_crow.2.1 37 = .ok (.getfield 31, 3) := by decide +kernel
theorem d_X11_crow_40 : decode mt_X11_crow.2.1 40 = .ok (.getfield 267, 3) := by decide +kernel
theorem d_X11_crow_43 : decode mt_X11_crow.2.1 43 = .ok (.iload_n 1, 1) := by decide +kernel
theorem d_X11_crow_44 : decode mt_X11_crow.2.1 44 = .ok (.iaload, 1) := by decide +kernel
theorem d_X11_crow_45 : decode mt_X11_crow.2.1 45 = .ok (.iconst (-1), 1) := by decide +kernel
theorem d_X11_crow_46 : decode mt_X11_crow.2.1 46 = .ok (.if_icmp .ne 6, 3) := by decide +kernel
theorem d_X11_crow_49 : decode mt_X11_crow.2.1 49 = .ok (.bipush 8, 2) := by decide +kernel
theorem d_X11_crow_51 : decode mt_X11_crow.2.1 51 = .ok (.istore_n 3, 1) := by decide +kernel
theorem d_X11_crow_52 : decode mt_X11_crow.2.1 52 = .ok (.aload_n 0, 1) := by decide +kernel
theorem d_X11_crow_53 : decode mt_X11_crow.2.1 53 = .ok (.iload_n 3, 1) := by decide +kernel
theorem d_X11_crow_54 : decode mt_X11_crow.2.1 54 = .ok (.invokevirtual 132, 3) := by decide +kernel
theorem d_X11_crow_57 : decode mt_X11_crow.2.1 57 = .ok (.ifCond .eq 5, 3) := by decide +kernel
theorem d_X11_crow_60 : decode mt_X11_crow.2.1 60 = .ok (.iconst (-1), 1) := by decide +kernel
theorem d_X11_crow_61 : decode mt_X11_crow.2.1 61 = .ok (.ireturn, 1) := by decide +kernel
theorem d_X11_crow_62 : decode mt_X11_crow.2.1 62 = .ok (.iload_n 2, 1) := by decide +kernel
theorem d_X11_crow_63 : decode mt_X11_crow.2.1 63 = .ok (.ifCond .ne 13, 3) := by decide +kernel
theorem d_X11_crow_66 : decode mt_X11_crow.2.1 66 = .ok (.aload_n 0, 1) := by decide +kernel
theorem d_X11_crow_67 : decode mt_X11_crow.2.1 67 = .ok (.getfield 31, 3) := by decide +kernel
theorem d_X11_crow_70 : decode mt_X11_crow.2.1 70 = .ok (.getfield 267, 3) := by decide +kernel
theorem d_X11_crow_73 : decode mt_X11_crow.2.1 73 = .ok (.iload_n 1, 1) := by decide +kernel
theorem d_X11_crow_74 : decode mt_X11_crow.2.1 74 = .ok (.iaload, 1) := by decide +kernel
theorem d_X11_crow_75 : decode mt_X11_crow.2.1 75 = .ok (.ireturn, 1) := by decide +kernel
theorem d_X11_crow_76 : decode mt_X11_crow.2.1 76 = .ok (.aload_n 0, 1) := by decide +kernel
theorem d_X11_crow_77 : decode mt_X11_crow.2.1 77 = .ok (.getfield 31, 3) := by decide +kernel
theorem d_X11_crow_80 : decode mt_X11_crow.2.1 80 = .ok (.getfield 270, 3) := by decide +kernel
theorem d_X11_crow_83 : decode mt_X11_crow.2.1 83 = .ok (.iload_n 1, 1) := by decide +kernel
theorem d_X11_crow_84 : decode mt_X11_crow.2.1 84 = .ok (.baload, 1) := by decide +kernel
theorem d_X11_crow_85 : decode mt_X11_crow.2.1 85 = .ok (.ifCond .eq 7, 3) := by decide +kernel
theorem d_X11_crow_88 : decode mt_X11_crow.2.1 88 = .ok (.iconst 1, 1) := by decide +kernel
theorem d_X11_crow_89 : decode mt_X11_crow.2.1 89 = .ok (.goto 4, 3) := by decide +kernel
theorem d_X11_crow_92 : decode mt_X11_crow.2.1 92 = .ok (.iconst 0, 1) := by decide +kernel
theorem d_X11_crow_93 : decode mt_X11_crow.2.1 93 = .ok (.ireturn, 1) := by decide +kernel
noncomputable def f_X11_crow_b52 (v0 v1 v2 v3 : Int) (σ : Mem) : Option (Int × Mem) :=
  (f_X11_refused v0 v3 σ).bind fun r7 =>
  if r7.1 = 0 then
    if v2 = 0 then
      (gf Sh r7.2 11 v0 3).bind fun x9 =>
      (gf Sh r7.2 9 x9 8).bind fun x10 =>
      (al Sh r7.2 20 x10 v1).bind fun x11 =>
      some (x11, r7.2)
    else
      (gf Sh r7.2 11 v0 3).bind fun x12 =>
      (gf Sh r7.2 9 x12 9).bind fun x13 =>
      (al Sh r7.2 23 x13 v1).bind fun x14 =>
      if x14 = 0 then
        some (0, r7.2)
      else
        some (1, r7.2)
  else
    some ((-1), r7.2)
theorem L_X11_crow_b52 {sc : Nat × (Nat → Int32)} {o : Int × Mem} {v0 v1 v2 v3 : Int} {σ : Mem} (h : f_X11_crow_b52 v0 v1 v2 v3 σ = some o) : E sc (Fm Sh (some (0, o.1)) Sh o.2) mt_X11_crow 2 Sh Sh 52 [(2, v0), (0, v1), (0, v2), (0, v3)] [] Sh σ := by
  unfold f_X11_crow_b52 at h
  refine E_aload_n d_X11_crow_52 rfl (by decide) ?_
  refine E_iload_n d_X11_crow_53 rfl ?_
  refine bd h (fun r7 q8 h => ?_)
  refine E_cV (as := [(0, v3)]) (st := []) (a := v0) d_X11_crow_54 mk_X11_refused nl_X11_132 (by omega) ⟨rfl, rfl, Nat.le_of_ble_eq_true rfl⟩ okX11 rfl (L_X11_refused q8) ?_
  refine E_if_eq (tgt := 62) d_X11_crow_57 (by decide) h (fun _ h => ?_) (fun _ h => ?_)
  · refine E_iload_n d_X11_crow_62 rfl ?_
    refine E_if_ne (tgt := 76) d_X11_crow_63 (by decide) h (fun _ h => ?_) (fun _ h => ?_)
    · refine E_aload_n d_X11_crow_66 rfl (by decide) ?_
      refine E_get d_X11_crow_67 okX11 fl_X11_31 ⟨by decide, rfl⟩ h (fun x9 h => ?_)
      refine E_get d_X11_crow_70 okX9 fl_X11_267 ⟨by decide, rfl⟩ h (fun x10 h => ?_)
      refine E_iload_n d_X11_crow_73 rfl ?_
      refine E_iaload d_X11_crow_74 h (fun x11 h => ?_)
      cases h
      exact E_iret d_X11_crow_75 rfl
    · refine E_aload_n d_X11_crow_76 rfl (by decide) ?_
      refine E_get d_X11_crow_77 okX11 fl_X11_31 ⟨by decide, rfl⟩ h (fun x12 h => ?_)
      refine E_get d_X11_crow_80 okX9 fl_X11_270 ⟨by decide, rfl⟩ h (fun x13 h => ?_)
      refine E_iload_n d_X11_crow_83 rfl ?_
      refine E_baload d_X11_crow_84 (by decide : 23 = 22 ∨ 23 = 23) h (fun x14 h => ?_)
      refine E_if_eq (tgt := 92) d_X11_crow_85 (by decide) h (fun _ h => ?_) (fun _ h => ?_)
      · refine E_iconst d_X11_crow_92 (c32 rfl) ?_
        cases h
        exact E_iret d_X11_crow_93 rfl
      · refine E_iconst d_X11_crow_88 (c32 rfl) ?_
        refine E_goto (tgt := 93) d_X11_crow_89 (by decide) ?_
        cases h
        exact E_iret d_X11_crow_93 rfl
  · refine E_iconst d_X11_crow_60 (c32 rfl) ?_
    cases h
    exact E_iret d_X11_crow_61 rfl
noncomputable def f_X11_crow_b27 (v0 v1 v2 : Int) (σ : Mem) : Option (Int × Mem) :=
  f_X11_crow_b52 v0 v1 v2 5 σ
theorem L_X11_crow_b27 {sc : Nat × (Nat → Int32)} {o : Int × Mem} {v0 v1 v2 : Int} {σ : Mem} (h : f_X11_crow_b27 v0 v1 v2 σ = some o) : E sc (Fm Sh (some (0, o.1)) Sh o.2) mt_X11_crow 2 Sh Sh 27 [(2, v0), (0, v1), (0, v2), (9, 0)] [] Sh σ := by
  unfold f_X11_crow_b27 at h
  refine E_iconst d_X11_crow_27 (c32 rfl) ?_
  refine E_istore_n d_X11_crow_28 (ls' := [(2, v0), (0, v1), (0, v2), (0, 5)]) ⟨by decide, rfl⟩ ?_
  refine E_goto (tgt := 52) d_X11_crow_29 (by decide) ?_
  exact (L_X11_crow_b52 h)
noncomputable def f_X11_crow_b0 (v0 v1 v2 : Int) (σ : Mem) : Option (Int × Mem) :=
  (gf Sh σ 11 v0 3).bind fun x1 =>
  (f_X9_isCrow x1 v1 σ).bind fun r2 =>
  if r2 = 0 then
    f_X11_crow_b52 v0 v1 v2 2 σ
  else
    if v2 < 0 then
      f_X11_crow_b27 v0 v1 v2 σ
    else
      if v2 ≤ 1 then
        if v2 = 0 then
          (gf Sh σ 11 v0 3).bind fun x4 =>
          (gf Sh σ 9 x4 8).bind fun x5 =>
          (al Sh σ 20 x5 v1).bind fun x6 =>
          if x6 = (-1) then
            f_X11_crow_b52 v0 v1 v2 8 σ
          else
            f_X11_crow_b52 v0 v1 v2 0 σ
        else
          f_X11_crow_b52 v0 v1 v2 0 σ
      else
        f_X11_crow_b27 v0 v1 v2 σ
theorem L_X11_crow_b0 {sc : Nat × (Nat → Int32)} {o : Int × Mem} {v0 v1 v2 : Int} {σ : Mem} (h : f_X11_crow_b0 v0 v1 v2 σ = some o) : E sc (Fm Sh (some (0, o.1)) Sh o.2) mt_X11_crow 2 Sh Sh 0 [(2, v0), (0, v1), (0, v2), (9, 0)] [] Sh σ := by
  unfold f_X11_crow_b0 at h
  refine E_iconst d_X11_crow_0 (c32 rfl) ?_
  refine E_istore_n d_X11_crow_1 (ls' := [(2, v0), (0, v1), (0, v2), (0, 0)]) ⟨by decide, rfl⟩ ?_
  refine E_aload_n d_X11_crow_2 rfl (by decide) ?_
  refine E_get d_X11_crow_3 okX11 fl_X11_31 ⟨by decide, rfl⟩ h (fun x1 h => ?_)
  refine E_iload_n d_X11_crow_6 rfl ?_
  refine bd h (fun r2 q3 h => ?_)
  refine E_cV (as := [(0, v1)]) (st := []) (a := x1) d_X11_crow_7 mk_X9_isCrow nl_X11_264 (by omega) ⟨rfl, rfl, Nat.le_of_ble_eq_true rfl⟩ okX9 rfl (L_X9_isCrow q3) ?_
  refine E_if_ne (tgt := 18) d_X11_crow_10 (by decide) h (fun _ h => ?_) (fun _ h => ?_)
  · refine E_iconst d_X11_crow_13 (c32 rfl) ?_
    refine E_istore_n d_X11_crow_14 (ls' := [(2, v0), (0, v1), (0, v2), (0, 2)]) ⟨by decide, rfl⟩ ?_
    refine E_goto (tgt := 52) d_X11_crow_15 (by decide) ?_
    exact (L_X11_crow_b52 h)
  · refine E_iload_n d_X11_crow_18 rfl ?_
    refine E_if_lt (tgt := 27) d_X11_crow_19 (by decide) h (fun _ h => ?_) (fun _ h => ?_)
    · exact E_weak (ls' := [(2, v0), (0, v1), (0, v2), (9, 0)]) ⟨Or.inr rfl, Or.inr rfl, Or.inr rfl, Or.inl rfl, trivial⟩ (L_X11_crow_b27 h)
    · refine E_iload_n d_X11_crow_22 rfl ?_
      refine E_iconst d_X11_crow_23 (c32 rfl) ?_
      refine E_icmp_le (tgt := 32) d_X11_crow_24 (by decide) h (fun _ h => ?_) (fun _ h => ?_)
      · refine E_iload_n d_X11_crow_32 rfl ?_
        refine E_if_ne (tgt := 52) d_X11_crow_33 (by decide) h (fun _ h => ?_) (fun _ h => ?_)
        · refine E_aload_n d_X11_crow_36 rfl (by decide) ?_
          refine E_get d_X11_crow_37 okX11 fl_X11_31 ⟨by decide, rfl⟩ h (fun x4 h => ?_)
          refine E_get d_X11_crow_40 okX9 fl_X11_267 ⟨by decide, rfl⟩ h (fun x5 h => ?_)
          refine E_iload_n d_X11_crow_43 rfl ?_
          refine E_iaload d_X11_crow_44 h (fun x6 h => ?_)
          refine E_iconst d_X11_crow_45 (c32 rfl) ?_
          refine E_icmp_ne (tgt := 52) d_X11_crow_46 (by decide) h (fun _ h => ?_) (fun _ h => ?_)
          · refine E_bipush d_X11_crow_49 (c8 rfl) ?_
            refine E_istore_n d_X11_crow_51 (ls' := [(2, v0), (0, v1), (0, v2), (0, 8)]) ⟨by decide, rfl⟩ ?_
            exact (L_X11_crow_b52 h)
          · exact (L_X11_crow_b52 h)
        · exact (L_X11_crow_b52 h)
      · exact E_weak (ls' := [(2, v0), (0, v1), (0, v2), (9, 0)]) ⟨Or.inr rfl, Or.inr rfl, Or.inr rfl, Or.inl rfl, trivial⟩ (L_X11_crow_b27 h)
noncomputable def f_X11_crow (v0 v1 v2 : Int) (σ : Mem) : Option (Int × Mem) := if isO Sh 11 v0 = true then f_X11_crow_b0 v0 v1 v2 σ else none
theorem L_X11_crow {o : Int × Mem} {v0 v1 v2 : Int} {σ : Mem} (h : f_X11_crow v0 v1 v2 σ = some o) : (isO Sh 11 v0 = true ∧ Cn mt_X11_crow 2 [(2, v0), (0, v1), (0, v2)] Sh σ (some (0, o.1)) Sh o.2) := ⟨(ite_ok h).1, Cn_of mk_X11_crow.1.2.2.1 (Nat.le_of_ble_eq_true rfl) (fun sc => L_X11_crow_b0 (ite_ok h).2)⟩
theorem d_X11_copyMoss_0 : decode mt_X11_copyMoss.2.1 0 = .ok (.iconst 0, 1) := by decide +kernel
theorem d_X11_copyMoss_1 : decode mt_X11_copyMoss.2.1 1 = .ok (.istore_n 2, 1) := by decide +kernel
theorem d_X11_copyMoss_2 : decode mt_X11_copyMoss.2.1 2 = .ok (.iload_n 1, 1) := by decide +kernel
theorem d_X11_copyMoss_3 : decode mt_X11_copyMoss.2.1 3 = .ok (.invokestatic 125, 3) := by decide +kernel
theorem d_X11_copyMoss_6 : decode mt_X11_copyMoss.2.1 6 = .ok (.ifCond .ne 8, 3) := by decide +kernel
theorem d_X11_copyMoss_9 : decode mt_X11_copyMoss.2.1 9 = .ok (.iconst 1, 1) := by decide +kernel
theorem d_X11_copyMoss_10 : decode mt_X11_copyMoss.2.1 10 = .ok (.istore_n 2, 1) := by decide +kernel
theorem d_X11_copyMoss_11 : decode mt_X11_copyMoss.2.1 11 = .ok (.goto 42, 3) := by decide +kernel
theorem d_X11_copyMoss_14 : decode mt_X11_copyMoss.2.1 14 = .ok (.aload_n 0, 1) := by decide +kernel
theorem d_X11_copyMoss_15 : decode mt_X11_copyMoss.2.1 15 = .ok (.getfield 11, 3) := by decide +kernel
theorem d_X11_copyMoss_18 : decode mt_X11_copyMoss.2.1 18 = .ok (.iload_n 1, 1) := by decide +kernel
theorem d_X11_copyMoss_19 : decode mt_X11_copyMoss.2.1 19 = .ok (.aaload, 1) := by decide +kernel
theorem d_X11_copyMoss_20 : decode mt_X11_copyMoss.2.1 20 = .ok (.invokevirtual 163, 3) := by decide +kernel
theorem d_X11_copyMoss_23 : decode mt_X11_copyMoss.2.1 23 = .ok (.ifCond .eq 8, 3) := by decide +kernel
theorem d_X11_copyMoss_26 : decode mt_X11_copyMoss.2.1 26 = .ok (.iconst 3, 1) := by decide +kernel
theorem d_X11_copyMoss_27 : decode mt_X11_copyMoss.2.1 27 = .ok (.istore_n 2, 1) := by decide +kernel
theorem d_X11_copyMoss_28 : decode mt_X11_copyMoss.2.1 28 = .ok (.goto 25, 3) := by decide +kernel
theorem d_X11_copyMoss_31 : decode mt_X11_copyMoss.2.1 31 = .ok (.aload_n 0, 1) := by decide +kernel
theorem d_X11_copyMoss_32 : decode mt_X11_copyMoss.2.1 32 = .ok (.getfield 11, 3) := by decide +kernel
theorem d_X11_copyMoss_35 : decode mt_X11_copyMoss.2.1 35 = .ok (.iload_n 1, 1) := by decide +kernel
theorem d_X11_copyMoss_36 : decode mt_X11_copyMoss.2.1 36 = .ok (.aaload, 1) := by decide +kernel
theorem d_X11_copyMoss_37 : decode mt_X11_copyMoss.2.1 37 = .ok (.iconst 0, 1) := by decide +kernel
theorem d_X11_copyMoss_38 : decode mt_X11_copyMoss.2.1 38 = .ok (.aload_n 0, 1) := by decide +kernel
theorem d_X11_copyMoss_39 : decode mt_X11_copyMoss.2.1 39 = .ok (.getfield 31, 3) := by decide +kernel
theorem d_X11_copyMoss_42 : decode mt_X11_copyMoss.2.1 42 = .ok (.getfield 196, 3) := by decide +kernel
theorem d_X11_copyMoss_45 : decode mt_X11_copyMoss.2.1 45 = .ok (.invokevirtual 170, 3) := by decide +kernel
theorem d_X11_copyMoss_48 : decode mt_X11_copyMoss.2.1 48 = .ok (.ifCond .ne 5, 3) := by decide +kernel
theorem d_X11_copyMoss_51 : decode mt_X11_copyMoss.2.1 51 = .ok (.iconst 4, 1) := by decide +kernel
theorem d_X11_copyMoss_52 : decode mt_X11_copyMoss.2.1 52 = .ok (.istore_n 2, 1) := by decide +kernel
theorem d_X11_copyMoss_53 : decode mt_X11_copyMoss.2.1 53 = .ok (.aload_n 0, 1) := by decide +kernel
theorem d_X11_copyMoss_54 : decode mt_X11_copyMoss.2.1 54 = .ok (.iload_n 2, 1) := by decide +kernel
theorem d_X11_copyMoss_55 : decode mt_X11_copyMoss.2.1 55 = .ok (.invokevirtual 132, 3) := by decide +kernel
theorem d_X11_copyMoss_58 : decode mt_X11_copyMoss.2.1 58 = .ok (.ifCond .eq 5, 3) := by decide +kernel
theorem d_X11_copyMoss_61 : decode mt_X11_copyMoss.2.1 61 = .ok (.iconst (-1), 1) := by decide +kernel
theorem d_X11_copyMoss_62 : decode mt_X11_copyMoss.2.1 62 = .ok (.ireturn, 1) := by decide +kernel
theorem d_X11_copyMoss_63 : decode mt_X11_copyMoss.2.1 63 = .ok (.iconst 0, 1) := by decide +kernel
theorem d_X11_copyMoss_64 : decode mt_X11_copyMoss.2.1 64 = .ok (.istore_n 3, 1) := by decide +kernel
theorem d_X11_copyMoss_65 : decode mt_X11_copyMoss.2.1 65 = .ok (.iload_n 3, 1) := by decide +kernel
theorem d_X11_copyMoss_66 : decode mt_X11_copyMoss.2.1 66 = .ok (.aload_n 0, 1) := by decide +kernel
theorem d_X11_copyMoss_67 : decode mt_X11_copyMoss.2.1 67 = .ok (.getfield 31, 3) := by decide +kernel
theorem d_X11_copyMoss_70 : decode mt_X11_copyMoss.2.1 70 = .ok (.getfield 196, 3) := by decide +kernel
theorem d_X11_copyMoss_73 : decode mt_X11_copyMoss.2.1 73 = .ok (.if_icmp .ge 29, 3) := by decide +kernel
theorem d_X11_copyMoss_76 : decode mt_X11_copyMoss.2.1 76 = .ok (.aload_n 0, 1) := by decide +kernel
theorem d_X11_copyMoss_77 : decode mt_X11_copyMoss.2.1 77 = .ok (.getfield 11, 3) := by decide +kernel
theorem d_X11_copyMoss_80 : decode mt_X11_copyMoss.2.1 80 = .ok (.iload_n 1, 1) := by decide +kernel
theorem d_X11_copyMoss_81 : decode mt_X11_copyMoss.2.1 81 = .ok (.aaload, 1) := by decide +kernel
theorem d_X11_copyMoss_82 : decode mt_X11_copyMoss.2.1 82 = .ok (.iload_n 3, 1) := by decide +kernel
theorem d_X11_copyMoss_83 : decode mt_X11_copyMoss.2.1 83 = .ok (.aload_n 0, 1) := by decide +kernel
theorem d_X11_copyMoss_84 : decode mt_X11_copyMoss.2.1 84 = .ok (.getfield 31, 3) := by decide +kernel
theorem d_X11_copyMoss_87 : decode mt_X11_copyMoss.2.1 87 = .ok (.getfield 250, 3) := by decide +kernel
theorem d_X11_copyMoss_90 : decode mt_X11_copyMoss.2.1 90 = .ok (.iload_n 3, 1) := by decide +kernel
theorem d_X11_copyMoss_91 : decode mt_X11_copyMoss.2.1 91 = .ok (.iaload, 1) := by decide +kernel
theorem d_X11_copyMoss_92 : decode mt_X11_copyMoss.2.1 92 = .ok (.i2l, 1) := by decide +kernel
theorem d_X11_copyMoss_93 : decode mt_X11_copyMoss.2.1 93 = .ok (.invokevirtual 143, 3) := by decide +kernel
theorem d_X11_copyMoss_96 : decode mt_X11_copyMoss.2.1 96 = .ok (.iinc 3 1, 3) := by decide +kernel
theorem d_X11_copyMoss_99 : decode mt_X11_copyMoss.2.1 99 = .ok (.goto (-34), 3) := by decide +kernel
theorem d_X11_copyMoss_102 : decode mt_X11_copyMoss.2.1 102 = .ok (.aload_n 0, 1) := by decide +kernel
theorem d_X11_copyMoss_103 : decode mt_X11_copyMoss.2.1 103 = .ok (.getfield 31, 3) := by decide +kernel
theorem d_X11_copyMoss_106 : decode mt_X11_copyMoss.2.1 106 = .ok (.getfield 196, 3) := by decide +kernel
theorem d_X11_copyMoss_109 : decode mt_X11_copyMoss.2.1 109 = .ok (.ireturn, 1) := by decide +kernel
noncomputable def f_X11_copyMoss_b65 (k65 : (Int → Int → Int → Mem → Option (Int × Mem))) (v0 v1 v3 : Int) (σ : Mem) : Option (Int × Mem) :=
  (gf Sh σ 11 v0 3).bind fun x15 =>
  (gf Sh σ 9 x15 0).bind fun x16 =>
  if x16 ≤ v3 then
    (gf Sh σ 11 v0 3).bind fun x17 =>
    (gf Sh σ 9 x17 0).bind fun x18 =>
    some (x18, σ)
  else
    (gf Sh σ 11 v0 0).bind fun x19 =>
    (al Sh σ 38 x19 v1).bind fun x20 =>
    (gf Sh σ 11 v0 3).bind fun x21 =>
    (gf Sh σ 9 x21 3).bind fun x22 =>
    (al Sh σ 20 x22 v3).bind fun x23 =>
    (f_X8_put x20 v3 x23 σ).bind fun r24 =>
    k65 v0 v1 (w32 (v3 + 1)) r24
theorem L_X11_copyMoss_b65 {sc : Nat × (Nat → Int32)} {o : Int × Mem} {k65 : (Int → Int → Int → Mem → Option (Int × Mem))} (hk65 : ∀ {v0 v1 v3 : Int} {σ : Mem}, k65 v0 v1 v3 σ = some o → E sc (Fm Sh (some (0, o.1)) Sh o.2) mt_X11_copyMoss 2 Sh Sh 65 [(2, v0), (0, v1), (9, 0), (0, v3)] [] Sh σ) {v0 v1 v3 : Int} {σ : Mem} (h : f_X11_copyMoss_b65 k65 v0 v1 v3 σ = some o) : E sc (Fm Sh (some (0, o.1)) Sh o.2) mt_X11_copyMoss 2 Sh Sh 65 [(2, v0), (0, v1), (9, 0), (0, v3)] [] Sh σ := by
  unfold f_X11_copyMoss_b65 at h
  refine E_iload_n d_X11_copyMoss_65 rfl ?_
  refine E_aload_n d_X11_copyMoss_66 rfl (by decide) ?_
  refine E_get d_X11_copyMoss_67 okX11 fl_X11_31 ⟨by decide, rfl⟩ h (fun x15 h => ?_)
  refine E_get d_X11_copyMoss_70 okX9 fl_X11_196 ⟨by decide, rfl⟩ h (fun x16 h => ?_)
  refine E_icmp_ge (tgt := 102) d_X11_copyMoss_73 (by decide) h (fun _ h => ?_) (fun _ h => ?_)
  · refine E_aload_n d_X11_copyMoss_102 rfl (by decide) ?_
    refine E_get d_X11_copyMoss_103 okX11 fl_X11_31 ⟨by decide, rfl⟩ h (fun x17 h => ?_)
    refine E_get d_X11_copyMoss_106 okX9 fl_X11_196 ⟨by decide, rfl⟩ h (fun x18 h => ?_)
    cases h
    exact E_iret d_X11_copyMoss_109 rfl
  · refine E_aload_n d_X11_copyMoss_76 rfl (by decide) ?_
    refine E_get d_X11_copyMoss_77 okX11 fl_X11_11 ⟨by decide, rfl⟩ h (fun x19 h => ?_)
    refine E_iload_n d_X11_copyMoss_80 rfl ?_
    refine E_aaload d_X11_copyMoss_81 (Or.inr (Or.inl ⟨rfl, rfl, rfl⟩)) h (fun x20 h => ?_)
    refine E_iload_n d_X11_copyMoss_82 rfl ?_
    refine E_aload_n d_X11_copyMoss_83 rfl (by decide) ?_
    refine E_get d_X11_copyMoss_84 okX11 fl_X11_31 ⟨by decide, rfl⟩ h (fun x21 h => ?_)
    refine E_get d_X11_copyMoss_87 okX9 fl_X11_250 ⟨by decide, rfl⟩ h (fun x22 h => ?_)
    refine E_iload_n d_X11_copyMoss_90 rfl ?_
    refine E_iaload d_X11_copyMoss_91 h (fun x23 h => ?_)
    refine E_i2l d_X11_copyMoss_92 ?_
    refine bd h (fun r24 q25 h => ?_)
    refine E_cVv (as := [(0, v3), (1, x23)]) (st := []) (a := x20) d_X11_copyMoss_93 mk_X8_put nl_X11_143 (by omega) ⟨rfl, rfl, Nat.le_of_ble_eq_true rfl⟩ okX8 rfl (L_X8_put q25) ?_
    refine E_iinc d_X11_copyMoss_96 (ls' := [(2, v0), (0, v1), (9, 0), (0, w32 (v3 + 1))]) rfl ⟨by decide, rfl⟩ ?_
    refine E_goto (tgt := 65) d_X11_copyMoss_99 (by decide) ?_
    exact (hk65 h)
noncomputable def f_X11_copyMoss_h65 (n : Nat) : Int → Int → Int → Mem → Option (Int × Mem) := Nat.rec (motive := fun _ => Int → Int → Int → Mem → Option (Int × Mem)) (fun _ _ _ _ => none) (fun _ ih => f_X11_copyMoss_b65 (ih)) n
theorem L_X11_copyMoss_h65 {sc : Nat × (Nat → Int32)} {o : Int × Mem} : ∀ (n : Nat) {v0 v1 v3 : Int} {σ : Mem}, f_X11_copyMoss_h65 n v0 v1 v3 σ = some o → E sc (Fm Sh (some (0, o.1)) Sh o.2) mt_X11_copyMoss 2 Sh Sh 65 [(2, v0), (0, v1), (9, 0), (0, v3)] [] Sh σ := by
  intro n
  induction n with
  | zero => intro v0 v1 v3 σ h; cases h
  | succ n ih => intro v0 v1 v3 σ h; exact L_X11_copyMoss_b65 (@ih) h
noncomputable def f_X11_copyMoss_b53 (v0 v1 v2 : Int) (σ : Mem) : Option (Int × Mem) :=
  (f_X11_refused v0 v2 σ).bind fun r13 =>
  if r13.1 = 0 then
    f_X11_copyMoss_h65 FU v0 v1 0 r13.2
  else
    some ((-1), r13.2)
theorem L_X11_copyMoss_b53 {sc : Nat × (Nat → Int32)} {o : Int × Mem} {v0 v1 v2 : Int} {σ : Mem} (h : f_X11_copyMoss_b53 v0 v1 v2 σ = some o) : E sc (Fm Sh (some (0, o.1)) Sh o.2) mt_X11_copyMoss 2 Sh Sh 53 [(2, v0), (0, v1), (0, v2), (9, 0)] [] Sh σ := by
  unfold f_X11_copyMoss_b53 at h
  refine E_aload_n d_X11_copyMoss_53 rfl (by decide) ?_
  refine E_iload_n d_X11_copyMoss_54 rfl ?_
  refine bd h (fun r13 q14 h => ?_)
  refine E_cV (as := [(0, v2)]) (st := []) (a := v0) d_X11_copyMoss_55 mk_X11_refused nl_X11_132 (by omega) ⟨rfl, rfl, Nat.le_of_ble_eq_true rfl⟩ okX11 rfl (L_X11_refused q14) ?_
  refine E_if_eq (tgt := 63) d_X11_copyMoss_58 (by decide) h (fun _ h => ?_) (fun _ h => ?_)
  · refine E_iconst d_X11_copyMoss_63 (c32 rfl) ?_
    refine E_istore_n d_X11_copyMoss_64 (ls' := [(2, v0), (0, v1), (0, v2), (0, 0)]) ⟨by decide, rfl⟩ ?_
    exact E_weak (ls' := [(2, v0), (0, v1), (9, 0), (0, 0)]) ⟨Or.inr rfl, Or.inr rfl, Or.inl rfl, Or.inr rfl, trivial⟩ (L_X11_copyMoss_h65 FU h)
  · refine E_iconst d_X11_copyMoss_61 (c32 rfl) ?_
    cases h
    exact E_iret d_X11_copyMoss_62 rfl
noncomputable def f_X11_copyMoss_b0 (v0 v1 : Int) (σ : Mem) : Option (Int × Mem) :=
  (f_X11_isTray v1 σ).bind fun r1 =>
  if r1 = 0 then
    f_X11_copyMoss_b53 v0 v1 1 σ
  else
    (gf Sh σ 11 v0 0).bind fun x3 =>
    (al Sh σ 38 x3 v1).bind fun x4 =>
    (f_X8_isMissing x4 σ).bind fun r5 =>
    if r5 = 0 then
      (gf Sh σ 11 v0 0).bind fun x7 =>
      (al Sh σ 38 x7 v1).bind fun x8 =>
      (gf Sh σ 11 v0 3).bind fun x9 =>
      (gf Sh σ 9 x9 0).bind fun x10 =>
      (f_X8_hasRow x8 0 x10 σ).bind fun r11 =>
      if r11 = 0 then
        f_X11_copyMoss_b53 v0 v1 4 σ
      else
        f_X11_copyMoss_b53 v0 v1 0 σ
    else
      f_X11_copyMoss_b53 v0 v1 3 σ
theorem L_X11_copyMoss_b0 {sc : Nat × (Nat → Int32)} {o : Int × Mem} {v0 v1 : Int} {σ : Mem} (h : f_X11_copyMoss_b0 v0 v1 σ = some o) : E sc (Fm Sh (some (0, o.1)) Sh o.2) mt_X11_copyMoss 2 Sh Sh 0 [(2, v0), (0, v1), (9, 0), (9, 0)] [] Sh σ := by
  unfold f_X11_copyMoss_b0 at h
  refine E_iconst d_X11_copyMoss_0 (c32 rfl) ?_
  refine E_istore_n d_X11_copyMoss_1 (ls' := [(2, v0), (0, v1), (0, 0), (9, 0)]) ⟨by decide, rfl⟩ ?_
  refine E_iload_n d_X11_copyMoss_2 rfl ?_
  refine bd h (fun r1 q2 h => ?_)
  refine E_cS (as := [(0, v1)]) (st := []) d_X11_copyMoss_3 mk_X11_isTray nl_X11_125 (by omega) ⟨rfl, rfl, Nat.le_of_ble_eq_true rfl⟩ (L_X11_isTray q2) ?_
  refine E_if_ne (tgt := 14) d_X11_copyMoss_6 (by decide) h (fun _ h => ?_) (fun _ h => ?_)
  · refine E_iconst d_X11_copyMoss_9 (c32 rfl) ?_
    refine E_istore_n d_X11_copyMoss_10 (ls' := [(2, v0), (0, v1), (0, 1), (9, 0)]) ⟨by decide, rfl⟩ ?_
    refine E_goto (tgt := 53) d_X11_copyMoss_11 (by decide) ?_
    exact (L_X11_copyMoss_b53 h)
  · refine E_aload_n d_X11_copyMoss_14 rfl (by decide) ?_
    refine E_get d_X11_copyMoss_15 okX11 fl_X11_11 ⟨by decide, rfl⟩ h (fun x3 h => ?_)
    refine E_iload_n d_X11_copyMoss_18 rfl ?_
    refine E_aaload d_X11_copyMoss_19 (Or.inr (Or.inl ⟨rfl, rfl, rfl⟩)) h (fun x4 h => ?_)
    refine bd h (fun r5 q6 h => ?_)
    refine E_cV (as := []) (st := []) (a := x4) d_X11_copyMoss_20 mk_X8_isMissing nl_X11_163 (by omega) ⟨rfl, rfl, Nat.le_of_ble_eq_true rfl⟩ okX8 rfl (L_X8_isMissing q6) ?_
    refine E_if_eq (tgt := 31) d_X11_copyMoss_23 (by decide) h (fun _ h => ?_) (fun _ h => ?_)
    · refine E_aload_n d_X11_copyMoss_31 rfl (by decide) ?_
      refine E_get d_X11_copyMoss_32 okX11 fl_X11_11 ⟨by decide, rfl⟩ h (fun x7 h => ?_)
      refine E_iload_n d_X11_copyMoss_35 rfl ?_
      refine E_aaload d_X11_copyMoss_36 (Or.inr (Or.inl ⟨rfl, rfl, rfl⟩)) h (fun x8 h => ?_)
      refine E_iconst d_X11_copyMoss_37 (c32 rfl) ?_
      refine E_aload_n d_X11_copyMoss_38 rfl (by decide) ?_
      refine E_get d_X11_copyMoss_39 okX11 fl_X11_31 ⟨by decide, rfl⟩ h (fun x9 h => ?_)
      refine E_get d_X11_copyMoss_42 okX9 fl_X11_196 ⟨by decide, rfl⟩ h (fun x10 h => ?_)
      refine bd h (fun r11 q12 h => ?_)
      refine E_cV (as := [(0, 0), (0, x10)]) (st := []) (a := x8) d_X11_copyMoss_45 mk_X8_hasRow nl_X11_170 (by omega) ⟨rfl, rfl, Nat.le_of_ble_eq_true rfl⟩ okX8 rfl (L_X8_hasRow q12) ?_
      refine E_if_ne (tgt := 53) d_X11_copyMoss_48 (by decide) h (fun _ h => ?_) (fun _ h => ?_)
      · refine E_iconst d_X11_copyMoss_51 (c32 rfl) ?_
        refine E_istore_n d_X11_copyMoss_52 (ls' := [(2, v0), (0, v1), (0, 4), (9, 0)]) ⟨by decide, rfl⟩ ?_
        exact (L_X11_copyMoss_b53 h)
      · exact (L_X11_copyMoss_b53 h)
    · refine E_iconst d_X11_copyMoss_26 (c32 rfl) ?_
      refine E_istore_n d_X11_copyMoss_27 (ls' := [(2, v0), (0, v1), (0, 3), (9, 0)]) ⟨by decide, rfl⟩ ?_
      refine E_goto (tgt := 53) d_X11_copyMoss_28 (by decide) ?_
      exact (L_X11_copyMoss_b53 h)
noncomputable def f_X11_copyMoss (v0 v1 : Int) (σ : Mem) : Option (Int × Mem) := if isO Sh 11 v0 = true then f_X11_copyMoss_b0 v0 v1 σ else none
theorem L_X11_copyMoss {o : Int × Mem} {v0 v1 : Int} {σ : Mem} (h : f_X11_copyMoss v0 v1 σ = some o) : (isO Sh 11 v0 = true ∧ Cn mt_X11_copyMoss 2 [(2, v0), (0, v1)] Sh σ (some (0, o.1)) Sh o.2) := ⟨(ite_ok h).1, Cn_of mk_X11_copyMoss.1.2.2.1 (Nat.le_of_ble_eq_true rfl) (fun sc => L_X11_copyMoss_b0 (ite_ok h).2)⟩
theorem d_X11_isGuilt_0 : decode mt_X11_isGuilt.2.1 0 = .ok (.lload_n 0, 1) := by decide +kernel
theorem d_X11_isGuilt_1 : decode mt_X11_isGuilt.2.1 1 = .ok (.lconst 0, 1) := by decide +kernel
theorem d_X11_isGuilt_2 : decode mt_X11_isGuilt.2.1 2 = .ok (.lcmp, 1) := by decide +kernel
theorem d_X11_isGuilt_3 : decode mt_X11_isGuilt.2.1 3 = .ok (.ifCond .lt 15, 3) := by decide +kernel
theorem d_X11_isGuilt_6 : decode mt_X11_isGuilt.2.1 6 = .ok (.lload_n 0, 1) := by decide +kernel
theorem d_X11_isGuilt_7 : decode mt_X11_isGuilt.2.1 7 = .ok (.ldc2_w 308, 3) := by decide +kernel
theorem d_X11_isGuilt_10 : decode mt_X11_isGuilt.2.1 10 = .ok (.lcmp, 1) := by decide +kernel
theorem d_X11_isGuilt_11 : decode mt_X11_isGuilt.2.1 11 = .ok (.ifCond .gt 7, 3) := by decide +kernel
theorem d_X11_isGuilt_14 : decode mt_X11_isGuilt.2.1 14 = .ok (.iconst 1, 1) := by decide +kernel
theorem d_X11_isGuilt_15 : decode mt_X11_isGuilt.2.1 15 = .ok (.goto 4, 3) := by decide +kernel
theorem d_X11_isGuilt_18 : decode mt_X11_isGuilt.2.1 18 = .ok (.iconst 0, 1) := by decide +kernel
theorem d_X11_isGuilt_19 : decode mt_X11_isGuilt.2.1 19 = .ok (.ireturn, 1) := by decide +kernel
noncomputable def f_X11_isGuilt_b0 (v0 : Int) (σ : Mem) : Option (Int) :=
  if lcmp v0 0 < 0 then
    some (0)
  else
    if 0 < lcmp v0 99 then
      some (0)
    else
      some (1)
theorem L_X11_isGuilt_b0 {sc : Nat × (Nat → Int32)} {o : Int} {σ : Mem} {v0 : Int} (h : f_X11_isGuilt_b0 v0 σ = some o) : E sc (Fm Sh (some (0, o)) Sh σ) mt_X11_isGuilt 1 Sh Sh 0 [(1, v0), (9, 0)] [] Sh σ := by
  unfold f_X11_isGuilt_b0 at h
  refine E_lload_n d_X11_isGuilt_0 rfl ?_
  refine E_lconst d_X11_isGuilt_1 cl0 ?_
  refine E_lcmp d_X11_isGuilt_2 ?_
  refine E_if_lt (tgt := 18) d_X11_isGuilt_3 (by decide) h (fun _ h => ?_) (fun _ h => ?_)
  · refine E_iconst d_X11_isGuilt_18 (c32 rfl) ?_
    cases h
    exact E_zret d_X11_isGuilt_19 rfl (Or.inl rfl)
  · refine E_lload_n d_X11_isGuilt_6 rfl ?_
    refine E_ldc2 d_X11_isGuilt_7 kw_X11_308 ?_
    refine E_lcmp d_X11_isGuilt_10 ?_
    refine E_if_gt (tgt := 18) d_X11_isGuilt_11 (by decide) h (fun _ h => ?_) (fun _ h => ?_)
    · refine E_iconst d_X11_isGuilt_18 (c32 rfl) ?_
      cases h
      exact E_zret d_X11_isGuilt_19 rfl (Or.inl rfl)
    · refine E_iconst d_X11_isGuilt_14 (c32 rfl) ?_
      refine E_goto (tgt := 19) d_X11_isGuilt_15 (by decide) ?_
      cases h
      exact E_zret d_X11_isGuilt_19 rfl (Or.inr rfl)
noncomputable def f_X11_isGuilt (v0 : Int) (σ : Mem) : Option (Int) := f_X11_isGuilt_b0 v0 σ
theorem L_X11_isGuilt {o : Int} {v0 : Int} {σ : Mem} (h : f_X11_isGuilt v0 σ = some o) : Cn mt_X11_isGuilt 1 [(1, v0)] Sh σ (some (0, o)) Sh σ := Cn_of mk_X11_isGuilt.1.2.2.1 (Nat.le_of_ble_eq_true rfl) (fun sc => L_X11_isGuilt_b0 h)
theorem d_X11_guiltWhy_0 : decode mt_X11_guiltWhy.2.1 0 = .ok (.aload_n 0, 1) := by decide +kernel
theorem d_X11_guiltWhy_1 : decode mt_X11_guiltWhy.2.1 1 = .ok (.getfield 31, 3) := by decide +kernel
theorem d_X11_guiltWhy_4 : decode mt_X11_guiltWhy.2.1 4 = .ok (.iload_n 2, 1) := by decide +kernel
theorem d_X11_guiltWhy_5 : decode mt_X11_guiltWhy.2.1 5 = .ok (.i2l, 1) := by decide +kernel
theorem d_X11_guiltWhy_6 : decode mt_X11_guiltWhy.2.1 6 = .ok (.invokevirtual 290, 3) := by decide +kernel
theorem d_X11_guiltWhy_9 : decode mt_X11_guiltWhy.2.1 9 = .ok (.ifCond .ne 5, 3) := by decide +kernel
theorem d_X11_guiltWhy_12 : decode mt_X11_guiltWhy.2.1 12 = .ok (.iconst 2, 1) := by decide +kernel
theorem d_X11_guiltWhy_13 : decode mt_X11_guiltWhy.2.1 13 = .ok (.ireturn, 1) := by decide +kernel
theorem d_X11_guiltWhy_14 : decode mt_X11_guiltWhy.2.1 14 = .ok (.iload_n 1, 1) := by decide +kernel
theorem d_X11_guiltWhy_15 : decode mt_X11_guiltWhy.2.1 15 = .ok (.i2l, 1) := by decide +kernel
theorem d_X11_guiltWhy_16 : decode mt_X11_guiltWhy.2.1 16 = .ok (.invokestatic 310, 3) := by decide +kernel
theorem d_X11_guiltWhy_19 : decode mt_X11_guiltWhy.2.1 19 = .ok (.ifCond .eq 7, 3) := by decide +kernel
theorem d_X11_guiltWhy_22 : decode mt_X11_guiltWhy.2.1 22 = .ok (.iconst 0, 1) := by decide +kernel
theorem d_X11_guiltWhy_23 : decode mt_X11_guiltWhy.2.1 23 = .ok (.goto 4, 3) := by decide +kernel
theorem d_X11_guiltWhy_26 : decode mt_X11_guiltWhy.2.1 26 = .ok (.iconst 5, 1) := by decide +kernel
theorem d_X11_guiltWhy_27 : decode mt_X11_guiltWhy.2.1 27 = .ok (.ireturn, 1) := by decide +kernel
noncomputable def f_X11_guiltWhy_b0 (v0 v1 v2 : Int) (σ : Mem) : Option (Int) :=
  (gf Sh σ 11 v0 3).bind fun x1 =>
  (f_X9_isPlace x1 v2 σ).bind fun r2 =>
  if r2 = 0 then
    some (2)
  else
    (f_X11_isGuilt v1 σ).bind fun r4 =>
    if r4 = 0 then
      some (5)
    else
      some (0)
theorem L_X11_guiltWhy_b0 {sc : Nat × (Nat → Int32)} {o : Int} {σ : Mem} {v0 v1 v2 : Int} (h : f_X11_guiltWhy_b0 v0 v1 v2 σ = some o) : E sc (Fm Sh (some (0, o)) Sh σ) mt_X11_guiltWhy 2 Sh Sh 0 [(2, v0), (0, v1), (0, v2)] [] Sh σ := by
  unfold f_X11_guiltWhy_b0 at h
  refine E_aload_n d_X11_guiltWhy_0 rfl (by decide) ?_
  refine E_get d_X11_guiltWhy_1 okX11 fl_X11_31 ⟨by decide, rfl⟩ h (fun x1 h => ?_)
  refine E_iload_n d_X11_guiltWhy_4 rfl ?_
  refine E_i2l d_X11_guiltWhy_5 ?_
  refine bd h (fun r2 q3 h => ?_)
  refine E_cV (as := [(1, v2)]) (st := []) (a := x1) d_X11_guiltWhy_6 mk_X9_isPlace nl_X11_290 (by omega) ⟨rfl, rfl, Nat.le_of_ble_eq_true rfl⟩ okX9 rfl (L_X9_isPlace q3) ?_
  refine E_if_ne (tgt := 14) d_X11_guiltWhy_9 (by decide) h (fun _ h => ?_) (fun _ h => ?_)
  · refine E_iconst d_X11_guiltWhy_12 (c32 rfl) ?_
    cases h
    exact E_iret d_X11_guiltWhy_13 rfl
  · refine E_iload_n d_X11_guiltWhy_14 rfl ?_
    refine E_i2l d_X11_guiltWhy_15 ?_
    refine bd h (fun r4 q5 h => ?_)
    refine E_cS (as := [(1, v1)]) (st := []) d_X11_guiltWhy_16 mk_X11_isGuilt nl_X11_310 (by omega) ⟨rfl, rfl, Nat.le_of_ble_eq_true rfl⟩ (L_X11_isGuilt q5) ?_
    refine E_if_eq (tgt := 26) d_X11_guiltWhy_19 (by decide) h (fun _ h => ?_) (fun _ h => ?_)
    · refine E_iconst d_X11_guiltWhy_26 (c32 rfl) ?_
      cases h
      exact E_iret d_X11_guiltWhy_27 rfl
    · refine E_iconst d_X11_guiltWhy_22 (c32 rfl) ?_
      refine E_goto (tgt := 27) d_X11_guiltWhy_23 (by decide) ?_
      cases h
      exact E_iret d_X11_guiltWhy_27 rfl
noncomputable def f_X11_guiltWhy (v0 v1 v2 : Int) (σ : Mem) : Option (Int) := if isO Sh 11 v0 = true then f_X11_guiltWhy_b0 v0 v1 v2 σ else none
theorem L_X11_guiltWhy {o : Int} {v0 v1 v2 : Int} {σ : Mem} (h : f_X11_guiltWhy v0 v1 v2 σ = some o) : (isO Sh 11 v0 = true ∧ Cn mt_X11_guiltWhy 2 [(2, v0), (0, v1), (0, v2)] Sh σ (some (0, o)) Sh σ) := ⟨(ite_ok h).1, Cn_of mk_X11_guiltWhy.1.2.2.1 (Nat.le_of_ble_eq_true rfl) (fun sc => L_X11_guiltWhy_b0 (ite_ok h).2)⟩
theorem d_X11_judge_0 : decode mt_X11_judge.2.1 0 = .ok (.aload_n 0, 1) := by decide +kernel
theorem d_X11_judge_1 : decode mt_X11_judge.2.1 1 = .ok (.aload_n 0, 1) := by decide +kernel
theorem d_X11_judge_2 : decode mt_X11_judge.2.1 2 = .ok (.iload_n 1, 1) := by decide +kernel
theorem d_X11_judge_3 : decode mt_X11_judge.2.1 3 = .ok (.iload_n 2, 1) := by decide +kernel
theorem d_X11_judge_4 : decode mt_X11_judge.2.1 4 = .ok (.invokevirtual 274, 3) := by decide +kernel
theorem d_X11_judge_7 : decode mt_X11_judge.2.1 7 = .ok (.invokevirtual 132, 3) := by decide +kernel
theorem d_X11_judge_10 : decode mt_X11_judge.2.1 10 = .ok (.ifCond .eq 5, 3) := by decide +kernel
theorem d_X11_judge_13 : decode mt_X11_judge.2.1 13 = .ok (.iconst (-1), 1) := by decide +kernel
theorem d_X11_judge_14 : decode mt_X11_judge.2.1 14 = .ok (.ireturn, 1) := by decide +kernel
theorem d_X11_judge_15 : decode mt_X11_judge.2.1 15 = .ok (.aload_n 0, 1) := by decide +kernel
theorem d_X11_judge_16 : decode mt_X11_judge.2.1 16 = .ok (.getfield 31, 3) := by decide +kernel
theorem d_X11_judge_19 : decode mt_X11_judge.2.1 19 = .ok (.iload_n 1, 1) := by decide +kernel
theorem d_X11_judge_20 : decode mt_X11_judge.2.1 20 = .ok (.iload_n 2, 1) := by decide +kernel
theorem d_X11_judge_21 : decode mt_X11_judge.2.1 21 = .ok (.iload_n 3, 1) := by decide +kernel
theorem d_X11_judge_22 : decode mt_X11_judge.2.1 22 = .ok (.invokevirtual 277, 3) := by decide +kernel
theorem d_X11_judge_25 : decode mt_X11_judge.2.1 25 = .ok (.ifCond .eq 7, 3) := by decide +kernel
theorem d_X11_judge_28 : decode mt_X11_judge.2.1 28 = .ok (.iconst 1, 1) := by decide +kernel
theorem d_X11_judge_29 : decode mt_X11_judge.2.1 29 = .ok (.goto 4, 3) := by decide +kernel
theorem d_X11_judge_32 : decode mt_X11_judge.2.1 32 = .ok (.iconst 0, 1) := by decide +kernel
theorem d_X11_judge_33 : decode mt_X11_judge.2.1 33 = .ok (.ireturn, 1) := by decide +kernel
noncomputable def f_X11_judge_b0 (v0 v1 v2 v3 : Int) (σ : Mem) : Option (Int × Mem) :=
  (f_X11_guiltWhy v0 v1 v2 σ).bind fun r1 =>
  (f_X11_refused v0 r1 σ).bind fun r3 =>
  if r3.1 = 0 then
    (gf Sh r3.2 11 v0 3).bind fun x5 =>
    (f_X9_holdTrial x5 v1 v2 v3 r3.2).bind fun r6 =>
    if r6.1 = 0 then
      some (0, r6.2)
    else
      some (1, r6.2)
  else
    some ((-1), r3.2)
theorem L_X11_judge_b0 {sc : Nat × (Nat → Int32)} {o : Int × Mem} {v0 v1 v2 v3 : Int} {σ : Mem} (h : f_X11_judge_b0 v0 v1 v2 v3 σ = some o) : E sc (Fm Sh (some (0, o.1)) Sh o.2) mt_X11_judge 5 Sh Sh 0 [(2, v0), (0, v1), (0, v2), (0, v3)] [] Sh σ := by
  unfold f_X11_judge_b0 at h
  refine E_aload_n d_X11_judge_0 rfl (by decide) ?_
  refine E_aload_n d_X11_judge_1 rfl (by decide) ?_
  refine E_iload_n d_X11_judge_2 rfl ?_
  refine E_iload_n d_X11_judge_3 rfl ?_
  refine bd h (fun r1 q2 h => ?_)
  refine E_cV (as := [(0, v1), (0, v2)]) (st := [(2, v0)]) (a := v0) d_X11_judge_4 mk_X11_guiltWhy nl_X11_274 (by omega) ⟨rfl, rfl, Nat.le_of_ble_eq_true rfl⟩ okX11 rfl (L_X11_guiltWhy q2) ?_
  refine bd h (fun r3 q4 h => ?_)
  refine E_cV (as := [(0, r1)]) (st := []) (a := v0) d_X11_judge_7 mk_X11_refused nl_X11_132 (by omega) ⟨rfl, rfl, Nat.le_of_ble_eq_true rfl⟩ okX11 rfl (L_X11_refused q4) ?_
  refine E_if_eq (tgt := 15) d_X11_judge_10 (by decide) h (fun _ h => ?_) (fun _ h => ?_)
  · refine E_aload_n d_X11_judge_15 rfl (by decide) ?_
    refine E_get d_X11_judge_16 okX11 fl_X11_31 ⟨by decide, rfl⟩ h (fun x5 h => ?_)
    refine E_iload_n d_X11_judge_19 rfl ?_
    refine E_iload_n d_X11_judge_20 rfl ?_
    refine E_iload_n d_X11_judge_21 rfl ?_
    refine bd h (fun r6 q7 h => ?_)
    refine E_cV (as := [(0, v1), (0, v2), (0, v3)]) (st := []) (a := x5) d_X11_judge_22 mk_X9_holdTrial nl_X11_277 (by omega) ⟨rfl, rfl, Nat.le_of_ble_eq_true rfl⟩ okX9 rfl (L_X9_holdTrial q7) ?_
    refine E_if_eq (tgt := 32) d_X11_judge_25 (by decide) h (fun _ h => ?_) (fun _ h => ?_)
    · refine E_iconst d_X11_judge_32 (c32 rfl) ?_
      cases h
      exact E_iret d_X11_judge_33 rfl
    · refine E_iconst d_X11_judge_28 (c32 rfl) ?_
      refine E_goto (tgt := 33) d_X11_judge_29 (by decide) ?_
      cases h
      exact E_iret d_X11_judge_33 rfl
  · refine E_iconst d_X11_judge_13 (c32 rfl) ?_
    cases h
    exact E_iret d_X11_judge_14 rfl
noncomputable def f_X11_judge (v0 v1 v2 v3 : Int) (σ : Mem) : Option (Int × Mem) := if isO Sh 11 v0 = true then f_X11_judge_b0 v0 v1 v2 v3 σ else none
theorem L_X11_judge {o : Int × Mem} {v0 v1 v2 v3 : Int} {σ : Mem} (h : f_X11_judge v0 v1 v2 v3 σ = some o) : (isO Sh 11 v0 = true ∧ Cn mt_X11_judge 5 [(2, v0), (0, v1), (0, v2), (0, v3)] Sh σ (some (0, o.1)) Sh o.2) := ⟨(ite_ok h).1, Cn_of mk_X11_judge.1.2.2.1 (Nat.le_of_ble_eq_true rfl) (fun sc => L_X11_judge_b0 (ite_ok h).2)⟩
theorem d_X11_year_0 : decode mt_X11_year.2.1 0 = .ok (.iconst 0, 1) := by decide +kernel
theorem d_X11_year_1 : decode mt_X11_year.2.1 1 = .ok (.istore_n 2, 1) := by decide +kernel
theorem d_X11_year_2 : decode mt_X11_year.2.1 2 = .ok (.iload_n 1, 1) := by decide +kernel
theorem d_X11_year_3 : decode mt_X11_year.2.1 3 = .ok (.iconst 1, 1) := by decide +kernel
theorem d_X11_year_4 : decode mt_X11_year.2.1 4 = .ok (.if_icmp .lt 9, 3) := by decide +kernel
theorem d_X11_year_7 : decode mt_X11_year.2.1 7 = .ok (.iload_n 1, 1) := by decide +kernel
theorem d_X11_year_8 : decode mt_X11_year.2.1 8 = .ok (.bipush 99, 2) := by decide +kernel
theorem d_X11_year_10 : decode mt_X11_year.2.1 10 = .ok (.if_icmp .le 8, 3) := by decide +kernel
theorem d_X11_year_13 : decode mt_X11_year.2.1 13 = .ok (.iconst 5, 1) := by decide +kernel
theorem d_X11_year_14 : decode mt_X11_year.2.1 14 = .ok (.istore_n 2, 1) := by decide +kernel
theorem d_X11_year_15 : decode mt_X11_year.2.1 15 = .ok (.goto 17, 3) := by decide +kernel
theorem d_X11_year_18 : decode mt_X11_year.2.1 18 = .ok (.aload_n 0, 1) := by decide +kernel
theorem d_X11_year_19 : decode mt_X11_year.2.1 19 = .ok (.getfield 31, 3) := by decide +kernel
theorem d_X11_year_22 : decode mt_X11_year.2.1 22 = .ok (.iload_n 1, 1) := by decide +kernel
theorem d_X11_year_23 : decode mt_X11_year.2.1 23 = .ok (.invokevirtual 281, 3) := by decide +kernel
theorem d_X11_year_26 : decode mt_X11_year.2.1 26 = .ok (.ifCond .ne 6, 3) := by decide +kernel
theorem d_X11_year_29 : decode mt_X11_year.2.1 29 = .ok (.bipush 7, 2) := by decide +kernel
theorem d_X11_year_31 : decode mt_X11_year.2.1 31 = .ok (.istore_n 2, 1) := by decide +kernel
theorem d_X11_year_32 : decode mt_X11_year.2.1 32 = .ok (.aload_n 0, 1) := by decide +kernel
theorem d_X11_year_33 : decode mt_X11_year.2.1 33 = .ok (.iload_n 2, 1) := by decide +kernel
theorem d_X11_year_34 : decode mt_X11_year.2.1 34 = .ok (.invokevirtual 132, 3) := by decide +kernel
theorem d_X11_year_37 : decode mt_X11_year.2.1 37 = .ok (.ifCond .eq 7, 3) := by decide +kernel
theorem d_X11_year_40 : decode mt_X11_year.2.1 40 = .ok (.iconst (-1), 1) := by decide +kernel
theorem d_X11_year_41 : decode mt_X11_year.2.1 41 = .ok (.goto 10, 3) := by decide +kernel
theorem d_X11_year_44 : decode mt_X11_year.2.1 44 = .ok (.aload_n 0, 1) := by decide +kernel
theorem d_X11_year_45 : decode mt_X11_year.2.1 45 = .ok (.getfield 31, 3) := by decide +kernel
theorem d_X11_year_48 : decode mt_X11_year.2.1 48 = .ok (.invokevirtual 239, 3) := by decide +kernel
theorem d_X11_year_51 : decode mt_X11_year.2.1 51 = .ok (.ireturn, 1) := by decide +kernel
noncomputable def f_X11_year_b32 (v0 v2 : Int) (σ : Mem) : Option (Int × Mem) :=
  (f_X11_refused v0 v2 σ).bind fun r4 =>
  if r4.1 = 0 then
    (gf Sh r4.2 11 v0 3).bind fun x6 =>
    (f_X9_mossOfAll x6 r4.2).bind fun r7 =>
    some (r7, r4.2)
  else
    some ((-1), r4.2)
theorem L_X11_year_b32 {sc : Nat × (Nat → Int32)} {o : Int × Mem} {v0 v2 : Int} {σ : Mem} (h : f_X11_year_b32 v0 v2 σ = some o) : E sc (Fm Sh (some (0, o.1)) Sh o.2) mt_X11_year 3 Sh Sh 32 [(2, v0), (9, 0), (0, v2)] [] Sh σ := by
  unfold f_X11_year_b32 at h
  refine E_aload_n d_X11_year_32 rfl (by decide) ?_
  refine E_iload_n d_X11_year_33 rfl ?_
  refine bd h (fun r4 q5 h => ?_)
  refine E_cV (as := [(0, v2)]) (st := []) (a := v0) d_X11_year_34 mk_X11_refused nl_X11_132 (by omega) ⟨rfl, rfl, Nat.le_of_ble_eq_true rfl⟩ okX11 rfl (L_X11_refused q5) ?_
  refine E_if_eq (tgt := 44) d_X11_year_37 (by decide) h (fun _ h => ?_) (fun _ h => ?_)
  · refine E_aload_n d_X11_year_44 rfl (by decide) ?_
    refine E_get d_X11_year_45 okX11 fl_X11_31 ⟨by decide, rfl⟩ h (fun x6 h => ?_)
    refine bd h (fun r7 q8 h => ?_)
    refine E_cV (as := []) (st := []) (a := x6) d_X11_year_48 mk_X9_mossOfAll nl_X11_239 (by omega) ⟨rfl, rfl, Nat.le_of_ble_eq_true rfl⟩ okX9 rfl (L_X9_mossOfAll q8) ?_
    cases h
    exact E_iret d_X11_year_51 rfl
  · refine E_iconst d_X11_year_40 (c32 rfl) ?_
    refine E_goto (tgt := 51) d_X11_year_41 (by decide) ?_
    cases h
    exact E_iret d_X11_year_51 rfl
noncomputable def f_X11_year_b13 (v0 : Int) (σ : Mem) : Option (Int × Mem) :=
  f_X11_year_b32 v0 5 σ
theorem L_X11_year_b13 {sc : Nat × (Nat → Int32)} {o : Int × Mem} {v0 : Int} {σ : Mem} (h : f_X11_year_b13 v0 σ = some o) : E sc (Fm Sh (some (0, o.1)) Sh o.2) mt_X11_year 3 Sh Sh 13 [(2, v0), (9, 0), (9, 0)] [] Sh σ := by
  unfold f_X11_year_b13 at h
  refine E_iconst d_X11_year_13 (c32 rfl) ?_
  refine E_istore_n d_X11_year_14 (ls' := [(2, v0), (9, 0), (0, 5)]) ⟨by decide, rfl⟩ ?_
  refine E_goto (tgt := 32) d_X11_year_15 (by decide) ?_
  exact (L_X11_year_b32 h)
noncomputable def f_X11_year_b0 (v0 v1 : Int) (σ : Mem) : Option (Int × Mem) :=
  if v1 < 1 then
    f_X11_year_b13 v0 σ
  else
    if v1 ≤ 99 then
      (gf Sh σ 11 v0 3).bind fun x1 =>
      (f_X9_passYears x1 v1 σ).bind fun r2 =>
      if r2.1 = 0 then
        f_X11_year_b32 v0 7 r2.2
      else
        f_X11_year_b32 v0 0 r2.2
    else
      f_X11_year_b13 v0 σ
theorem L_X11_year_b0 {sc : Nat × (Nat → Int32)} {o : Int × Mem} {v0 v1 : Int} {σ : Mem} (h : f_X11_year_b0 v0 v1 σ = some o) : E sc (Fm Sh (some (0, o.1)) Sh o.2) mt_X11_year 3 Sh Sh 0 [(2, v0), (0, v1), (9, 0)] [] Sh σ := by
  unfold f_X11_year_b0 at h
  refine E_iconst d_X11_year_0 (c32 rfl) ?_
  refine E_istore_n d_X11_year_1 (ls' := [(2, v0), (0, v1), (0, 0)]) ⟨by decide, rfl⟩ ?_
  refine E_iload_n d_X11_year_2 rfl ?_
  refine E_iconst d_X11_year_3 (c32 rfl) ?_
  refine E_icmp_lt (tgt := 13) d_X11_year_4 (by decide) h (fun _ h => ?_) (fun _ h => ?_)
  · exact E_weak (ls' := [(2, v0), (9, 0), (9, 0)]) ⟨Or.inr rfl, Or.inl rfl, Or.inl rfl, trivial⟩ (L_X11_year_b13 h)
  · refine E_iload_n d_X11_year_7 rfl ?_
    refine E_bipush d_X11_year_8 (c8 rfl) ?_
    refine E_icmp_le (tgt := 18) d_X11_year_10 (by decide) h (fun _ h => ?_) (fun _ h => ?_)
    · refine E_aload_n d_X11_year_18 rfl (by decide) ?_
      refine E_get d_X11_year_19 okX11 fl_X11_31 ⟨by decide, rfl⟩ h (fun x1 h => ?_)
      refine E_iload_n d_X11_year_22 rfl ?_
      refine bd h (fun r2 q3 h => ?_)
      refine E_cV (as := [(0, v1)]) (st := []) (a := x1) d_X11_year_23 mk_X9_passYears nl_X11_281 (by omega) ⟨rfl, rfl, Nat.le_of_ble_eq_true rfl⟩ okX9 rfl (L_X9_passYears q3) ?_
      refine E_if_ne (tgt := 32) d_X11_year_26 (by decide) h (fun _ h => ?_) (fun _ h => ?_)
      · refine E_bipush d_X11_year_29 (c8 rfl) ?_
        refine E_istore_n d_X11_year_31 (ls' := [(2, v0), (0, v1), (0, 7)]) ⟨by decide, rfl⟩ ?_
        exact E_weak (ls' := [(2, v0), (9, 0), (0, 7)]) ⟨Or.inr rfl, Or.inl rfl, Or.inr rfl, trivial⟩ (L_X11_year_b32 h)
      · exact E_weak (ls' := [(2, v0), (9, 0), (0, 0)]) ⟨Or.inr rfl, Or.inl rfl, Or.inr rfl, trivial⟩ (L_X11_year_b32 h)
    · exact E_weak (ls' := [(2, v0), (9, 0), (9, 0)]) ⟨Or.inr rfl, Or.inl rfl, Or.inl rfl, trivial⟩ (L_X11_year_b13 h)
noncomputable def f_X11_year (v0 v1 : Int) (σ : Mem) : Option (Int × Mem) := if isO Sh 11 v0 = true then f_X11_year_b0 v0 v1 σ else none
theorem L_X11_year {o : Int × Mem} {v0 v1 : Int} {σ : Mem} (h : f_X11_year v0 v1 σ = some o) : (isO Sh 11 v0 = true ∧ Cn mt_X11_year 3 [(2, v0), (0, v1)] Sh σ (some (0, o.1)) Sh o.2) := ⟨(ite_ok h).1, Cn_of mk_X11_year.1.2.2.1 (Nat.le_of_ble_eq_true rfl) (fun sc => L_X11_year_b0 (ite_ok h).2)⟩
theorem d_X11_isLenient_0 : decode mt_X11_isLenient.2.1 0 = .ok (.iload_n 0, 1) := by decide +kernel
theorem d_X11_isLenient_1 : decode mt_X11_isLenient.2.1 1 = .ok (.ifCond .lt 13, 3) := by decide +kernel
theorem d_X11_isLenient_4 : decode mt_X11_isLenient.2.1 4 = .ok (.iload_n 0, 1) := by decide +kernel
theorem d_X11_isLenient_5 : decode mt_X11_isLenient.2.1 5 = .ok (.bipush 30, 2) := by decide +kernel
theorem d_X11_isLenient_7 : decode mt_X11_isLenient.2.1 7 = .ok (.if_icmp .gt 7, 3) := by decide +kernel
theorem d_X11_isLenient_10 : decode mt_X11_isLenient.2.1 10 = .ok (.iconst 1, 1) := by decide +kernel
theorem d_X11_isLenient_11 : decode mt_X11_isLenient.2.1 11 = .ok (.goto 4, 3) := by decide +kernel
theorem d_X11_isLenient_14 : decode mt_X11_isLenient.2.1 14 = .ok (.iconst 0, 1) := by decide +kernel
theorem d_X11_isLenient_15 : decode mt_X11_isLenient.2.1 15 = .ok (.ireturn, 1) := by decide +kernel
noncomputable def f_X11_isLenient_b0 (v0 : Int) (σ : Mem) : Option (Int) :=
  if v0 < 0 then
    some (0)
  else
    if 30 < v0 then
      some (0)
    else
      some (1)
theorem L_X11_isLenient_b0 {sc : Nat × (Nat → Int32)} {o : Int} {σ : Mem} {v0 : Int} (h : f_X11_isLenient_b0 v0 σ = some o) : E sc (Fm Sh (some (0, o)) Sh σ) mt_X11_isLenient 1 Sh Sh 0 [(0, v0)] [] Sh σ := by
  unfold f_X11_isLenient_b0 at h
  refine E_iload_n d_X11_isLenient_0 rfl ?_
  refine E_if_lt (tgt := 14) d_X11_isLenient_1 (by decide) h (fun _ h => ?_) (fun _ h => ?_)
  · refine E_iconst d_X11_isLenient_14 (c32 rfl) ?_
    cases h
    exact E_zret d_X11_isLenient_15 rfl (Or.inl rfl)
  · refine E_iload_n d_X11_isLenient_4 rfl ?_
    refine E_bipush d_X11_isLenient_5 (c8 rfl) ?_
    refine E_icmp_gt (tgt := 14) d_X11_isLenient_7 (by decide) h (fun _ h => ?_) (fun _ h => ?_)
    · refine E_iconst d_X11_isLenient_14 (c32 rfl) ?_
      cases h
      exact E_zret d_X11_isLenient_15 rfl (Or.inl rfl)
    · refine E_iconst d_X11_isLenient_10 (c32 rfl) ?_
      refine E_goto (tgt := 15) d_X11_isLenient_11 (by decide) ?_
      cases h
      exact E_zret d_X11_isLenient_15 rfl (Or.inr rfl)
noncomputable def f_X11_isLenient (v0 : Int) (σ : Mem) : Option (Int) := f_X11_isLenient_b0 v0 σ
theorem L_X11_isLenient {o : Int} {v0 : Int} {σ : Mem} (h : f_X11_isLenient v0 σ = some o) : Cn mt_X11_isLenient 1 [(0, v0)] Sh σ (some (0, o)) Sh σ := Cn_of mk_X11_isLenient.1.2.2.1 (Nat.le_of_ble_eq_true rfl) (fun sc => L_X11_isLenient_b0 h)
theorem d_X11_carve_0 : decode mt_X11_carve.2.1 0 = .ok (.aload_n 0, 1) := by decide +kernel
theorem d_X11_carve_1 : decode mt_X11_carve.2.1 1 = .ok (.aload_n 0, 1) := by decide +kernel
theorem d_X11_carve_2 : decode mt_X11_carve.2.1 2 = .ok (.iload_n 1, 1) := by decide +kernel
theorem d_X11_carve_3 : decode mt_X11_carve.2.1 3 = .ok (.iload_n 2, 1) := by decide +kernel
theorem d_X11_carve_4 : decode mt_X11_carve.2.1 4 = .ok (.invokestatic 284, 3) := by decide +kernel
theorem d_X11_carve_7 : decode mt_X11_carve.2.1 7 = .ok (.invokevirtual 242, 3) := by decide +kernel
theorem d_X11_carve_10 : decode mt_X11_carve.2.1 10 = .ok (.invokevirtual 132, 3) := by decide +kernel
theorem d_X11_carve_13 : decode mt_X11_carve.2.1 13 = .ok (.ifCond .eq 5, 3) := by decide +kernel
theorem d_X11_carve_16 : decode mt_X11_carve.2.1 16 = .ok (.iconst (-1), 1) := by decide +kernel
theorem d_X11_carve_17 : decode mt_X11_carve.2.1 17 = .ok (.ireturn, 1) := by decide +kernel
theorem d_X11_carve_18 : decode mt_X11_carve.2.1 18 = .ok (.aload_n 0, 1) := by decide +kernel
theorem d_X11_carve_19 : decode mt_X11_carve.2.1 19 = .ok (.getfield 31, 3) := by decide +kernel
theorem d_X11_carve_22 : decode mt_X11_carve.2.1 22 = .ok (.getfield 246, 3) := by decide +kernel
theorem d_X11_carve_25 : decode mt_X11_carve.2.1 25 = .ok (.iload_n 1, 1) := by decide +kernel
theorem d_X11_carve_26 : decode mt_X11_carve.2.1 26 = .ok (.iaload, 1) := by decide +kernel
theorem d_X11_carve_27 : decode mt_X11_carve.2.1 27 = .ok (.istore_n 3, 1) := by decide +kernel
theorem d_X11_carve_28 : decode mt_X11_carve.2.1 28 = .ok (.aload_n 0, 1) := by decide +kernel
theorem d_X11_carve_29 : decode mt_X11_carve.2.1 29 = .ok (.getfield 31, 3) := by decide +kernel
theorem d_X11_carve_32 : decode mt_X11_carve.2.1 32 = .ok (.getfield 246, 3) := by decide +kernel
theorem d_X11_carve_35 : decode mt_X11_carve.2.1 35 = .ok (.iload_n 1, 1) := by decide +kernel
theorem d_X11_carve_36 : decode mt_X11_carve.2.1 36 = .ok (.iload_n 2, 1) := by decide +kernel
theorem d_X11_carve_37 : decode mt_X11_carve.2.1 37 = .ok (.iastore, 1) := by decide +kernel
theorem d_X11_carve_38 : decode mt_X11_carve.2.1 38 = .ok (.iload_n 3, 1) := by decide +kernel
theorem d_X11_carve_39 : decode mt_X11_carve.2.1 39 = .ok (.ireturn, 1) := by decide +kernel
noncomputable def f_X11_carve_b0 (v0 v1 v2 : Int) (σ : Mem) : Option (Int × Mem) :=
  (f_X11_isLenient v2 σ).bind fun r1 =>
  (f_X11_stoneWhy v0 v1 r1 σ).bind fun r3 =>
  (f_X11_refused v0 r3 σ).bind fun r5 =>
  if r5.1 = 0 then
    (gf Sh r5.2 11 v0 3).bind fun x7 =>
    (gf Sh r5.2 9 x7 2).bind fun x8 =>
    (al Sh r5.2 20 x8 v1).bind fun x9 =>
    (gf Sh r5.2 11 v0 3).bind fun x10 =>
    (gf Sh r5.2 9 x10 2).bind fun x11 =>
    (st_ Sh r5.2 20 x11 v1 v2).bind fun σ12 =>
    some (x9, σ12)
  else
    some ((-1), r5.2)
theorem L_X11_carve_b0 {sc : Nat × (Nat → Int32)} {o : Int × Mem} {v0 v1 v2 : Int} {σ : Mem} (h : f_X11_carve_b0 v0 v1 v2 σ = some o) : E sc (Fm Sh (some (0, o.1)) Sh o.2) mt_X11_carve 3 Sh Sh 0 [(2, v0), (0, v1), (0, v2), (9, 0)] [] Sh σ := by
  unfold f_X11_carve_b0 at h
  refine E_aload_n d_X11_carve_0 rfl (by decide) ?_
  refine E_aload_n d_X11_carve_1 rfl (by decide) ?_
  refine E_iload_n d_X11_carve_2 rfl ?_
  refine E_iload_n d_X11_carve_3 rfl ?_
  refine bd h (fun r1 q2 h => ?_)
  refine E_cS (as := [(0, v2)]) (st := [(0, v1), (2, v0), (2, v0)]) d_X11_carve_4 mk_X11_isLenient nl_X11_284 (by omega) ⟨rfl, rfl, Nat.le_of_ble_eq_true rfl⟩ (L_X11_isLenient q2) ?_
  refine bd h (fun r3 q4 h => ?_)
  refine E_cV (as := [(0, v1), (0, r1)]) (st := [(2, v0)]) (a := v0) d_X11_carve_7 mk_X11_stoneWhy nl_X11_242 (by omega) ⟨rfl, rfl, Nat.le_of_ble_eq_true rfl⟩ okX11 rfl (L_X11_stoneWhy q4) ?_
  refine bd h (fun r5 q6 h => ?_)
  refine E_cV (as := [(0, r3)]) (st := []) (a := v0) d_X11_carve_10 mk_X11_refused nl_X11_132 (by omega) ⟨rfl, rfl, Nat.le_of_ble_eq_true rfl⟩ okX11 rfl (L_X11_refused q6) ?_
  refine E_if_eq (tgt := 18) d_X11_carve_13 (by decide) h (fun _ h => ?_) (fun _ h => ?_)
  · refine E_aload_n d_X11_carve_18 rfl (by decide) ?_
    refine E_get d_X11_carve_19 okX11 fl_X11_31 ⟨by decide, rfl⟩ h (fun x7 h => ?_)
    refine E_get d_X11_carve_22 okX9 fl_X11_246 ⟨by decide, rfl⟩ h (fun x8 h => ?_)
    refine E_iload_n d_X11_carve_25 rfl ?_
    refine E_iaload d_X11_carve_26 h (fun x9 h => ?_)
    refine E_istore_n d_X11_carve_27 (ls' := [(2, v0), (0, v1), (0, v2), (0, x9)]) ⟨by decide, rfl⟩ ?_
    refine E_aload_n d_X11_carve_28 rfl (by decide) ?_
    refine E_get d_X11_carve_29 okX11 fl_X11_31 ⟨by decide, rfl⟩ h (fun x10 h => ?_)
    refine E_get d_X11_carve_32 okX9 fl_X11_246 ⟨by decide, rfl⟩ h (fun x11 h => ?_)
    refine E_iload_n d_X11_carve_35 rfl ?_
    refine E_iload_n d_X11_carve_36 rfl ?_
    refine E_iastore d_X11_carve_37 h (fun σ12 h => ?_)
    refine E_iload_n d_X11_carve_38 rfl ?_
    cases h
    exact E_iret d_X11_carve_39 rfl
  · refine E_iconst d_X11_carve_16 (c32 rfl) ?_
    cases h
    exact E_iret d_X11_carve_17 rfl
noncomputable def f_X11_carve (v0 v1 v2 : Int) (σ : Mem) : Option (Int × Mem) := if isO Sh 11 v0 = true then f_X11_carve_b0 v0 v1 v2 σ else none
theorem L_X11_carve {o : Int × Mem} {v0 v1 v2 : Int} {σ : Mem} (h : f_X11_carve v0 v1 v2 σ = some o) : (isO Sh 11 v0 = true ∧ Cn mt_X11_carve 3 [(2, v0), (0, v1), (0, v2)] Sh σ (some (0, o.1)) Sh o.2) := ⟨(ite_ok h).1, Cn_of mk_X11_carve.1.2.2.1 (Nat.le_of_ble_eq_true rfl) (fun sc => L_X11_carve_b0 (ite_ok h).2)⟩
theorem d_X11_clear_0 : decode mt_X11_clear.2.1 0 = .ok (.aload_n 0, 1) := by decide +kernel
theorem d_X11_clear_1 : decode mt_X11_clear.2.1 1 = .ok (.iload_n 1, 1) := by decide +kernel
theorem d_X11_clear_2 : decode mt_X11_clear.2.1 2 = .ok (.iconst 1, 1) := by decide +kernel
theorem d_X11_clear_3 : decode mt_X11_clear.2.1 3 = .ok (.invokevirtual 242, 3) := by decide +kernel
theorem d_X11_clear_6 : decode mt_X11_clear.2.1 6 = .ok (.istore_n 2, 1) := by decide +kernel
theorem d_X11_clear_7 : decode mt_X11_clear.2.1 7 = .ok (.iload_n 2, 1) := by decide +kernel
theorem d_X11_clear_8 : decode mt_X11_clear.2.1 8 = .ok (.ifCond .ne 18, 3) := by decide +kernel
theorem d_X11_clear_11 : decode mt_X11_clear.2.1 11 = .ok (.aload_n 0, 1) := by decide +kernel
theorem d_X11_clear_12 : decode mt_X11_clear.2.1 12 = .ok (.getfield 31, 3) := by decide +kernel
theorem d_X11_clear_15 : decode mt_X11_clear.2.1 15 = .ok (.getfield 250, 3) := by decide +kernel
theorem d_X11_clear_18 : decode mt_X11_clear.2.1 18 = .ok (.iload_n 1, 1) := by decide +kernel
theorem d_X11_clear_19 : decode mt_X11_clear.2.1 19 = .ok (.iaload, 1) := by decide +kernel
theorem d_X11_clear_20 : decode mt_X11_clear.2.1 20 = .ok (.ifCond .ne 6, 3) := by decide +kernel
theorem d_X11_clear_23 : decode mt_X11_clear.2.1 23 = .ok (.bipush 8, 2) := by decide +kernel
theorem d_X11_clear_25 : decode mt_X11_clear.2.1 25 = .ok (.istore_n 2, 1) := by decide +kernel
theorem d_X11_clear_26 : decode mt_X11_clear.2.1 26 = .ok (.aload_n 0, 1) := by decide +kernel
theorem d_X11_clear_27 : decode mt_X11_clear.2.1 27 = .ok (.iload_n 2, 1) := by decide +kernel
theorem d_X11_clear_28 : decode mt_X11_clear.2.1 28 = .ok (.invokevirtual 132, 3) := by decide +kernel
theorem d_X11_clear_31 : decode mt_X11_clear.2.1 31 = .ok (.ifCond .eq 5, 3) := by decide +kernel
theorem d_X11_clear_34 : decode mt_X11_clear.2.1 34 = .ok (.iconst (-1), 1) := by decide +kernel
theorem d_X11_clear_35 : decode mt_X11_clear.2.1 35 = .ok (.ireturn, 1) := by decide +kernel
theorem d_X11_clear_36 : decode mt_X11_clear.2.1 36 = .ok (.aload_n 0, 1) := by decide +kernel
theorem d_X11_clear_37 : decode mt_X11_clear.2.1 37 = .ok (.getfield 31, 3) := by decide +kernel
theorem d_X11_clear_40 : decode mt_X11_clear.2.1 40 = .ok (.getfield 250, 3) := by decide +kernel
theorem d_X11_clear_43 : decode mt_X11_clear.2.1 43 = .ok (.iload_n 1, 1) := by decide +kernel
theorem d_X11_clear_44 : decode mt_X11_clear.2.1 44 = .ok (.iaload, 1) := by decide +kernel
theorem d_X11_clear_45 : decode mt_X11_clear.2.1 45 = .ok (.istore_n 3, 1) := by decide +kernel
theorem d_X11_clear_46 : decode mt_X11_clear.2.1 46 = .ok (.aload_n 0, 1) := by decide +kernel
theorem d_X11_clear_47 : decode mt_X11_clear.2.1 47 = .ok (.getfield 31, 3) := by decide +kernel
theorem d_X11_clear_50 : decode mt_X11_clear.2.1 50 = .ok (.getfield 250, 3) := by decide +kernel
theorem d_X11_clear_53 : decode mt_X11_clear.2.1 53 = .ok (.iload_n 1, 1) := by decide +kernel
theorem d_X11_clear_54 : decode mt_X11_clear.2.1 54 = .ok (.iconst 0, 1) := by decide +kernel
theorem d_X11_clear_55 : decode mt_X11_clear.2.1 55 = .ok (.iastore, 1) := by decide +kernel
theorem d_X11_clear_56 : decode mt_X11_clear.2.1 56 = .ok (.iload_n 3, 1) := by decide +kernel
theorem d_X11_clear_57 : decode mt_X11_clear.2.1 57 = .ok (.ireturn, 1) := by decide +kernel
noncomputable def f_X11_clear_b26 (v0 v1 v2 : Int) (σ : Mem) : Option (Int × Mem) :=
  (f_X11_refused v0 v2 σ).bind fun r6 =>
  if r6.1 = 0 then
    (gf Sh r6.2 11 v0 3).bind fun x8 =>
    (gf Sh r6.2 9 x8 3).bind fun x9 =>
    (al Sh r6.2 20 x9 v1).bind fun x10 =>
    (gf Sh r6.2 11 v0 3).bind fun x11 =>
    (gf Sh r6.2 9 x11 3).bind fun x12 =>
    (st_ Sh r6.2 20 x12 v1 0).bind fun σ13 =>
    some (x10, σ13)
  else
    some ((-1), r6.2)
theorem L_X11_clear_b26 {sc : Nat × (Nat → Int32)} {o : Int × Mem} {v0 v1 v2 : Int} {σ : Mem} (h : f_X11_clear_b26 v0 v1 v2 σ = some o) : E sc (Fm Sh (some (0, o.1)) Sh o.2) mt_X11_clear 3 Sh Sh 26 [(2, v0), (0, v1), (0, v2), (9, 0)] [] Sh σ := by
  unfold f_X11_clear_b26 at h
  refine E_aload_n d_X11_clear_26 rfl (by decide) ?_
  refine E_iload_n d_X11_clear_27 rfl ?_
  refine bd h (fun r6 q7 h => ?_)
  refine E_cV (as := [(0, v2)]) (st := []) (a := v0) d_X11_clear_28 mk_X11_refused nl_X11_132 (by omega) ⟨rfl, rfl, Nat.le_of_ble_eq_true rfl⟩ okX11 rfl (L_X11_refused q7) ?_
  refine E_if_eq (tgt := 36) d_X11_clear_31 (by decide) h (fun _ h => ?_) (fun _ h => ?_)
  · refine E_aload_n d_X11_clear_36 rfl (by decide) ?_
    refine E_get d_X11_clear_37 okX11 fl_X11_31 ⟨by decide, rfl⟩ h (fun x8 h => ?_)
    refine E_get d_X11_clear_40 okX9 fl_X11_250 ⟨by decide, rfl⟩ h (fun x9 h => ?_)
    refine E_iload_n d_X11_clear_43 rfl ?_
    refine E_iaload d_X11_clear_44 h (fun x10 h => ?_)
    refine E_istore_n d_X11_clear_45 (ls' := [(2, v0), (0, v1), (0, v2), (0, x10)]) ⟨by decide, rfl⟩ ?_
    refine E_aload_n d_X11_clear_46 rfl (by decide) ?_
    refine E_get d_X11_clear_47 okX11 fl_X11_31 ⟨by decide, rfl⟩ h (fun x11 h => ?_)
    refine E_get d_X11_clear_50 okX9 fl_X11_250 ⟨by decide, rfl⟩ h (fun x12 h => ?_)
    refine E_iload_n d_X11_clear_53 rfl ?_
    refine E_iconst d_X11_clear_54 (c32 rfl) ?_
    refine E_iastore d_X11_clear_55 h (fun σ13 h => ?_)
    refine E_iload_n d_X11_clear_56 rfl ?_
    cases h
    exact E_iret d_X11_clear_57 rfl
  · refine E_iconst d_X11_clear_34 (c32 rfl) ?_
    cases h
    exact E_iret d_X11_clear_35 rfl
noncomputable def f_X11_clear_b0 (v0 v1 : Int) (σ : Mem) : Option (Int × Mem) :=
  (f_X11_stoneWhy v0 v1 1 σ).bind fun r1 =>
  if r1 = 0 then
    (gf Sh σ 11 v0 3).bind fun x3 =>
    (gf Sh σ 9 x3 3).bind fun x4 =>
    (al Sh σ 20 x4 v1).bind fun x5 =>
    if x5 = 0 then
      f_X11_clear_b26 v0 v1 8 σ
    else
      f_X11_clear_b26 v0 v1 r1 σ
  else
    f_X11_clear_b26 v0 v1 r1 σ
theorem L_X11_clear_b0 {sc : Nat × (Nat → Int32)} {o : Int × Mem} {v0 v1 : Int} {σ : Mem} (h : f_X11_clear_b0 v0 v1 σ = some o) : E sc (Fm Sh (some (0, o.1)) Sh o.2) mt_X11_clear 3 Sh Sh 0 [(2, v0), (0, v1), (9, 0), (9, 0)] [] Sh σ := by
  unfold f_X11_clear_b0 at h
  refine E_aload_n d_X11_clear_0 rfl (by decide) ?_
  refine E_iload_n d_X11_clear_1 rfl ?_
  refine E_iconst d_X11_clear_2 (c32 rfl) ?_
  refine bd h (fun r1 q2 h => ?_)
  refine E_cV (as := [(0, v1), (0, 1)]) (st := []) (a := v0) d_X11_clear_3 mk_X11_stoneWhy nl_X11_242 (by omega) ⟨rfl, rfl, Nat.le_of_ble_eq_true rfl⟩ okX11 rfl (L_X11_stoneWhy q2) ?_
  refine E_istore_n d_X11_clear_6 (ls' := [(2, v0), (0, v1), (0, r1), (9, 0)]) ⟨by decide, rfl⟩ ?_
  refine E_iload_n d_X11_clear_7 rfl ?_
  refine E_if_ne (tgt := 26) d_X11_clear_8 (by decide) h (fun _ h => ?_) (fun _ h => ?_)
  · refine E_aload_n d_X11_clear_11 rfl (by decide) ?_
    refine E_get d_X11_clear_12 okX11 fl_X11_31 ⟨by decide, rfl⟩ h (fun x3 h => ?_)
    refine E_get d_X11_clear_15 okX9 fl_X11_250 ⟨by decide, rfl⟩ h (fun x4 h => ?_)
    refine E_iload_n d_X11_clear_18 rfl ?_
    refine E_iaload d_X11_clear_19 h (fun x5 h => ?_)
    refine E_if_ne (tgt := 26) d_X11_clear_20 (by decide) h (fun _ h => ?_) (fun _ h => ?_)
    · refine E_bipush d_X11_clear_23 (c8 rfl) ?_
      refine E_istore_n d_X11_clear_25 (ls' := [(2, v0), (0, v1), (0, 8), (9, 0)]) ⟨by decide, rfl⟩ ?_
      exact (L_X11_clear_b26 h)
    · exact (L_X11_clear_b26 h)
  · exact (L_X11_clear_b26 h)
noncomputable def f_X11_clear (v0 v1 : Int) (σ : Mem) : Option (Int × Mem) := if isO Sh 11 v0 = true then f_X11_clear_b0 v0 v1 σ else none
theorem L_X11_clear {o : Int × Mem} {v0 v1 : Int} {σ : Mem} (h : f_X11_clear v0 v1 σ = some o) : (isO Sh 11 v0 = true ∧ Cn mt_X11_clear 3 [(2, v0), (0, v1)] Sh σ (some (0, o.1)) Sh o.2) := ⟨(ite_ok h).1, Cn_of mk_X11_clear.1.2.2.1 (Nat.le_of_ble_eq_true rfl) (fun sc => L_X11_clear_b0 (ite_ok h).2)⟩
theorem d_X11_open_0 : decode mt_X11_open.2.1 0 = .ok (.aload_n 0, 1) := by decide +kernel
theorem d_X11_open_1 : decode mt_X11_open.2.1 1 = .ok (.aload_n 0, 1) := by decide +kernel
theorem d_X11_open_2 : decode mt_X11_open.2.1 2 = .ok (.iload_n 1, 1) := by decide +kernel
theorem d_X11_open_3 : decode mt_X11_open.2.1 3 = .ok (.iconst 1, 1) := by decide +kernel
theorem d_X11_open_4 : decode mt_X11_open.2.1 4 = .ok (.invokevirtual 242, 3) := by decide +kernel
theorem d_X11_open_7 : decode mt_X11_open.2.1 7 = .ok (.invokevirtual 132, 3) := by decide +kernel
theorem d_X11_open_10 : decode mt_X11_open.2.1 10 = .ok (.ifCond .eq 5, 3) := by decide +kernel
theorem d_X11_open_13 : decode mt_X11_open.2.1 13 = .ok (.iconst 0, 1) := by decide +kernel
theorem d_X11_open_14 : decode mt_X11_open.2.1 14 = .ok (.ireturn, 1) := by decide +kernel
theorem d_X11_open_15 : decode mt_X11_open.2.1 15 = .ok (.aload_n 0, 1) := by decide +kernel
theorem d_X11_open_16 : decode mt_X11_open.2.1 16 = .ok (.getfield 31, 3) := by decide +kernel
theorem d_X11_open_19 : decode mt_X11_open.2.1 19 = .ok (.iload_n 1, 1) := by decide +kernel
theorem d_X11_open_20 : decode mt_X11_open.2.1 20 = .ok (.invokevirtual 287, 3) := by decide +kernel
theorem d_X11_open_23 : decode mt_X11_open.2.1 23 = .ok (.iconst 1, 1) := by decide +kernel
theorem d_X11_open_24 : decode mt_X11_open.2.1 24 = .ok (.ireturn, 1) := by decide +kernel
noncomputable def f_X11_open_b0 (v0 v1 : Int) (σ : Mem) : Option (Int × Mem) :=
  (f_X11_stoneWhy v0 v1 1 σ).bind fun r1 =>
  (f_X11_refused v0 r1 σ).bind fun r3 =>
  if r3.1 = 0 then
    (gf Sh r3.2 11 v0 3).bind fun x5 =>
    (f_X9_makeGap x5 v1 r3.2).bind fun r6 =>
    some (1, r6)
  else
    some (0, r3.2)
theorem L_X11_open_b0 {sc : Nat × (Nat → Int32)} {o : Int × Mem} {v0 v1 : Int} {σ : Mem} (h : f_X11_open_b0 v0 v1 σ = some o) : E sc (Fm Sh (some (0, o.1)) Sh o.2) mt_X11_open 3 Sh Sh 0 [(2, v0), (0, v1)] [] Sh σ := by
  unfold f_X11_open_b0 at h
  refine E_aload_n d_X11_open_0 rfl (by decide) ?_
  refine E_aload_n d_X11_open_1 rfl (by decide) ?_
  refine E_iload_n d_X11_open_2 rfl ?_
  refine E_iconst d_X11_open_3 (c32 rfl) ?_
  refine bd h (fun r1 q2 h => ?_)
  refine E_cV (as := [(0, v1), (0, 1)]) (st := [(2, v0)]) (a := v0) d_X11_open_4 mk_X11_stoneWhy nl_X11_242 (by omega) ⟨rfl, rfl, Nat.le_of_ble_eq_true rfl⟩ okX11 rfl (L_X11_stoneWhy q2) ?_
  refine bd h (fun r3 q4 h => ?_)
  refine E_cV (as := [(0, r1)]) (st := []) (a := v0) d_X11_open_7 mk_X11_refused nl_X11_132 (by omega) ⟨rfl, rfl, Nat.le_of_ble_eq_true rfl⟩ okX11 rfl (L_X11_refused q4) ?_
  refine E_if_eq (tgt := 15) d_X11_open_10 (by decide) h (fun _ h => ?_) (fun _ h => ?_)
  · refine E_aload_n d_X11_open_15 rfl (by decide) ?_
    refine E_get d_X11_open_16 okX11 fl_X11_31 ⟨by decide, rfl⟩ h (fun x5 h => ?_)
    refine E_iload_n d_X11_open_19 rfl ?_
    refine bd h (fun r6 q7 h => ?_)
    refine E_cVv (as := [(0, v1)]) (st := []) (a := x5) d_X11_open_20 mk_X9_makeGap nl_X11_287 (by omega) ⟨rfl, rfl, Nat.le_of_ble_eq_true rfl⟩ okX9 rfl (L_X9_makeGap q7) ?_
    refine E_iconst d_X11_open_23 (c32 rfl) ?_
    cases h
    exact E_zret d_X11_open_24 rfl (Or.inr rfl)
  · refine E_iconst d_X11_open_13 (c32 rfl) ?_
    cases h
    exact E_zret d_X11_open_14 rfl (Or.inl rfl)
noncomputable def f_X11_open (v0 v1 : Int) (σ : Mem) : Option (Int × Mem) := if isO Sh 11 v0 = true then f_X11_open_b0 v0 v1 σ else none
theorem L_X11_open {o : Int × Mem} {v0 v1 : Int} {σ : Mem} (h : f_X11_open v0 v1 σ = some o) : (isO Sh 11 v0 = true ∧ Cn mt_X11_open 3 [(2, v0), (0, v1)] Sh σ (some (0, o.1)) Sh o.2) := ⟨(ite_ok h).1, Cn_of mk_X11_open.1.2.2.1 (Nat.le_of_ble_eq_true rfl) (fun sc => L_X11_open_b0 (ite_ok h).2)⟩
theorem d_X11_mend_0 : decode mt_X11_mend.2.1 0 = .ok (.iconst 0, 1) := by decide +kernel
theorem d_X11_mend_1 : decode mt_X11_mend.2.1 1 = .ok (.istore 4, 2) := by decide +kernel
theorem d_X11_mend_3 : decode mt_X11_mend.2.1 3 = .ok (.aload_n 0, 1) := by decide +kernel
theorem d_X11_mend_4 : decode mt_X11_mend.2.1 4 = .ok (.getfield 31, 3) := by decide +kernel
theorem d_X11_mend_7 : decode mt_X11_mend.2.1 7 = .ok (.iload_n 1, 1) := by decide +kernel
theorem d_X11_mend_8 : decode mt_X11_mend.2.1 8 = .ok (.i2l, 1) := by decide +kernel
theorem d_X11_mend_9 : decode mt_X11_mend.2.1 9 = .ok (.invokevirtual 290, 3) := by decide +kernel
theorem d_X11_mend_12 : decode mt_X11_mend.2.1 12 = .ok (.ifCond .ne 9, 3) := by decide +kernel
theorem d_X11_mend_15 : decode mt_X11_mend.2.1 15 = .ok (.iconst 2, 1) := by decide +kernel
theorem d_X11_mend_16 : decode mt_X11_mend.2.1 16 = .ok (.istore 4, 2) := by decide +kernel
theorem d_X11_mend_18 : decode mt_X11_mend.2.1 18 = .ok (.goto 43, 3) := by decide +kernel
theorem d_X11_mend_21 : decode mt_X11_mend.2.1 21 = .ok (.iload_n 2, 1) := by decide +kernel
theorem d_X11_mend_22 : decode mt_X11_mend.2.1 22 = .ok (.invokestatic 284, 3) := by decide +kernel
theorem d_X11_mend_25 : decode mt_X11_mend.2.1 25 = .ok (.ifCond .eq 14, 3) := by decide +kernel
theorem d_X11_mend_28 : decode mt_X11_mend.2.1 28 = .ok (.iload_n 3, 1) := by decide +kernel
theorem d_X11_mend_29 : decode mt_X11_mend.2.1 29 = .ok (.iconst 1, 1) := by decide +kernel
theorem d_X11_mend_30 : decode mt_X11_mend.2.1 30 = .ok (.if_icmp .lt 9, 3) := by decide +kernel
theorem d_X11_mend_33 : decode mt_X11_mend.2.1 33 = .ok (.iload_n 3, 1) := by decide +kernel
theorem d_X11_mend_34 : decode mt_X11_mend.2.1 34 = .ok (.bipush 9, 2) := by decide +kernel
theorem d_X11_mend_36 : decode mt_X11_mend.2.1 36 = .ok (.if_icmp .le 9, 3) := by decide +kernel
theorem d_X11_mend_39 : decode mt_X11_mend.2.1 39 = .ok (.iconst 5, 1) := by decide +kernel
theorem d_X11_mend_40 : decode mt_X11_mend.2.1 40 = .ok (.istore 4, 2) := by decide +kernel
theorem d_X11_mend_42 : decode mt_X11_mend.2.1 42 = .ok (.goto 19, 3) := by decide +kernel
theorem d_X11_mend_45 : decode mt_X11_mend.2.1 45 = .ok (.aload_n 0, 1) := by decide +kernel
theorem d_X11_mend_46 : decode mt_X11_mend.2.1 46 = .ok (.getfield 31, 3) := by decide +kernel
theorem d_X11_mend_49 : decode mt_X11_mend.2.1 49 = .ok (.iload_n 1, 1) := by decide +kernel
theorem d_X11_mend_50 : decode mt_X11_mend.2.1 50 = .ok (.i2l, 1) := by decide +kernel
theorem d_X11_mend_51 : decode mt_X11_mend.2.1 51 = .ok (.invokevirtual 294, 3) := by decide +kernel
theorem d_X11_mend_54 : decode mt_X11_mend.2.1 54 = .ok (.ifCond .eq 7, 3) := by decide +kernel
theorem d_X11_mend_57 : decode mt_X11_mend.2.1 57 = .ok (.bipush 9, 2) := by decide +kernel
theorem d_X11_mend_59 : decode mt_X11_mend.2.1 59 = .ok (.istore 4, 2) := by decide +kernel
theorem d_X11_mend_61 : decode mt_X11_mend.2.1 61 = .ok (.aload_n 0, 1) := by decide +kernel
theorem d_X11_mend_62 : decode mt_X11_mend.2.1 62 = .ok (.iload 4, 2) := by decide +kernel
theorem d_X11_mend_64 : decode mt_X11_mend.2.1 64 = .ok (.invokevirtual 132, 3) := by decide +kernel
theorem d_X11_mend_67 : decode mt_X11_mend.2.1 67 = .ok (.ifCond .eq 5, 3) := by decide +kernel
theorem d_X11_mend_70 : decode mt_X11_mend.2.1 70 = .ok (.iconst 0, 1) := by decide +kernel
theorem d_X11_mend_71 : decode mt_X11_mend.2.1 71 = .ok (.ireturn, 1) := by decide +kernel
theorem d_X11_mend_72 : decode mt_X11_mend.2.1 72 = .ok (.aload_n 0, 1) := by decide +kernel
theorem d_X11_mend_73 : decode mt_X11_mend.2.1 73 = .ok (.getfield 31, 3) := by decide +kernel
theorem d_X11_mend_76 : decode mt_X11_mend.2.1 76 = .ok (.iload_n 1, 1) := by decide +kernel
theorem d_X11_mend_77 : decode mt_X11_mend.2.1 77 = .ok (.iload_n 2, 1) := by decide +kernel
theorem d_X11_mend_78 : decode mt_X11_mend.2.1 78 = .ok (.iconst 0, 1) := by decide +kernel
theorem d_X11_mend_79 : decode mt_X11_mend.2.1 79 = .ok (.iload_n 3, 1) := by decide +kernel
theorem d_X11_mend_80 : decode mt_X11_mend.2.1 80 = .ok (.invokevirtual 297, 3) := by decide +kernel
theorem d_X11_mend_83 : decode mt_X11_mend.2.1 83 = .ok (.iconst 1, 1) := by decide +kernel
theorem d_X11_mend_84 : decode mt_X11_mend.2.1 84 = .ok (.ireturn, 1) := by decide +kernel
noncomputable def f_X11_mend_b61 (v0 v1 v2 v3 v4 : Int) (σ : Mem) : Option (Int × Mem) :=
  (f_X11_refused v0 v4 σ).bind fun r9 =>
  if r9.1 = 0 then
    (gf Sh r9.2 11 v0 3).bind fun x11 =>
    (f_X9_setStone x11 v1 v2 0 v3 r9.2).bind fun r12 =>
    some (1, r12)
  else
    some (0, r9.2)
theorem L_X11_mend_b61 {sc : Nat × (Nat → Int32)} {o : Int × Mem} {v0 v1 v2 v3 v4 : Int} {σ : Mem} (h : f_X11_mend_b61 v0 v1 v2 v3 v4 σ = some o) : E sc (Fm Sh (some (0, o.1)) Sh o.2) mt_X11_mend 2 Sh Sh 61 [(2, v0), (0, v1), (0, v2), (0, v3), (0, v4)] [] Sh σ := by
  unfold f_X11_mend_b61 at h
  refine E_aload_n d_X11_mend_61 rfl (by decide) ?_
  refine E_iload d_X11_mend_62 rfl ?_
  refine bd h (fun r9 q10 h => ?_)
  refine E_cV (as := [(0, v4)]) (st := []) (a := v0) d_X11_mend_64 mk_X11_refused nl_X11_132 (by omega) ⟨rfl, rfl, Nat.le_of_ble_eq_true rfl⟩ okX11 rfl (L_X11_refused q10) ?_
  refine E_if_eq (tgt := 72) d_X11_mend_67 (by decide) h (fun _ h => ?_) (fun _ h => ?_)
  · refine E_aload_n d_X11_mend_72 rfl (by decide) ?_
    refine E_get d_X11_mend_73 okX11 fl_X11_31 ⟨by decide, rfl⟩ h (fun x11 h => ?_)
    refine E_iload_n d_X11_mend_76 rfl ?_
    refine E_iload_n d_X11_mend_77 rfl ?_
    refine E_iconst d_X11_mend_78 (c32 rfl) ?_
    refine E_iload_n d_X11_mend_79 rfl ?_
    refine bd h (fun r12 q13 h => ?_)
    refine E_cVv (as := [(0, v1), (0, v2), (0, 0), (0, v3)]) (st := []) (a := x11) d_X11_mend_80 mk_X9_setStone nl_X11_297 (by omega) ⟨rfl, rfl, Nat.le_of_ble_eq_true rfl⟩ okX9 rfl (L_X9_setStone q13) ?_
    refine E_iconst d_X11_mend_83 (c32 rfl) ?_
    cases h
    exact E_zret d_X11_mend_84 rfl (Or.inr rfl)
  · refine E_iconst d_X11_mend_70 (c32 rfl) ?_
    cases h
    exact E_zret d_X11_mend_71 rfl (Or.inl rfl)
noncomputable def f_X11_mend_b39 (v0 v1 v2 v3 : Int) (σ : Mem) : Option (Int × Mem) :=
  f_X11_mend_b61 v0 v1 v2 v3 5 σ
theorem L_X11_mend_b39 {sc : Nat × (Nat → Int32)} {o : Int × Mem} {v0 v1 v2 v3 : Int} {σ : Mem} (h : f_X11_mend_b39 v0 v1 v2 v3 σ = some o) : E sc (Fm Sh (some (0, o.1)) Sh o.2) mt_X11_mend 2 Sh Sh 39 [(2, v0), (0, v1), (0, v2), (0, v3), (9, 0)] [] Sh σ := by
  unfold f_X11_mend_b39 at h
  refine E_iconst d_X11_mend_39 (c32 rfl) ?_
  refine E_istore d_X11_mend_40 (ls' := [(2, v0), (0, v1), (0, v2), (0, v3), (0, 5)]) ⟨by decide, rfl⟩ ?_
  refine E_goto (tgt := 61) d_X11_mend_42 (by decide) ?_
  exact (L_X11_mend_b61 h)
noncomputable def f_X11_mend_b0 (v0 v1 v2 v3 : Int) (σ : Mem) : Option (Int × Mem) :=
  (gf Sh σ 11 v0 3).bind fun x1 =>
  (f_X9_isPlace x1 v1 σ).bind fun r2 =>
  if r2 = 0 then
    f_X11_mend_b61 v0 v1 v2 v3 2 σ
  else
    (f_X11_isLenient v2 σ).bind fun r4 =>
    if r4 = 0 then
      f_X11_mend_b39 v0 v1 v2 v3 σ
    else
      if v3 < 1 then
        f_X11_mend_b39 v0 v1 v2 v3 σ
      else
        if v3 ≤ 9 then
          (gf Sh σ 11 v0 3).bind fun x6 =>
          (f_X9_isStone x6 v1 σ).bind fun r7 =>
          if r7 = 0 then
            f_X11_mend_b61 v0 v1 v2 v3 0 σ
          else
            f_X11_mend_b61 v0 v1 v2 v3 9 σ
        else
          f_X11_mend_b39 v0 v1 v2 v3 σ
theorem L_X11_mend_b0 {sc : Nat × (Nat → Int32)} {o : Int × Mem} {v0 v1 v2 v3 : Int} {σ : Mem} (h : f_X11_mend_b0 v0 v1 v2 v3 σ = some o) : E sc (Fm Sh (some (0, o.1)) Sh o.2) mt_X11_mend 2 Sh Sh 0 [(2, v0), (0, v1), (0, v2), (0, v3), (9, 0)] [] Sh σ := by
  unfold f_X11_mend_b0 at h
  refine E_iconst d_X11_mend_0 (c32 rfl) ?_
  refine E_istore d_X11_mend_1 (ls' := [(2, v0), (0, v1), (0, v2), (0, v3), (0, 0)]) ⟨by decide, rfl⟩ ?_
  refine E_aload_n d_X11_mend_3 rfl (by decide) ?_
  refine E_get d_X11_mend_4 okX11 fl_X11_31 ⟨by decide, rfl⟩ h (fun x1 h => ?_)
  refine E_iload_n d_X11_mend_7 rfl ?_
  refine E_i2l d_X11_mend_8 ?_
  refine bd h (fun r2 q3 h => ?_)
  refine E_cV (as := [(1, v1)]) (st := []) (a := x1) d_X11_mend_9 mk_X9_isPlace nl_X11_290 (by omega) ⟨rfl, rfl, Nat.le_of_ble_eq_true rfl⟩ okX9 rfl (L_X9_isPlace q3) ?_
  refine E_if_ne (tgt := 21) d_X11_mend_12 (by decide) h (fun _ h => ?_) (fun _ h => ?_)
  · refine E_iconst d_X11_mend_15 (c32 rfl) ?_
    refine E_istore d_X11_mend_16 (ls' := [(2, v0), (0, v1), (0, v2), (0, v3), (0, 2)]) ⟨by decide, rfl⟩ ?_
    refine E_goto (tgt := 61) d_X11_mend_18 (by decide) ?_
    exact (L_X11_mend_b61 h)
  · refine E_iload_n d_X11_mend_21 rfl ?_
    refine bd h (fun r4 q5 h => ?_)
    refine E_cS (as := [(0, v2)]) (st := []) d_X11_mend_22 mk_X11_isLenient nl_X11_284 (by omega) ⟨rfl, rfl, Nat.le_of_ble_eq_true rfl⟩ (L_X11_isLenient q5) ?_
    refine E_if_eq (tgt := 39) d_X11_mend_25 (by decide) h (fun _ h => ?_) (fun _ h => ?_)
    · exact E_weak (ls' := [(2, v0), (0, v1), (0, v2), (0, v3), (9, 0)]) ⟨Or.inr rfl, Or.inr rfl, Or.inr rfl, Or.inr rfl, Or.inl rfl, trivial⟩ (L_X11_mend_b39 h)
    · refine E_iload_n d_X11_mend_28 rfl ?_
      refine E_iconst d_X11_mend_29 (c32 rfl) ?_
      refine E_icmp_lt (tgt := 39) d_X11_mend_30 (by decide) h (fun _ h => ?_) (fun _ h => ?_)
      · exact E_weak (ls' := [(2, v0), (0, v1), (0, v2), (0, v3), (9, 0)]) ⟨Or.inr rfl, Or.inr rfl, Or.inr rfl, Or.inr rfl, Or.inl rfl, trivial⟩ (L_X11_mend_b39 h)
      · refine E_iload_n d_X11_mend_33 rfl ?_
        refine E_bipush d_X11_mend_34 (c8 rfl) ?_
        refine E_icmp_le (tgt := 45) d_X11_mend_36 (by decide) h (fun _ h => ?_) (fun _ h => ?_)
        · refine E_aload_n d_X11_mend_45 rfl (by decide) ?_
          refine E_get d_X11_mend_46 okX11 fl_X11_31 ⟨by decide, rfl⟩ h (fun x6 h => ?_)
          refine E_iload_n d_X11_mend_49 rfl ?_
          refine E_i2l d_X11_mend_50 ?_
          refine bd h (fun r7 q8 h => ?_)
          refine E_cV (as := [(1, v1)]) (st := []) (a := x6) d_X11_mend_51 mk_X9_isStone nl_X11_294 (by omega) ⟨rfl, rfl, Nat.le_of_ble_eq_true rfl⟩ okX9 rfl (L_X9_isStone q8) ?_
          refine E_if_eq (tgt := 61) d_X11_mend_54 (by decide) h (fun _ h => ?_) (fun _ h => ?_)
          · exact (L_X11_mend_b61 h)
          · refine E_bipush d_X11_mend_57 (c8 rfl) ?_
            refine E_istore d_X11_mend_59 (ls' := [(2, v0), (0, v1), (0, v2), (0, v3), (0, 9)]) ⟨by decide, rfl⟩ ?_
            exact (L_X11_mend_b61 h)
        · exact E_weak (ls' := [(2, v0), (0, v1), (0, v2), (0, v3), (9, 0)]) ⟨Or.inr rfl, Or.inr rfl, Or.inr rfl, Or.inr rfl, Or.inl rfl, trivial⟩ (L_X11_mend_b39 h)
noncomputable def f_X11_mend (v0 v1 v2 v3 : Int) (σ : Mem) : Option (Int × Mem) := if isO Sh 11 v0 = true then f_X11_mend_b0 v0 v1 v2 v3 σ else none
theorem L_X11_mend {o : Int × Mem} {v0 v1 v2 v3 : Int} {σ : Mem} (h : f_X11_mend v0 v1 v2 v3 σ = some o) : (isO Sh 11 v0 = true ∧ Cn mt_X11_mend 2 [(2, v0), (0, v1), (0, v2), (0, v3)] Sh σ (some (0, o.1)) Sh o.2) := ⟨(ite_ok h).1, Cn_of mk_X11_mend.1.2.2.1 (Nat.le_of_ble_eq_true rfl) (fun sc => L_X11_mend_b0 (ite_ok h).2)⟩
theorem d_X11_fly_0 : decode mt_X11_fly.2.1 0 = .ok (.iconst 0, 1) := by decide +kernel
theorem d_X11_fly_1 : decode mt_X11_fly.2.1 1 = .ok (.istore_n 3, 1) := by decide +kernel
theorem d_X11_fly_2 : decode mt_X11_fly.2.1 2 = .ok (.aload_n 0, 1) := by decide +kernel
theorem d_X11_fly_3 : decode mt_X11_fly.2.1 3 = .ok (.getfield 31, 3) := by decide +kernel
theorem d_X11_fly_6 : decode mt_X11_fly.2.1 6 = .ok (.iload_n 1, 1) := by decide +kernel
theorem d_X11_fly_7 : decode mt_X11_fly.2.1 7 = .ok (.invokevirtual 264, 3) := by decide +kernel
theorem d_X11_fly_10 : decode mt_X11_fly.2.1 10 = .ok (.ifCond .eq 15, 3) := by decide +kernel
theorem d_X11_fly_13 : decode mt_X11_fly.2.1 13 = .ok (.aload_n 0, 1) := by decide +kernel
theorem d_X11_fly_14 : decode mt_X11_fly.2.1 14 = .ok (.getfield 31, 3) := by decide +kernel
theorem d_X11_fly_17 : decode mt_X11_fly.2.1 17 = .ok (.iload_n 2, 1) := by decide +kernel
theorem d_X11_fly_18 : decode mt_X11_fly.2.1 18 = .ok (.i2l, 1) := by decide +kernel
theorem d_X11_fly_19 : decode mt_X11_fly.2.1 19 = .ok (.invokevirtual 290, 3) := by decide +kernel
theorem d_X11_fly_22 : decode mt_X11_fly.2.1 22 = .ok (.ifCond .ne 8, 3) := by decide +kernel
theorem d_X11_fly_25 : decode mt_X11_fly.2.1 25 = .ok (.iconst 2, 1) := by decide +kernel
theorem d_X11_fly_26 : decode mt_X11_fly.2.1 26 = .ok (.istore_n 3, 1) := by decide +kernel
theorem d_X11_fly_27 : decode mt_X11_fly.2.1 27 = .ok (.goto 37, 3) := by decide +kernel
theorem d_X11_fly_30 : decode mt_X11_fly.2.1 30 = .ok (.aload_n 0, 1) := by decide +kernel
theorem d_X11_fly_31 : decode mt_X11_fly.2.1 31 = .ok (.getfield 31, 3) := by decide +kernel
theorem d_X11_fly_34 : decode mt_X11_fly.2.1 34 = .ok (.iload_n 2, 1) := by decide +kernel
theorem d_X11_fly_35 : decode mt_X11_fly.2.1 35 = .ok (.i2l, 1) := by decide +kernel
theorem d_X11_fly_36 : decode mt_X11_fly.2.1 36 = .ok (.invokevirtual 294, 3) := by decide +kernel
theorem d_X11_fly_39 : decode mt_X11_fly.2.1 39 = .ok (.ifCond .ne 9, 3) := by decide +kernel
theorem d_X11_fly_42 : decode mt_X11_fly.2.1 42 = .ok (.bipush 8, 2) := by decide +kernel
theorem d_X11_fly_44 : decode mt_X11_fly.2.1 44 = .ok (.istore_n 3, 1) := by decide +kernel
theorem d_X11_fly_45 : decode mt_X11_fly.2.1 45 = .ok (.goto 19, 3) := by decide +kernel
theorem d_X11_fly_48 : decode mt_X11_fly.2.1 48 = .ok (.aload_n 0, 1) := by decide +kernel
theorem d_X11_fly_49 : decode mt_X11_fly.2.1 49 = .ok (.getfield 31, 3) := by decide +kernel
theorem d_X11_fly_52 : decode mt_X11_fly.2.1 52 = .ok (.getfield 267, 3) := by decide +kernel
theorem d_X11_fly_55 : decode mt_X11_fly.2.1 55 = .ok (.iload_n 1, 1) := by decide +kernel
theorem d_X11_fly_56 : decode mt_X11_fly.2.1 56 = .ok (.iaload, 1) := by decide +kernel
theorem d_X11_fly_57 : decode mt_X11_fly.2.1 57 = .ok (.iload_n 2, 1) := by decide +kernel
theorem d_X11_fly_58 : decode mt_X11_fly.2.1 58 = .ok (.if_icmp .ne 6, 3) := by decide +kernel
theorem d_X11_fly_61 : decode mt_X11_fly.2.1 61 = .ok (.bipush 9, 2) := by decide +kernel
theorem d_X11_fly_63 : decode mt_X11_fly.2.1 63 = .ok (.istore_n 3, 1) := by decide +kernel
theorem d_X11_fly_64 : decode mt_X11_fly.2.1 64 = .ok (.aload_n 0, 1) := by decide +kernel
theorem d_X11_fly_65 : decode mt_X11_fly.2.1 65 = .ok (.iload_n 3, 1) := by decide +kernel
theorem d_X11_fly_66 : decode mt_X11_fly.2.1 66 = .ok (.invokevirtual 132, 3) := by decide +kernel
theorem d_X11_fly_69 : decode mt_X11_fly.2.1 69 = .ok (.ifCond .eq 5, 3) := by decide +kernel
theorem d_X11_fly_72 : decode mt_X11_fly.2.1 72 = .ok (.iconst (-1), 1) := by decide +kernel
theorem d_X11_fly_73 : decode mt_X11_fly.2.1 73 = .ok (.ireturn, 1) := by decide +kernel
theorem d_X11_fly_74 : decode mt_X11_fly.2.1 74 = .ok (.aload_n 0, 1) := by decide +kernel
theorem d_X11_fly_75 : decode mt_X11_fly.2.1 75 = .ok (.getfield 31, 3) := by decide +kernel
theorem d_X11_fly_78 : decode mt_X11_fly.2.1 78 = .ok (.getfield 267, 3) := by decide +kernel
theorem d_X11_fly_81 : decode mt_X11_fly.2.1 81 = .ok (.iload_n 1, 1) := by decide +kernel
theorem d_X11_fly_82 : decode mt_X11_fly.2.1 82 = .ok (.iaload, 1) := by decide +kernel
theorem d_X11_fly_83 : decode mt_X11_fly.2.1 83 = .ok (.istore 4, 2) := by decide +kernel
theorem d_X11_fly_85 : decode mt_X11_fly.2.1 85 = .ok (.aload_n 0, 1) := by decide +kernel
theorem d_X11_fly_86 : decode mt_X11_fly.2.1 86 = .ok (.getfield 31, 3) := by decide +kernel
theorem d_X11_fly_89 : decode mt_X11_fly.2.1 89 = .ok (.iload_n 1, 1) := by decide +kernel
theorem d_X11_fly_90 : decode mt_X11_fly.2.1 90 = .ok (.iload_n 2, 1) := by decide +kernel
theorem d_X11_fly_91 : decode mt_X11_fly.2.1 91 = .ok (.invokevirtual 301, 3) := by decide +kernel
theorem d_X11_fly_94 : decode mt_X11_fly.2.1 94 = .ok (.iload 4, 2) := by decide +kernel
theorem d_X11_fly_96 : decode mt_X11_fly.2.1 96 = .ok (.iconst (-1), 1) := by decide +kernel
theorem d_X11_fly_97 : decode mt_X11_fly.2.1 97 = .ok (.if_icmp .ne 7, 3) := by decide +kernel
theorem d_X11_fly_100 : decode mt_X11_fly.2.1 100 = .ok (.iconst 0, 1) := by decide +kernel
theorem d_X11_fly_101 : decode mt_X11_fly.2.1 101 = .ok (.goto 4, 3) := by decide +kernel
theorem d_X11_fly_104 : decode mt_X11_fly.2.1 104 = .ok (.iconst 1, 1) := by decide +kernel
theorem d_X11_fly_105 : decode mt_X11_fly.2.1 105 = .ok (.ireturn, 1) := by decide +kernel
noncomputable def f_X11_fly_b64 (v0 v1 v2 v3 : Int) (σ : Mem) : Option (Int × Mem) :=
  (f_X11_refused v0 v3 σ).bind fun r13 =>
  if r13.1 = 0 then
    (gf Sh r13.2 11 v0 3).bind fun x15 =>
    (gf Sh r13.2 9 x15 8).bind fun x16 =>
    (al Sh r13.2 20 x16 v1).bind fun x17 =>
    (gf Sh r13.2 11 v0 3).bind fun x18 =>
    (f_X9_moveCrow x18 v1 v2 r13.2).bind fun r19 =>
    if x17 = (-1) then
      some (0, r19)
    else
      some (1, r19)
  else
    some ((-1), r13.2)
theorem L_X11_fly_b64 {sc : Nat × (Nat → Int32)} {o : Int × Mem} {v0 v1 v2 v3 : Int} {σ : Mem} (h : f_X11_fly_b64 v0 v1 v2 v3 σ = some o) : E sc (Fm Sh (some (0, o.1)) Sh o.2) mt_X11_fly 2 Sh Sh 64 [(2, v0), (0, v1), (0, v2), (0, v3), (9, 0)] [] Sh σ := by
  unfold f_X11_fly_b64 at h
  refine E_aload_n d_X11_fly_64 rfl (by decide) ?_
  refine E_iload_n d_X11_fly_65 rfl ?_
  refine bd h (fun r13 q14 h => ?_)
  refine E_cV (as := [(0, v3)]) (st := []) (a := v0) d_X11_fly_66 mk_X11_refused nl_X11_132 (by omega) ⟨rfl, rfl, Nat.le_of_ble_eq_true rfl⟩ okX11 rfl (L_X11_refused q14) ?_
  refine E_if_eq (tgt := 74) d_X11_fly_69 (by decide) h (fun _ h => ?_) (fun _ h => ?_)
  · refine E_aload_n d_X11_fly_74 rfl (by decide) ?_
    refine E_get d_X11_fly_75 okX11 fl_X11_31 ⟨by decide, rfl⟩ h (fun x15 h => ?_)
    refine E_get d_X11_fly_78 okX9 fl_X11_267 ⟨by decide, rfl⟩ h (fun x16 h => ?_)
    refine E_iload_n d_X11_fly_81 rfl ?_
    refine E_iaload d_X11_fly_82 h (fun x17 h => ?_)
    refine E_istore d_X11_fly_83 (ls' := [(2, v0), (0, v1), (0, v2), (0, v3), (0, x17)]) ⟨by decide, rfl⟩ ?_
    refine E_aload_n d_X11_fly_85 rfl (by decide) ?_
    refine E_get d_X11_fly_86 okX11 fl_X11_31 ⟨by decide, rfl⟩ h (fun x18 h => ?_)
    refine E_iload_n d_X11_fly_89 rfl ?_
    refine E_iload_n d_X11_fly_90 rfl ?_
    refine bd h (fun r19 q20 h => ?_)
    refine E_cVv (as := [(0, v1), (0, v2)]) (st := []) (a := x18) d_X11_fly_91 mk_X9_moveCrow nl_X11_301 (by omega) ⟨rfl, rfl, Nat.le_of_ble_eq_true rfl⟩ okX9 rfl (L_X9_moveCrow q20) ?_
    refine E_iload d_X11_fly_94 rfl ?_
    refine E_iconst d_X11_fly_96 (c32 rfl) ?_
    refine E_icmp_ne (tgt := 104) d_X11_fly_97 (by decide) h (fun _ h => ?_) (fun _ h => ?_)
    · refine E_iconst d_X11_fly_100 (c32 rfl) ?_
      refine E_goto (tgt := 105) d_X11_fly_101 (by decide) ?_
      cases h
      exact E_iret d_X11_fly_105 rfl
    · refine E_iconst d_X11_fly_104 (c32 rfl) ?_
      cases h
      exact E_iret d_X11_fly_105 rfl
  · refine E_iconst d_X11_fly_72 (c32 rfl) ?_
    cases h
    exact E_iret d_X11_fly_73 rfl
noncomputable def f_X11_fly_b25 (v0 v1 v2 : Int) (σ : Mem) : Option (Int × Mem) :=
  f_X11_fly_b64 v0 v1 v2 2 σ
theorem L_X11_fly_b25 {sc : Nat × (Nat → Int32)} {o : Int × Mem} {v0 v1 v2 : Int} {σ : Mem} (h : f_X11_fly_b25 v0 v1 v2 σ = some o) : E sc (Fm Sh (some (0, o.1)) Sh o.2) mt_X11_fly 2 Sh Sh 25 [(2, v0), (0, v1), (0, v2), (9, 0), (9, 0)] [] Sh σ := by
  unfold f_X11_fly_b25 at h
  refine E_iconst d_X11_fly_25 (c32 rfl) ?_
  refine E_istore_n d_X11_fly_26 (ls' := [(2, v0), (0, v1), (0, v2), (0, 2), (9, 0)]) ⟨by decide, rfl⟩ ?_
  refine E_goto (tgt := 64) d_X11_fly_27 (by decide) ?_
  exact (L_X11_fly_b64 h)
noncomputable def f_X11_fly_b0 (v0 v1 v2 : Int) (σ : Mem) : Option (Int × Mem) :=
  (gf Sh σ 11 v0 3).bind fun x1 =>
  (f_X9_isCrow x1 v1 σ).bind fun r2 =>
  if r2 = 0 then
    f_X11_fly_b25 v0 v1 v2 σ
  else
    (gf Sh σ 11 v0 3).bind fun x4 =>
    (f_X9_isPlace x4 v2 σ).bind fun r5 =>
    if r5 = 0 then
      f_X11_fly_b25 v0 v1 v2 σ
    else
      (gf Sh σ 11 v0 3).bind fun x7 =>
      (f_X9_isStone x7 v2 σ).bind fun r8 =>
      if r8 = 0 then
        f_X11_fly_b64 v0 v1 v2 8 σ
      else
        (gf Sh σ 11 v0 3).bind fun x10 =>
        (gf Sh σ 9 x10 8).bind fun x11 =>
        (al Sh σ 20 x11 v1).bind fun x12 =>
        if x12 = v2 then
          f_X11_fly_b64 v0 v1 v2 9 σ
        else
          f_X11_fly_b64 v0 v1 v2 0 σ
theorem L_X11_fly_b0 {sc : Nat × (Nat → Int32)} {o : Int × Mem} {v0 v1 v2 : Int} {σ : Mem} (h : f_X11_fly_b0 v0 v1 v2 σ = some o) : E sc (Fm Sh (some (0, o.1)) Sh o.2) mt_X11_fly 2 Sh Sh 0 [(2, v0), (0, v1), (0, v2), (9, 0), (9, 0)] [] Sh σ := by
  unfold f_X11_fly_b0 at h
  refine E_iconst d_X11_fly_0 (c32 rfl) ?_
  refine E_istore_n d_X11_fly_1 (ls' := [(2, v0), (0, v1), (0, v2), (0, 0), (9, 0)]) ⟨by decide, rfl⟩ ?_
  refine E_aload_n d_X11_fly_2 rfl (by decide) ?_
  refine E_get d_X11_fly_3 okX11 fl_X11_31 ⟨by decide, rfl⟩ h (fun x1 h => ?_)
  refine E_iload_n d_X11_fly_6 rfl ?_
  refine bd h (fun r2 q3 h => ?_)
  refine E_cV (as := [(0, v1)]) (st := []) (a := x1) d_X11_fly_7 mk_X9_isCrow nl_X11_264 (by omega) ⟨rfl, rfl, Nat.le_of_ble_eq_true rfl⟩ okX9 rfl (L_X9_isCrow q3) ?_
  refine E_if_eq (tgt := 25) d_X11_fly_10 (by decide) h (fun _ h => ?_) (fun _ h => ?_)
  · exact E_weak (ls' := [(2, v0), (0, v1), (0, v2), (9, 0), (9, 0)]) ⟨Or.inr rfl, Or.inr rfl, Or.inr rfl, Or.inl rfl, Or.inl rfl, trivial⟩ (L_X11_fly_b25 h)
  · refine E_aload_n d_X11_fly_13 rfl (by decide) ?_
    refine E_get d_X11_fly_14 okX11 fl_X11_31 ⟨by decide, rfl⟩ h (fun x4 h => ?_)
    refine E_iload_n d_X11_fly_17 rfl ?_
    refine E_i2l d_X11_fly_18 ?_
    refine bd h (fun r5 q6 h => ?_)
    refine E_cV (as := [(1, v2)]) (st := []) (a := x4) d_X11_fly_19 mk_X9_isPlace nl_X11_290 (by omega) ⟨rfl, rfl, Nat.le_of_ble_eq_true rfl⟩ okX9 rfl (L_X9_isPlace q6) ?_
    refine E_if_ne (tgt := 30) d_X11_fly_22 (by decide) h (fun _ h => ?_) (fun _ h => ?_)
    · exact E_weak (ls' := [(2, v0), (0, v1), (0, v2), (9, 0), (9, 0)]) ⟨Or.inr rfl, Or.inr rfl, Or.inr rfl, Or.inl rfl, Or.inl rfl, trivial⟩ (L_X11_fly_b25 h)
    · refine E_aload_n d_X11_fly_30 rfl (by decide) ?_
      refine E_get d_X11_fly_31 okX11 fl_X11_31 ⟨by decide, rfl⟩ h (fun x7 h => ?_)
      refine E_iload_n d_X11_fly_34 rfl ?_
      refine E_i2l d_X11_fly_35 ?_
      refine bd h (fun r8 q9 h => ?_)
      refine E_cV (as := [(1, v2)]) (st := []) (a := x7) d_X11_fly_36 mk_X9_isStone nl_X11_294 (by omega) ⟨rfl, rfl, Nat.le_of_ble_eq_true rfl⟩ okX9 rfl (L_X9_isStone q9) ?_
      refine E_if_ne (tgt := 48) d_X11_fly_39 (by decide) h (fun _ h => ?_) (fun _ h => ?_)
      · refine E_bipush d_X11_fly_42 (c8 rfl) ?_
        refine E_istore_n d_X11_fly_44 (ls' := [(2, v0), (0, v1), (0, v2), (0, 8), (9, 0)]) ⟨by decide, rfl⟩ ?_
        refine E_goto (tgt := 64) d_X11_fly_45 (by decide) ?_
        exact (L_X11_fly_b64 h)
      · refine E_aload_n d_X11_fly_48 rfl (by decide) ?_
        refine E_get d_X11_fly_49 okX11 fl_X11_31 ⟨by decide, rfl⟩ h (fun x10 h => ?_)
        refine E_get d_X11_fly_52 okX9 fl_X11_267 ⟨by decide, rfl⟩ h (fun x11 h => ?_)
        refine E_iload_n d_X11_fly_55 rfl ?_
        refine E_iaload d_X11_fly_56 h (fun x12 h => ?_)
        refine E_iload_n d_X11_fly_57 rfl ?_
        refine E_icmp_ne (tgt := 64) d_X11_fly_58 (by decide) h (fun _ h => ?_) (fun _ h => ?_)
        · refine E_bipush d_X11_fly_61 (c8 rfl) ?_
          refine E_istore_n d_X11_fly_63 (ls' := [(2, v0), (0, v1), (0, v2), (0, 9), (9, 0)]) ⟨by decide, rfl⟩ ?_
          exact (L_X11_fly_b64 h)
        · exact (L_X11_fly_b64 h)
noncomputable def f_X11_fly (v0 v1 v2 : Int) (σ : Mem) : Option (Int × Mem) := if isO Sh 11 v0 = true then f_X11_fly_b0 v0 v1 v2 σ else none
theorem L_X11_fly {o : Int × Mem} {v0 v1 v2 : Int} {σ : Mem} (h : f_X11_fly v0 v1 v2 σ = some o) : (isO Sh 11 v0 = true ∧ Cn mt_X11_fly 2 [(2, v0), (0, v1), (0, v2)] Sh σ (some (0, o.1)) Sh o.2) := ⟨(ite_ok h).1, Cn_of mk_X11_fly.1.2.2.1 (Nat.le_of_ble_eq_true rfl) (fun sc => L_X11_fly_b0 (ite_ok h).2)⟩
theorem d_X11_hatch_0 : decode mt_X11_hatch.2.1 0 = .ok (.iconst 0, 1) := by decide +kernel
theorem d_X11_hatch_1 : decode mt_X11_hatch.2.1 1 = .ok (.istore_n 3, 1) := by decide +kernel
theorem d_X11_hatch_2 : decode mt_X11_hatch.2.1 2 = .ok (.aload_n 0, 1) := by decide +kernel
theorem d_X11_hatch_3 : decode mt_X11_hatch.2.1 3 = .ok (.getfield 31, 3) := by decide +kernel
theorem d_X11_hatch_6 : decode mt_X11_hatch.2.1 6 = .ok (.iload_n 1, 1) := by decide +kernel
theorem d_X11_hatch_7 : decode mt_X11_hatch.2.1 7 = .ok (.i2l, 1) := by decide +kernel
theorem d_X11_hatch_8 : decode mt_X11_hatch.2.1 8 = .ok (.invokevirtual 290, 3) := by decide +kernel
theorem d_X11_hatch_11 : decode mt_X11_hatch.2.1 11 = .ok (.ifCond .ne 8, 3) := by decide +kernel
theorem d_X11_hatch_14 : decode mt_X11_hatch.2.1 14 = .ok (.iconst 2, 1) := by decide +kernel
theorem d_X11_hatch_15 : decode mt_X11_hatch.2.1 15 = .ok (.istore_n 3, 1) := by decide +kernel
theorem d_X11_hatch_16 : decode mt_X11_hatch.2.1 16 = .ok (.goto 35, 3) := by decide +kernel
theorem d_X11_hatch_19 : decode mt_X11_hatch.2.1 19 = .ok (.aload_n 0, 1) := by decide +kernel
theorem d_X11_hatch_20 : decode mt_X11_hatch.2.1 20 = .ok (.getfield 31, 3) := by decide +kernel
theorem d_X11_hatch_23 : decode mt_X11_hatch.2.1 23 = .ok (.getfield 218, 3) := by decide +kernel
theorem d_X11_hatch_26 : decode mt_X11_hatch.2.1 26 = .ok (.iconst 4, 1) := by decide +kernel
theorem d_X11_hatch_27 : decode mt_X11_hatch.2.1 27 = .ok (.if_icmp .lt 9, 3) := by decide +kernel
theorem d_X11_hatch_30 : decode mt_X11_hatch.2.1 30 = .ok (.bipush 7, 2) := by decide +kernel
theorem d_X11_hatch_32 : decode mt_X11_hatch.2.1 32 = .ok (.istore_n 3, 1) := by decide +kernel
theorem d_X11_hatch_33 : decode mt_X11_hatch.2.1 33 = .ok (.goto 18, 3) := by decide +kernel
theorem d_X11_hatch_36 : decode mt_X11_hatch.2.1 36 = .ok (.aload_n 0, 1) := by decide +kernel
theorem d_X11_hatch_37 : decode mt_X11_hatch.2.1 37 = .ok (.getfield 31, 3) := by decide +kernel
theorem d_X11_hatch_40 : decode mt_X11_hatch.2.1 40 = .ok (.iload_n 1, 1) := by decide +kernel
theorem d_X11_hatch_41 : decode mt_X11_hatch.2.1 41 = .ok (.i2l, 1) := by decide +kernel
theorem d_X11_hatch_42 : decode mt_X11_hatch.2.1 42 = .ok (.invokevirtual 294, 3) := by decide +kernel
theorem d_X11_hatch_45 : decode mt_X11_hatch.2.1 45 = .ok (.ifCond .ne 6, 3) := by decide +kernel
theorem d_X11_hatch_48 : decode mt_X11_hatch.2.1 48 = .ok (.bipush 8, 2) := by decide +kernel
theorem d_X11_hatch_50 : decode mt_X11_hatch.2.1 50 = .ok (.istore_n 3, 1) := by decide +kernel
theorem d_X11_hatch_51 : decode mt_X11_hatch.2.1 51 = .ok (.aload_n 0, 1) := by decide +kernel
theorem d_X11_hatch_52 : decode mt_X11_hatch.2.1 52 = .ok (.iload_n 3, 1) := by decide +kernel
theorem d_X11_hatch_53 : decode mt_X11_hatch.2.1 53 = .ok (.invokevirtual 132, 3) := by decide +kernel
theorem d_X11_hatch_56 : decode mt_X11_hatch.2.1 56 = .ok (.ifCond .eq 5, 3) := by decide +kernel
theorem d_X11_hatch_59 : decode mt_X11_hatch.2.1 59 = .ok (.iconst (-1), 1) := by decide +kernel
theorem d_X11_hatch_60 : decode mt_X11_hatch.2.1 60 = .ok (.ireturn, 1) := by decide +kernel
theorem d_X11_hatch_61 : decode mt_X11_hatch.2.1 61 = .ok (.aload_n 0, 1) := by decide +kernel
theorem d_X11_hatch_62 : decode mt_X11_hatch.2.1 62 = .ok (.getfield 31, 3) := by decide +kernel
theorem d_X11_hatch_65 : decode mt_X11_hatch.2.1 65 = .ok (.lconst 0, 1) := by decide +kernel
theorem d_X11_hatch_66 : decode mt_X11_hatch.2.1 66 = .ok (.iload_n 1, 1) := by decide +kernel
theorem d_X11_hatch_67 : decode mt_X11_hatch.2.1 67 = .ok (.iload_n 2, 1) := by decide +kernel
theorem d_X11_hatch_68 : decode mt_X11_hatch.2.1 68 = .ok (.invokevirtual 304, 3) := by decide +kernel
theorem d_X11_hatch_71 : decode mt_X11_hatch.2.1 71 = .ok (.aload_n 0, 1) := by decide +kernel
theorem d_X11_hatch_72 : decode mt_X11_hatch.2.1 72 = .ok (.getfield 31, 3) := by decide +kernel
theorem d_X11_hatch_75 : decode mt_X11_hatch.2.1 75 = .ok (.getfield 218, 3) := by decide +kernel
theorem d_X11_hatch_78 : decode mt_X11_hatch.2.1 78 = .ok (.iconst 1, 1) := by decide +kernel
theorem d_X11_hatch_79 : decode mt_X11_hatch.2.1 79 = .ok (.isub, 1) := by decide +kernel
theorem d_X11_hatch_80 : decode mt_X11_hatch.2.1 80 = .ok (.ireturn, 1) := by decide +kernel
noncomputable def f_X11_hatch_b51 (v0 v1 v2 v3 : Int) (σ : Mem) : Option (Int × Mem) :=
  (f_X11_refused v0 v3 σ).bind fun r9 =>
  if r9.1 = 0 then
    (gf Sh r9.2 11 v0 3).bind fun x11 =>
    (f_X9_addCrow x11 0 v1 v2 r9.2).bind fun r12 =>
    (gf Sh r12 11 v0 3).bind fun x14 =>
    (gf Sh r12 9 x14 7).bind fun x15 =>
    some (w32 (x15 - 1), r12)
  else
    some ((-1), r9.2)
theorem L_X11_hatch_b51 {sc : Nat × (Nat → Int32)} {o : Int × Mem} {v0 v1 v2 v3 : Int} {σ : Mem} (h : f_X11_hatch_b51 v0 v1 v2 v3 σ = some o) : E sc (Fm Sh (some (0, o.1)) Sh o.2) mt_X11_hatch 3 Sh Sh 51 [(2, v0), (0, v1), (0, v2), (0, v3)] [] Sh σ := by
  unfold f_X11_hatch_b51 at h
  refine E_aload_n d_X11_hatch_51 rfl (by decide) ?_
  refine E_iload_n d_X11_hatch_52 rfl ?_
  refine bd h (fun r9 q10 h => ?_)
  refine E_cV (as := [(0, v3)]) (st := []) (a := v0) d_X11_hatch_53 mk_X11_refused nl_X11_132 (by omega) ⟨rfl, rfl, Nat.le_of_ble_eq_true rfl⟩ okX11 rfl (L_X11_refused q10) ?_
  refine E_if_eq (tgt := 61) d_X11_hatch_56 (by decide) h (fun _ h => ?_) (fun _ h => ?_)
  · refine E_aload_n d_X11_hatch_61 rfl (by decide) ?_
    refine E_get d_X11_hatch_62 okX11 fl_X11_31 ⟨by decide, rfl⟩ h (fun x11 h => ?_)
    refine E_lconst d_X11_hatch_65 cl0 ?_
    refine E_iload_n d_X11_hatch_66 rfl ?_
    refine E_iload_n d_X11_hatch_67 rfl ?_
    refine bd h (fun r12 q13 h => ?_)
    refine E_cVv (as := [(1, 0), (0, v1), (0, v2)]) (st := []) (a := x11) d_X11_hatch_68 mk_X9_addCrow nl_X11_304 (by omega) ⟨rfl, rfl, Nat.le_of_ble_eq_true rfl⟩ okX9 rfl (L_X9_addCrow q13) ?_
    refine E_aload_n d_X11_hatch_71 rfl (by decide) ?_
    refine E_get d_X11_hatch_72 okX11 fl_X11_31 ⟨by decide, rfl⟩ h (fun x14 h => ?_)
    refine E_get d_X11_hatch_75 okX9 fl_X11_218 ⟨by decide, rfl⟩ h (fun x15 h => ?_)
    refine E_iconst d_X11_hatch_78 (c32 rfl) ?_
    refine E_isub d_X11_hatch_79 ?_
    cases h
    exact E_iret d_X11_hatch_80 rfl
  · refine E_iconst d_X11_hatch_59 (c32 rfl) ?_
    cases h
    exact E_iret d_X11_hatch_60 rfl
noncomputable def f_X11_hatch_b0 (v0 v1 v2 : Int) (σ : Mem) : Option (Int × Mem) :=
  (gf Sh σ 11 v0 3).bind fun x1 =>
  (f_X9_isPlace x1 v1 σ).bind fun r2 =>
  if r2 = 0 then
    f_X11_hatch_b51 v0 v1 v2 2 σ
  else
    (gf Sh σ 11 v0 3).bind fun x4 =>
    (gf Sh σ 9 x4 7).bind fun x5 =>
    if x5 < 4 then
      (gf Sh σ 11 v0 3).bind fun x6 =>
      (f_X9_isStone x6 v1 σ).bind fun r7 =>
      if r7 = 0 then
        f_X11_hatch_b51 v0 v1 v2 8 σ
      else
        f_X11_hatch_b51 v0 v1 v2 0 σ
    else
      f_X11_hatch_b51 v0 v1 v2 7 σ
theorem L_X11_hatch_b0 {sc : Nat × (Nat → Int32)} {o : Int × Mem} {v0 v1 v2 : Int} {σ : Mem} (h : f_X11_hatch_b0 v0 v1 v2 σ = some o) : E sc (Fm Sh (some (0, o.1)) Sh o.2) mt_X11_hatch 3 Sh Sh 0 [(2, v0), (0, v1), (0, v2), (9, 0)] [] Sh σ := by
  unfold f_X11_hatch_b0 at h
  refine E_iconst d_X11_hatch_0 (c32 rfl) ?_
  refine E_istore_n d_X11_hatch_1 (ls' := [(2, v0), (0, v1), (0, v2), (0, 0)]) ⟨by decide, rfl⟩ ?_
  refine E_aload_n d_X11_hatch_2 rfl (by decide) ?_
  refine E_get d_X11_hatch_3 okX11 fl_X11_31 ⟨by decide, rfl⟩ h (fun x1 h => ?_)
  refine E_iload_n d_X11_hatch_6 rfl ?_
  refine E_i2l d_X11_hatch_7 ?_
  refine bd h (fun r2 q3 h => ?_)
  refine E_cV (as := [(1, v1)]) (st := []) (a := x1) d_X11_hatch_8 mk_X9_isPlace nl_X11_290 (by omega) ⟨rfl, rfl, Nat.le_of_ble_eq_true rfl⟩ okX9 rfl (L_X9_isPlace q3) ?_
  refine E_if_ne (tgt := 19) d_X11_hatch_11 (by decide) h (fun _ h => ?_) (fun _ h => ?_)
  · refine E_iconst d_X11_hatch_14 (c32 rfl) ?_
    refine E_istore_n d_X11_hatch_15 (ls' := [(2, v0), (0, v1), (0, v2), (0, 2)]) ⟨by decide, rfl⟩ ?_
    refine E_goto (tgt := 51) d_X11_hatch_16 (by decide) ?_
    exact (L_X11_hatch_b51 h)
  · refine E_aload_n d_X11_hatch_19 rfl (by decide) ?_
    refine E_get d_X11_hatch_20 okX11 fl_X11_31 ⟨by decide, rfl⟩ h (fun x4 h => ?_)
    refine E_get d_X11_hatch_23 okX9 fl_X11_218 ⟨by decide, rfl⟩ h (fun x5 h => ?_)
    refine E_iconst d_X11_hatch_26 (c32 rfl) ?_
    refine E_icmp_lt (tgt := 36) d_X11_hatch_27 (by decide) h (fun _ h => ?_) (fun _ h => ?_)
    · refine E_aload_n d_X11_hatch_36 rfl (by decide) ?_
      refine E_get d_X11_hatch_37 okX11 fl_X11_31 ⟨by decide, rfl⟩ h (fun x6 h => ?_)
      refine E_iload_n d_X11_hatch_40 rfl ?_
      refine E_i2l d_X11_hatch_41 ?_
      refine bd h (fun r7 q8 h => ?_)
      refine E_cV (as := [(1, v1)]) (st := []) (a := x6) d_X11_hatch_42 mk_X9_isStone nl_X11_294 (by omega) ⟨rfl, rfl, Nat.le_of_ble_eq_true rfl⟩ okX9 rfl (L_X9_isStone q8) ?_
      refine E_if_ne (tgt := 51) d_X11_hatch_45 (by decide) h (fun _ h => ?_) (fun _ h => ?_)
      · refine E_bipush d_X11_hatch_48 (c8 rfl) ?_
        refine E_istore_n d_X11_hatch_50 (ls' := [(2, v0), (0, v1), (0, v2), (0, 8)]) ⟨by decide, rfl⟩ ?_
        exact (L_X11_hatch_b51 h)
      · exact (L_X11_hatch_b51 h)
    · refine E_bipush d_X11_hatch_30 (c8 rfl) ?_
      refine E_istore_n d_X11_hatch_32 (ls' := [(2, v0), (0, v1), (0, v2), (0, 7)]) ⟨by decide, rfl⟩ ?_
      refine E_goto (tgt := 51) d_X11_hatch_33 (by decide) ?_
      exact (L_X11_hatch_b51 h)
noncomputable def f_X11_hatch (v0 v1 v2 : Int) (σ : Mem) : Option (Int × Mem) := if isO Sh 11 v0 = true then f_X11_hatch_b0 v0 v1 v2 σ else none
theorem L_X11_hatch {o : Int × Mem} {v0 v1 v2 : Int} {σ : Mem} (h : f_X11_hatch v0 v1 v2 σ = some o) : (isO Sh 11 v0 = true ∧ Cn mt_X11_hatch 3 [(2, v0), (0, v1), (0, v2)] Sh σ (some (0, o.1)) Sh o.2) := ⟨(ite_ok h).1, Cn_of mk_X11_hatch.1.2.2.1 (Nat.le_of_ble_eq_true rfl) (fun sc => L_X11_hatch_b0 (ite_ok h).2)⟩
theorem d_X11_rule_0 : decode mt_X11_rule.2.1 0 = .ok (.aload_n 0, 1) := by decide +kernel
theorem d_X11_rule_1 : decode mt_X11_rule.2.1 1 = .ok (.iload_n 1, 1) := by decide +kernel
theorem d_X11_rule_2 : decode mt_X11_rule.2.1 2 = .ok (.ifCond .lt 9, 3) := by decide +kernel
theorem d_X11_rule_5 : decode mt_X11_rule.2.1 5 = .ok (.iload_n 1, 1) := by decide +kernel
theorem d_X11_rule_6 : decode mt_X11_rule.2.1 6 = .ok (.bipush 16, 2) := by decide +kernel
theorem d_X11_rule_8 : decode mt_X11_rule.2.1 8 = .ok (.if_icmp .le 7, 3) := by decide +kernel
theorem d_X11_rule_11 : decode mt_X11_rule.2.1 11 = .ok (.iconst 5, 1) := by decide +kernel
theorem d_X11_rule_12 : decode mt_X11_rule.2.1 12 = .ok (.goto 4, 3) := by decide +kernel
theorem d_X11_rule_15 : decode mt_X11_rule.2.1 15 = .ok (.iconst 0, 1) := by decide +kernel
theorem d_X11_rule_16 : decode mt_X11_rule.2.1 16 = .ok (.invokevirtual 132, 3) := by decide +kernel
theorem d_X11_rule_19 : decode mt_X11_rule.2.1 19 = .ok (.ifCond .eq 5, 3) := by decide +kernel
theorem d_X11_rule_22 : decode mt_X11_rule.2.1 22 = .ok (.iconst 0, 1) := by decide +kernel
theorem d_X11_rule_23 : decode mt_X11_rule.2.1 23 = .ok (.ireturn, 1) := by decide +kernel
theorem d_X11_rule_24 : decode mt_X11_rule.2.1 24 = .ok (.aload_n 0, 1) := by decide +kernel
theorem d_X11_rule_25 : decode mt_X11_rule.2.1 25 = .ok (.getfield 31, 3) := by decide +kernel
theorem d_X11_rule_28 : decode mt_X11_rule.2.1 28 = .ok (.iload_n 1, 1) := by decide +kernel
theorem d_X11_rule_29 : decode mt_X11_rule.2.1 29 = .ok (.putfield 221, 3) := by decide +kernel
theorem d_X11_rule_32 : decode mt_X11_rule.2.1 32 = .ok (.iconst 1, 1) := by decide +kernel
theorem d_X11_rule_33 : decode mt_X11_rule.2.1 33 = .ok (.ireturn, 1) := by decide +kernel
noncomputable def f_X11_rule_b16 (v0 v1 s0 s1 : Int) (σ : Mem) : Option (Int × Mem) :=
  (f_X11_refused s1 s0 σ).bind fun r1 =>
  if r1.1 = 0 then
    (gf Sh r1.2 11 v0 3).bind fun x3 =>
    (pf Sh r1.2 9 x3 11 v1).bind fun σ4 =>
    some (1, σ4)
  else
    some (0, r1.2)
theorem L_X11_rule_b16 {sc : Nat × (Nat → Int32)} {o : Int × Mem} {v0 v1 s0 s1 : Int} {σ : Mem} (h : f_X11_rule_b16 v0 v1 s0 s1 σ = some o) : E sc (Fm Sh (some (0, o.1)) Sh o.2) mt_X11_rule 2 Sh Sh 16 [(2, v0), (0, v1)] [(0, s0), (2, s1)] Sh σ := by
  unfold f_X11_rule_b16 at h
  refine bd h (fun r1 q2 h => ?_)
  refine E_cV (as := [(0, s0)]) (st := []) (a := s1) d_X11_rule_16 mk_X11_refused nl_X11_132 (by omega) ⟨rfl, rfl, Nat.le_of_ble_eq_true rfl⟩ okX11 rfl (L_X11_refused q2) ?_
  refine E_if_eq (tgt := 24) d_X11_rule_19 (by decide) h (fun _ h => ?_) (fun _ h => ?_)
  · refine E_aload_n d_X11_rule_24 rfl (by decide) ?_
    refine E_get d_X11_rule_25 okX11 fl_X11_31 ⟨by decide, rfl⟩ h (fun x3 h => ?_)
    refine E_iload_n d_X11_rule_28 rfl ?_
    refine E_put d_X11_rule_29 okX9 fl_X11_221 ⟨by decide, rfl⟩ (Or.inl ⟨rfl, rfl⟩) (Or.inl rfl) h (fun σ4 h => ?_)
    refine E_iconst d_X11_rule_32 (c32 rfl) ?_
    cases h
    exact E_zret d_X11_rule_33 rfl (Or.inr rfl)
  · refine E_iconst d_X11_rule_22 (c32 rfl) ?_
    cases h
    exact E_zret d_X11_rule_23 rfl (Or.inl rfl)
noncomputable def f_X11_rule_b11 (v0 v1 s0 : Int) (σ : Mem) : Option (Int × Mem) :=
  f_X11_rule_b16 v0 v1 5 s0 σ
theorem L_X11_rule_b11 {sc : Nat × (Nat → Int32)} {o : Int × Mem} {v0 v1 s0 : Int} {σ : Mem} (h : f_X11_rule_b11 v0 v1 s0 σ = some o) : E sc (Fm Sh (some (0, o.1)) Sh o.2) mt_X11_rule 2 Sh Sh 11 [(2, v0), (0, v1)] [(2, s0)] Sh σ := by
  unfold f_X11_rule_b11 at h
  refine E_iconst d_X11_rule_11 (c32 rfl) ?_
  refine E_goto (tgt := 16) d_X11_rule_12 (by decide) ?_
  exact (L_X11_rule_b16 h)
noncomputable def f_X11_rule_b0 (v0 v1 : Int) (σ : Mem) : Option (Int × Mem) :=
  if v1 < 0 then
    f_X11_rule_b11 v0 v1 v0 σ
  else
    if v1 ≤ 16 then
      f_X11_rule_b16 v0 v1 0 v0 σ
    else
      f_X11_rule_b11 v0 v1 v0 σ
theorem L_X11_rule_b0 {sc : Nat × (Nat → Int32)} {o : Int × Mem} {v0 v1 : Int} {σ : Mem} (h : f_X11_rule_b0 v0 v1 σ = some o) : E sc (Fm Sh (some (0, o.1)) Sh o.2) mt_X11_rule 2 Sh Sh 0 [(2, v0), (0, v1)] [] Sh σ := by
  unfold f_X11_rule_b0 at h
  refine E_aload_n d_X11_rule_0 rfl (by decide) ?_
  refine E_iload_n d_X11_rule_1 rfl ?_
  refine E_if_lt (tgt := 11) d_X11_rule_2 (by decide) h (fun _ h => ?_) (fun _ h => ?_)
  · exact (L_X11_rule_b11 h)
  · refine E_iload_n d_X11_rule_5 rfl ?_
    refine E_bipush d_X11_rule_6 (c8 rfl) ?_
    refine E_icmp_le (tgt := 15) d_X11_rule_8 (by decide) h (fun _ h => ?_) (fun _ h => ?_)
    · refine E_iconst d_X11_rule_15 (c32 rfl) ?_
      exact (L_X11_rule_b16 h)
    · exact (L_X11_rule_b11 h)
noncomputable def f_X11_rule (v0 v1 : Int) (σ : Mem) : Option (Int × Mem) := if isO Sh 11 v0 = true then f_X11_rule_b0 v0 v1 σ else none
theorem L_X11_rule {o : Int × Mem} {v0 v1 : Int} {σ : Mem} (h : f_X11_rule v0 v1 σ = some o) : (isO Sh 11 v0 = true ∧ Cn mt_X11_rule 2 [(2, v0), (0, v1)] Sh σ (some (0, o.1)) Sh o.2) := ⟨(ite_ok h).1, Cn_of mk_X11_rule.1.2.2.1 (Nat.le_of_ble_eq_true rfl) (fun sc => L_X11_rule_b0 (ite_ok h).2)⟩
