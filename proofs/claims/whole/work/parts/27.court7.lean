theorem d_X11_seedsWhy_0 : decode mt_X11_seedsWhy.2.1 0 = .ok (.iload_n 1, 1) := by decide +kernel
theorem d_X11_seedsWhy_1 : decode mt_X11_seedsWhy.2.1 1 = .ok (.ifCond .lt 25, 3) := by decide +kernel
theorem d_X11_seedsWhy_4 : decode mt_X11_seedsWhy.2.1 4 = .ok (.iload_n 2, 1) := by decide +kernel
theorem d_X11_seedsWhy_5 : decode mt_X11_seedsWhy.2.1 5 = .ok (.iconst 1, 1) := by decide +kernel
theorem d_X11_seedsWhy_6 : decode mt_X11_seedsWhy.2.1 6 = .ok (.if_icmp .lt 20, 3) := by decide +kernel
theorem d_X11_seedsWhy_9 : decode mt_X11_seedsWhy.2.1 9 = .ok (.iload_n 2, 1) := by decide +kernel
theorem d_X11_seedsWhy_10 : decode mt_X11_seedsWhy.2.1 10 = .ok (.bipush 20, 2) := by decide +kernel
theorem d_X11_seedsWhy_12 : decode mt_X11_seedsWhy.2.1 12 = .ok (.if_icmp .gt 14, 3) := by decide +kernel
theorem d_X11_seedsWhy_15 : decode mt_X11_seedsWhy.2.1 15 = .ok (.iload_n 1, 1) := by decide +kernel
theorem d_X11_seedsWhy_16 : decode mt_X11_seedsWhy.2.1 16 = .ok (.sipush 9999, 3) := by decide +kernel
theorem d_X11_seedsWhy_19 : decode mt_X11_seedsWhy.2.1 19 = .ok (.iload_n 2, 1) := by decide +kernel
theorem d_X11_seedsWhy_20 : decode mt_X11_seedsWhy.2.1 20 = .ok (.isub, 1) := by decide +kernel
theorem d_X11_seedsWhy_21 : decode mt_X11_seedsWhy.2.1 21 = .ok (.iconst 1, 1) := by decide +kernel
theorem d_X11_seedsWhy_22 : decode mt_X11_seedsWhy.2.1 22 = .ok (.iadd, 1) := by decide +kernel
theorem d_X11_seedsWhy_23 : decode mt_X11_seedsWhy.2.1 23 = .ok (.if_icmp .le 5, 3) := by decide +kernel
theorem d_X11_seedsWhy_26 : decode mt_X11_seedsWhy.2.1 26 = .ok (.iconst 5, 1) := by decide +kernel
theorem d_X11_seedsWhy_27 : decode mt_X11_seedsWhy.2.1 27 = .ok (.ireturn, 1) := by decide +kernel
theorem d_X11_seedsWhy_28 : decode mt_X11_seedsWhy.2.1 28 = .ok (.aload_n 0, 1) := by decide +kernel
theorem d_X11_seedsWhy_29 : decode mt_X11_seedsWhy.2.1 29 = .ok (.getfield 38, 3) := by decide +kernel
theorem d_X11_seedsWhy_32 : decode mt_X11_seedsWhy.2.1 32 = .ok (.getfield 464, 3) := by decide +kernel
theorem d_X11_seedsWhy_35 : decode mt_X11_seedsWhy.2.1 35 = .ok (.ifCond .eq 7, 3) := by decide +kernel
theorem d_X11_seedsWhy_38 : decode mt_X11_seedsWhy.2.1 38 = .ok (.iconst 0, 1) := by decide +kernel
theorem d_X11_seedsWhy_39 : decode mt_X11_seedsWhy.2.1 39 = .ok (.goto 5, 3) := by decide +kernel
theorem d_X11_seedsWhy_42 : decode mt_X11_seedsWhy.2.1 42 = .ok (.bipush 8, 2) := by decide +kernel
theorem d_X11_seedsWhy_44 : decode mt_X11_seedsWhy.2.1 44 = .ok (.ireturn, 1) := by decide +kernel
noncomputable def f_X11_seedsWhy_b0 (v0 v1 v2 : Int) (σ : Mem) : Option (Int) :=
  if v1 < 0 then
    some (5)
  else
    if v2 < 1 then
      some (5)
    else
      if 20 < v2 then
        some (5)
      else
        if v1 ≤ w32 (w32 (9999 - v2) + 1) then
          (gf Sh σ 11 v0 4).bind fun x1 =>
          (gf Sh σ 5 x1 0).bind fun x2 =>
          if x2 = 0 then
            some (8)
          else
            some (0)
        else
          some (5)
theorem L_X11_seedsWhy_b0 {sc : Nat × (Nat → Int32)} {o : Int} {σ : Mem} {v0 v1 v2 : Int} (h : f_X11_seedsWhy_b0 v0 v1 v2 σ = some o) : E sc (Fm Sh (some (0, o)) Sh σ) mt_X11_seedsWhy 1 Sh Sh 0 [(2, v0), (0, v1), (0, v2)] [] Sh σ := by
  unfold f_X11_seedsWhy_b0 at h
  refine E_iload_n d_X11_seedsWhy_0 rfl ?_
  refine E_if_lt (tgt := 26) d_X11_seedsWhy_1 (by decide) h (fun _ h => ?_) (fun _ h => ?_)
  · refine E_iconst d_X11_seedsWhy_26 (c32 rfl) ?_
    cases h
    exact E_iret d_X11_seedsWhy_27 rfl
  · refine E_iload_n d_X11_seedsWhy_4 rfl ?_
    refine E_iconst d_X11_seedsWhy_5 (c32 rfl) ?_
    refine E_icmp_lt (tgt := 26) d_X11_seedsWhy_6 (by decide) h (fun _ h => ?_) (fun _ h => ?_)
    · refine E_iconst d_X11_seedsWhy_26 (c32 rfl) ?_
      cases h
      exact E_iret d_X11_seedsWhy_27 rfl
    · refine E_iload_n d_X11_seedsWhy_9 rfl ?_
      refine E_bipush d_X11_seedsWhy_10 (c8 rfl) ?_
      refine E_icmp_gt (tgt := 26) d_X11_seedsWhy_12 (by decide) h (fun _ h => ?_) (fun _ h => ?_)
      · refine E_iconst d_X11_seedsWhy_26 (c32 rfl) ?_
        cases h
        exact E_iret d_X11_seedsWhy_27 rfl
      · refine E_iload_n d_X11_seedsWhy_15 rfl ?_
        refine E_sipush d_X11_seedsWhy_16 (c16 rfl) ?_
        refine E_iload_n d_X11_seedsWhy_19 rfl ?_
        refine E_isub d_X11_seedsWhy_20 ?_
        refine E_iconst d_X11_seedsWhy_21 (c32 rfl) ?_
        refine E_iadd d_X11_seedsWhy_22 ?_
        refine E_icmp_le (tgt := 28) d_X11_seedsWhy_23 (by decide) h (fun _ h => ?_) (fun _ h => ?_)
        · refine E_aload_n d_X11_seedsWhy_28 rfl (by decide) ?_
          refine E_get d_X11_seedsWhy_29 okX11 fl_X11_38 ⟨by decide, rfl⟩ h (fun x1 h => ?_)
          refine E_get d_X11_seedsWhy_32 okX5 fl_X11_464 ⟨by decide, rfl⟩ h (fun x2 h => ?_)
          refine E_if_eq (tgt := 42) d_X11_seedsWhy_35 (by decide) h (fun _ h => ?_) (fun _ h => ?_)
          · refine E_bipush d_X11_seedsWhy_42 (c8 rfl) ?_
            cases h
            exact E_iret d_X11_seedsWhy_44 rfl
          · refine E_iconst d_X11_seedsWhy_38 (c32 rfl) ?_
            refine E_goto (tgt := 44) d_X11_seedsWhy_39 (by decide) ?_
            cases h
            exact E_iret d_X11_seedsWhy_44 rfl
        · refine E_iconst d_X11_seedsWhy_26 (c32 rfl) ?_
          cases h
          exact E_iret d_X11_seedsWhy_27 rfl
noncomputable def f_X11_seedsWhy (v0 v1 v2 : Int) (σ : Mem) : Option (Int) := if isO Sh 11 v0 = true then f_X11_seedsWhy_b0 v0 v1 v2 σ else none
theorem L_X11_seedsWhy {o : Int} {v0 v1 v2 : Int} {σ : Mem} (h : f_X11_seedsWhy v0 v1 v2 σ = some o) : (isO Sh 11 v0 = true ∧ Cn mt_X11_seedsWhy 1 [(2, v0), (0, v1), (0, v2)] Sh σ (some (0, o)) Sh σ) := ⟨(ite_ok h).1, Cn_of mk_X11_seedsWhy.1.2.2.1 (Nat.le_of_ble_eq_true rfl) (fun sc => L_X11_seedsWhy_b0 (ite_ok h).2)⟩
theorem d_X11_live_0 : decode mt_X11_live.2.1 0 = .ok (.aload_n 0, 1) := by decide +kernel
theorem d_X11_live_1 : decode mt_X11_live.2.1 1 = .ok (.aload_n 0, 1) := by decide +kernel
theorem d_X11_live_2 : decode mt_X11_live.2.1 2 = .ok (.iload_n 1, 1) := by decide +kernel
theorem d_X11_live_3 : decode mt_X11_live.2.1 3 = .ok (.iconst 1, 1) := by decide +kernel
theorem d_X11_live_4 : decode mt_X11_live.2.1 4 = .ok (.invokevirtual 440, 3) := by decide +kernel
theorem d_X11_live_7 : decode mt_X11_live.2.1 7 = .ok (.invokevirtual 132, 3) := by decide +kernel
theorem d_X11_live_10 : decode mt_X11_live.2.1 10 = .ok (.ifCond .eq 5, 3) := by decide +kernel
theorem d_X11_live_13 : decode mt_X11_live.2.1 13 = .ok (.iconst (-1), 1) := by decide +kernel
theorem d_X11_live_14 : decode mt_X11_live.2.1 14 = .ok (.ireturn, 1) := by decide +kernel
theorem d_X11_live_15 : decode mt_X11_live.2.1 15 = .ok (.aload_n 0, 1) := by decide +kernel
theorem d_X11_live_16 : decode mt_X11_live.2.1 16 = .ok (.getfield 73, 3) := by decide +kernel
theorem d_X11_live_19 : decode mt_X11_live.2.1 19 = .ok (.iload_n 1, 1) := by decide +kernel
theorem d_X11_live_20 : decode mt_X11_live.2.1 20 = .ok (.invokevirtual 443, 3) := by decide +kernel
theorem d_X11_live_23 : decode mt_X11_live.2.1 23 = .ok (.aload_n 0, 1) := by decide +kernel
theorem d_X11_live_24 : decode mt_X11_live.2.1 24 = .ok (.iconst 1, 1) := by decide +kernel
theorem d_X11_live_25 : decode mt_X11_live.2.1 25 = .ok (.putfield 446, 3) := by decide +kernel
theorem d_X11_live_28 : decode mt_X11_live.2.1 28 = .ok (.aload_n 0, 1) := by decide +kernel
theorem d_X11_live_29 : decode mt_X11_live.2.1 29 = .ok (.getfield 73, 3) := by decide +kernel
theorem d_X11_live_32 : decode mt_X11_live.2.1 32 = .ok (.getfield 450, 3) := by decide +kernel
theorem d_X11_live_35 : decode mt_X11_live.2.1 35 = .ok (.ireturn, 1) := by decide +kernel
noncomputable def f_X11_live_b0 (v0 v1 : Int) (σ : Mem) : Option (Int × Mem) :=
  (f_X11_seedsWhy v0 v1 1 σ).bind fun r1 =>
  (f_X11_refused v0 r1 σ).bind fun r3 =>
  if r3.1 = 0 then
    (gf Sh r3.2 11 v0 9).bind fun x5 =>
    (f_X4_run x5 v1 r3.2).bind fun r6 =>
    (pf Sh r6 11 v0 18 1).bind fun σ8 =>
    (gf Sh σ8 11 v0 9).bind fun x9 =>
    (gf Sh σ8 4 x9 4).bind fun x10 =>
    some (x10, σ8)
  else
    some ((-1), r3.2)
theorem L_X11_live_b0 {sc : Nat × (Nat → Int32)} {o : Int × Mem} {v0 v1 : Int} {σ : Mem} (h : f_X11_live_b0 v0 v1 σ = some o) : E sc (Fm Sh (some (0, o.1)) Sh o.2) mt_X11_live 8 Sh Sh 0 [(2, v0), (0, v1)] [] Sh σ := by
  unfold f_X11_live_b0 at h
  refine E_aload_n d_X11_live_0 rfl (by decide) ?_
  refine E_aload_n d_X11_live_1 rfl (by decide) ?_
  refine E_iload_n d_X11_live_2 rfl ?_
  refine E_iconst d_X11_live_3 (c32 rfl) ?_
  refine bd h (fun r1 q2 h => ?_)
  refine E_cV (as := [(0, v1), (0, 1)]) (st := [(2, v0)]) (a := v0) d_X11_live_4 mk_X11_seedsWhy nl_X11_440 (by omega) ⟨rfl, rfl, Nat.le_of_ble_eq_true rfl⟩ okX11 rfl (L_X11_seedsWhy q2) ?_
  refine bd h (fun r3 q4 h => ?_)
  refine E_cV (as := [(0, r1)]) (st := []) (a := v0) d_X11_live_7 mk_X11_refused nl_X11_132 (by omega) ⟨rfl, rfl, Nat.le_of_ble_eq_true rfl⟩ okX11 rfl (L_X11_refused q4) ?_
  refine E_if_eq (tgt := 15) d_X11_live_10 (by decide) h (fun _ h => ?_) (fun _ h => ?_)
  · refine E_aload_n d_X11_live_15 rfl (by decide) ?_
    refine E_get d_X11_live_16 okX11 fl_X11_73 ⟨by decide, rfl⟩ h (fun x5 h => ?_)
    refine E_iload_n d_X11_live_19 rfl ?_
    refine bd h (fun r6 q7 h => ?_)
    refine E_cVv (as := [(0, v1)]) (st := []) (a := x5) d_X11_live_20 mk_X4_run nl_X11_443 (by omega) ⟨rfl, rfl, Nat.le_of_ble_eq_true rfl⟩ okX4 rfl (L_X4_run q7) ?_
    refine E_aload_n d_X11_live_23 rfl (by decide) ?_
    refine E_iconst d_X11_live_24 (c32 rfl) ?_
    refine E_put d_X11_live_25 okX11 fl_X11_446 ⟨by decide, rfl⟩ (Or.inr (Or.inr (Or.inl ⟨rfl, rfl, (Or.inr rfl)⟩))) (Or.inl rfl) h (fun σ8 h => ?_)
    refine E_aload_n d_X11_live_28 rfl (by decide) ?_
    refine E_get d_X11_live_29 okX11 fl_X11_73 ⟨by decide, rfl⟩ h (fun x9 h => ?_)
    refine E_get d_X11_live_32 okX4 fl_X11_450 ⟨by decide, rfl⟩ h (fun x10 h => ?_)
    cases h
    exact E_iret d_X11_live_35 rfl
  · refine E_iconst d_X11_live_13 (c32 rfl) ?_
    cases h
    exact E_iret d_X11_live_14 rfl
noncomputable def f_X11_live (v0 v1 : Int) (σ : Mem) : Option (Int × Mem) := if isO Sh 11 v0 = true then f_X11_live_b0 v0 v1 σ else none
theorem L_X11_live {o : Int × Mem} {v0 v1 : Int} {σ : Mem} (h : f_X11_live v0 v1 σ = some o) : (isO Sh 11 v0 = true ∧ Cn mt_X11_live 8 [(2, v0), (0, v1)] Sh σ (some (0, o.1)) Sh o.2) := ⟨(ite_ok h).1, Cn_of mk_X11_live.1.2.2.1 (Nat.le_of_ble_eq_true rfl) (fun sc => L_X11_live_b0 (ite_ok h).2)⟩
theorem d_X11_lived_0 : decode mt_X11_lived.2.1 0 = .ok (.iconst 0, 1) := by decide +kernel
theorem d_X11_lived_1 : decode mt_X11_lived.2.1 1 = .ok (.istore_n 2, 1) := by decide +kernel
theorem d_X11_lived_2 : decode mt_X11_lived.2.1 2 = .ok (.iload_n 1, 1) := by decide +kernel
theorem d_X11_lived_3 : decode mt_X11_lived.2.1 3 = .ok (.ifCond .lt 8, 3) := by decide +kernel
theorem d_X11_lived_6 : decode mt_X11_lived.2.1 6 = .ok (.iload_n 1, 1) := by decide +kernel
theorem d_X11_lived_7 : decode mt_X11_lived.2.1 7 = .ok (.iconst 4, 1) := by decide +kernel
theorem d_X11_lived_8 : decode mt_X11_lived.2.1 8 = .ok (.if_icmp .le 8, 3) := by decide +kernel
theorem d_X11_lived_11 : decode mt_X11_lived.2.1 11 = .ok (.iconst 5, 1) := by decide +kernel
theorem d_X11_lived_12 : decode mt_X11_lived.2.1 12 = .ok (.istore_n 2, 1) := by decide +kernel
theorem d_X11_lived_13 : decode mt_X11_lived.2.1 13 = .ok (.goto 13, 3) := by decide +kernel
theorem d_X11_lived_16 : decode mt_X11_lived.2.1 16 = .ok (.aload_n 0, 1) := by decide +kernel
theorem d_X11_lived_17 : decode mt_X11_lived.2.1 17 = .ok (.getfield 446, 3) := by decide +kernel
theorem d_X11_lived_20 : decode mt_X11_lived.2.1 20 = .ok (.ifCond .ne 6, 3) := by decide +kernel
theorem d_X11_lived_23 : decode mt_X11_lived.2.1 23 = .ok (.bipush 8, 2) := by decide +kernel
theorem d_X11_lived_25 : decode mt_X11_lived.2.1 25 = .ok (.istore_n 2, 1) := by decide +kernel
theorem d_X11_lived_26 : decode mt_X11_lived.2.1 26 = .ok (.aload_n 0, 1) := by decide +kernel
theorem d_X11_lived_27 : decode mt_X11_lived.2.1 27 = .ok (.iload_n 2, 1) := by decide +kernel
theorem d_X11_lived_28 : decode mt_X11_lived.2.1 28 = .ok (.invokevirtual 132, 3) := by decide +kernel
theorem d_X11_lived_31 : decode mt_X11_lived.2.1 31 = .ok (.ifCond .eq 5, 3) := by decide +kernel
theorem d_X11_lived_34 : decode mt_X11_lived.2.1 34 = .ok (.iconst (-1), 1) := by decide +kernel
theorem d_X11_lived_35 : decode mt_X11_lived.2.1 35 = .ok (.ireturn, 1) := by decide +kernel
theorem d_X11_lived_36 : decode mt_X11_lived.2.1 36 = .ok (.iload_n 1, 1) := by decide +kernel
theorem d_X11_lived_37 : decode mt_X11_lived.2.1 37 = .ok (.tableswitch 63 0 3 #[31, 39, 47, 55], 31) := by decide +kernel
theorem d_X11_lived_68 : decode mt_X11_lived.2.1 68 = .ok (.aload_n 0, 1) := by decide +kernel
theorem d_X11_lived_69 : decode mt_X11_lived.2.1 69 = .ok (.getfield 73, 3) := by decide +kernel
theorem d_X11_lived_72 : decode mt_X11_lived.2.1 72 = .ok (.getfield 453, 3) := by decide +kernel
theorem d_X11_lived_75 : decode mt_X11_lived.2.1 75 = .ok (.ireturn, 1) := by decide +kernel
theorem d_X11_lived_76 : decode mt_X11_lived.2.1 76 = .ok (.aload_n 0, 1) := by decide +kernel
theorem d_X11_lived_77 : decode mt_X11_lived.2.1 77 = .ok (.getfield 73, 3) := by decide +kernel
theorem d_X11_lived_80 : decode mt_X11_lived.2.1 80 = .ok (.getfield 456, 3) := by decide +kernel
theorem d_X11_lived_83 : decode mt_X11_lived.2.1 83 = .ok (.ireturn, 1) := by decide +kernel
theorem d_X11_lived_84 : decode mt_X11_lived.2.1 84 = .ok (.aload_n 0, 1) := by decide +kernel
theorem d_X11_lived_85 : decode mt_X11_lived.2.1 85 = .ok (.getfield 73, 3) := by decide +kernel
theorem d_X11_lived_88 : decode mt_X11_lived.2.1 88 = .ok (.getfield 459, 3) := by decide +kernel
theorem d_X11_lived_91 : decode mt_X11_lived.2.1 91 = .ok (.ireturn, 1) := by decide +kernel
theorem d_X11_lived_92 : decode mt_X11_lived.2.1 92 = .ok (.aload_n 0, 1) := by decide +kernel
theorem d_X11_lived_93 : decode mt_X11_lived.2.1 93 = .ok (.getfield 73, 3) := by decide +kernel
theorem d_X11_lived_96 : decode mt_X11_lived.2.1 96 = .ok (.getfield 460, 3) := by decide +kernel
theorem d_X11_lived_99 : decode mt_X11_lived.2.1 99 = .ok (.ireturn, 1) := by decide +kernel
theorem d_X11_lived_100 : decode mt_X11_lived.2.1 100 = .ok (.aload_n 0, 1) := by decide +kernel
theorem d_X11_lived_101 : decode mt_X11_lived.2.1 101 = .ok (.getfield 73, 3) := by decide +kernel
theorem d_X11_lived_104 : decode mt_X11_lived.2.1 104 = .ok (.getfield 461, 3) := by decide +kernel
theorem d_X11_lived_107 : decode mt_X11_lived.2.1 107 = .ok (.ifCond .eq 7, 3) := by decide +kernel
theorem d_X11_lived_110 : decode mt_X11_lived.2.1 110 = .ok (.iconst 1, 1) := by decide +kernel
theorem d_X11_lived_111 : decode mt_X11_lived.2.1 111 = .ok (.goto 4, 3) := by decide +kernel
theorem d_X11_lived_114 : decode mt_X11_lived.2.1 114 = .ok (.iconst 0, 1) := by decide +kernel
theorem d_X11_lived_115 : decode mt_X11_lived.2.1 115 = .ok (.ireturn, 1) := by decide +kernel
noncomputable def f_X11_lived_b26 (v0 v1 v2 : Int) (σ : Mem) : Option (Int × Mem) :=
  (f_X11_refused v0 v2 σ).bind fun r2 =>
  if r2.1 = 0 then
    if v1 = 0 then
      (gf Sh r2.2 11 v0 9).bind fun x5 =>
      (gf Sh r2.2 4 x5 5).bind fun x6 =>
      some (x6, r2.2)
    else if v1 = 1 then
      (gf Sh r2.2 11 v0 9).bind fun x8 =>
      (gf Sh r2.2 4 x8 6).bind fun x9 =>
      some (x9, r2.2)
    else if v1 = 2 then
      (gf Sh r2.2 11 v0 9).bind fun x11 =>
      (gf Sh r2.2 4 x11 7).bind fun x12 =>
      some (x12, r2.2)
    else if v1 = 3 then
      (gf Sh r2.2 11 v0 9).bind fun x14 =>
      (gf Sh r2.2 4 x14 8).bind fun x15 =>
      some (x15, r2.2)
    else 
      (gf Sh r2.2 11 v0 9).bind fun x16 =>
      (gf Sh r2.2 4 x16 9).bind fun x17 =>
      if x17 = 0 then
        some (0, r2.2)
      else
        some (1, r2.2)
  else
    some ((-1), r2.2)
theorem L_X11_lived_b26 {sc : Nat × (Nat → Int32)} {o : Int × Mem} {v0 v1 v2 : Int} {σ : Mem} (h : f_X11_lived_b26 v0 v1 v2 σ = some o) : E sc (Fm Sh (some (0, o.1)) Sh o.2) mt_X11_lived 2 Sh Sh 26 [(2, v0), (0, v1), (0, v2)] [] Sh σ := by
  unfold f_X11_lived_b26 at h
  refine E_aload_n d_X11_lived_26 rfl (by decide) ?_
  refine E_iload_n d_X11_lived_27 rfl ?_
  refine bd h (fun r2 q3 h => ?_)
  refine E_cV (as := [(0, v2)]) (st := []) (a := v0) d_X11_lived_28 mk_X11_refused nl_X11_132 (by omega) ⟨rfl, rfl, Nat.le_of_ble_eq_true rfl⟩ okX11 rfl (L_X11_refused q3) ?_
  refine E_if_eq (tgt := 36) d_X11_lived_31 (by decide) h (fun _ h => ?_) (fun _ h => ?_)
  · refine E_iload_n d_X11_lived_36 rfl ?_
    refine br_eq h (fun q4 h => ?_) (fun q4 h => ?_)
    · refine E_tabIn (tgt := 68) d_X11_lived_37 q4 ⟨by decide, by decide, rfl, by decide⟩ ?_
      refine E_aload_n d_X11_lived_68 rfl (by decide) ?_
      refine E_get d_X11_lived_69 okX11 fl_X11_73 ⟨by decide, rfl⟩ h (fun x5 h => ?_)
      refine E_get d_X11_lived_72 okX4 fl_X11_453 ⟨by decide, rfl⟩ h (fun x6 h => ?_)
      cases h
      exact E_iret d_X11_lived_75 rfl
    refine br_eq h (fun q7 h => ?_) (fun q7 h => ?_)
    · refine E_tabIn (tgt := 76) d_X11_lived_37 q7 ⟨by decide, by decide, rfl, by decide⟩ ?_
      refine E_aload_n d_X11_lived_76 rfl (by decide) ?_
      refine E_get d_X11_lived_77 okX11 fl_X11_73 ⟨by decide, rfl⟩ h (fun x8 h => ?_)
      refine E_get d_X11_lived_80 okX4 fl_X11_456 ⟨by decide, rfl⟩ h (fun x9 h => ?_)
      cases h
      exact E_iret d_X11_lived_83 rfl
    refine br_eq h (fun q10 h => ?_) (fun q10 h => ?_)
    · refine E_tabIn (tgt := 84) d_X11_lived_37 q10 ⟨by decide, by decide, rfl, by decide⟩ ?_
      refine E_aload_n d_X11_lived_84 rfl (by decide) ?_
      refine E_get d_X11_lived_85 okX11 fl_X11_73 ⟨by decide, rfl⟩ h (fun x11 h => ?_)
      refine E_get d_X11_lived_88 okX4 fl_X11_459 ⟨by decide, rfl⟩ h (fun x12 h => ?_)
      cases h
      exact E_iret d_X11_lived_91 rfl
    refine br_eq h (fun q13 h => ?_) (fun q13 h => ?_)
    · refine E_tabIn (tgt := 92) d_X11_lived_37 q13 ⟨by decide, by decide, rfl, by decide⟩ ?_
      refine E_aload_n d_X11_lived_92 rfl (by decide) ?_
      refine E_get d_X11_lived_93 okX11 fl_X11_73 ⟨by decide, rfl⟩ h (fun x14 h => ?_)
      refine E_get d_X11_lived_96 okX4 fl_X11_460 ⟨by decide, rfl⟩ h (fun x15 h => ?_)
      cases h
      exact E_iret d_X11_lived_99 rfl
    refine E_tabD (tgt := 100) [0, 1, 2, 3] d_X11_lived_37 (by simp only [List.mem_cons, List.not_mem_nil, or_false, not_or]; exact ⟨q4, q7, q10, q13⟩) (by decide) ⟨by decide, by decide⟩ ?_
    refine E_aload_n d_X11_lived_100 rfl (by decide) ?_
    refine E_get d_X11_lived_101 okX11 fl_X11_73 ⟨by decide, rfl⟩ h (fun x16 h => ?_)
    refine E_get d_X11_lived_104 okX4 fl_X11_461 ⟨by decide, rfl⟩ h (fun x17 h => ?_)
    refine E_if_eq (tgt := 114) d_X11_lived_107 (by decide) h (fun _ h => ?_) (fun _ h => ?_)
    · refine E_iconst d_X11_lived_114 (c32 rfl) ?_
      cases h
      exact E_iret d_X11_lived_115 rfl
    · refine E_iconst d_X11_lived_110 (c32 rfl) ?_
      refine E_goto (tgt := 115) d_X11_lived_111 (by decide) ?_
      cases h
      exact E_iret d_X11_lived_115 rfl
  · refine E_iconst d_X11_lived_34 (c32 rfl) ?_
    cases h
    exact E_iret d_X11_lived_35 rfl
noncomputable def f_X11_lived_b11 (v0 v1 : Int) (σ : Mem) : Option (Int × Mem) :=
  f_X11_lived_b26 v0 v1 5 σ
theorem L_X11_lived_b11 {sc : Nat × (Nat → Int32)} {o : Int × Mem} {v0 v1 : Int} {σ : Mem} (h : f_X11_lived_b11 v0 v1 σ = some o) : E sc (Fm Sh (some (0, o.1)) Sh o.2) mt_X11_lived 2 Sh Sh 11 [(2, v0), (0, v1), (9, 0)] [] Sh σ := by
  unfold f_X11_lived_b11 at h
  refine E_iconst d_X11_lived_11 (c32 rfl) ?_
  refine E_istore_n d_X11_lived_12 (ls' := [(2, v0), (0, v1), (0, 5)]) ⟨by decide, rfl⟩ ?_
  refine E_goto (tgt := 26) d_X11_lived_13 (by decide) ?_
  exact (L_X11_lived_b26 h)
noncomputable def f_X11_lived_b0 (v0 v1 : Int) (σ : Mem) : Option (Int × Mem) :=
  if v1 < 0 then
    f_X11_lived_b11 v0 v1 σ
  else
    if v1 ≤ 4 then
      (gf Sh σ 11 v0 18).bind fun x1 =>
      if x1 = 0 then
        f_X11_lived_b26 v0 v1 8 σ
      else
        f_X11_lived_b26 v0 v1 0 σ
    else
      f_X11_lived_b11 v0 v1 σ
theorem L_X11_lived_b0 {sc : Nat × (Nat → Int32)} {o : Int × Mem} {v0 v1 : Int} {σ : Mem} (h : f_X11_lived_b0 v0 v1 σ = some o) : E sc (Fm Sh (some (0, o.1)) Sh o.2) mt_X11_lived 2 Sh Sh 0 [(2, v0), (0, v1), (9, 0)] [] Sh σ := by
  unfold f_X11_lived_b0 at h
  refine E_iconst d_X11_lived_0 (c32 rfl) ?_
  refine E_istore_n d_X11_lived_1 (ls' := [(2, v0), (0, v1), (0, 0)]) ⟨by decide, rfl⟩ ?_
  refine E_iload_n d_X11_lived_2 rfl ?_
  refine E_if_lt (tgt := 11) d_X11_lived_3 (by decide) h (fun _ h => ?_) (fun _ h => ?_)
  · exact E_weak (ls' := [(2, v0), (0, v1), (9, 0)]) ⟨Or.inr rfl, Or.inr rfl, Or.inl rfl, trivial⟩ (L_X11_lived_b11 h)
  · refine E_iload_n d_X11_lived_6 rfl ?_
    refine E_iconst d_X11_lived_7 (c32 rfl) ?_
    refine E_icmp_le (tgt := 16) d_X11_lived_8 (by decide) h (fun _ h => ?_) (fun _ h => ?_)
    · refine E_aload_n d_X11_lived_16 rfl (by decide) ?_
      refine E_get d_X11_lived_17 okX11 fl_X11_446 ⟨by decide, rfl⟩ h (fun x1 h => ?_)
      refine E_if_ne (tgt := 26) d_X11_lived_20 (by decide) h (fun _ h => ?_) (fun _ h => ?_)
      · refine E_bipush d_X11_lived_23 (c8 rfl) ?_
        refine E_istore_n d_X11_lived_25 (ls' := [(2, v0), (0, v1), (0, 8)]) ⟨by decide, rfl⟩ ?_
        exact (L_X11_lived_b26 h)
      · exact (L_X11_lived_b26 h)
    · exact E_weak (ls' := [(2, v0), (0, v1), (9, 0)]) ⟨Or.inr rfl, Or.inr rfl, Or.inl rfl, trivial⟩ (L_X11_lived_b11 h)
noncomputable def f_X11_lived (v0 v1 : Int) (σ : Mem) : Option (Int × Mem) := if isO Sh 11 v0 = true then f_X11_lived_b0 v0 v1 σ else none
theorem L_X11_lived {o : Int × Mem} {v0 v1 : Int} {σ : Mem} (h : f_X11_lived v0 v1 σ = some o) : (isO Sh 11 v0 = true ∧ Cn mt_X11_lived 2 [(2, v0), (0, v1)] Sh σ (some (0, o.1)) Sh o.2) := ⟨(ite_ok h).1, Cn_of mk_X11_lived.1.2.2.1 (Nat.le_of_ble_eq_true rfl) (fun sc => L_X11_lived_b0 (ite_ok h).2)⟩
theorem d_X11_mean_0 : decode mt_X11_mean.2.1 0 = .ok (.aload_n 0, 1) := by decide +kernel
theorem d_X11_mean_1 : decode mt_X11_mean.2.1 1 = .ok (.aload_n 0, 1) := by decide +kernel
theorem d_X11_mean_2 : decode mt_X11_mean.2.1 2 = .ok (.iload_n 1, 1) := by decide +kernel
theorem d_X11_mean_3 : decode mt_X11_mean.2.1 3 = .ok (.iload_n 2, 1) := by decide +kernel
theorem d_X11_mean_4 : decode mt_X11_mean.2.1 4 = .ok (.invokevirtual 440, 3) := by decide +kernel
theorem d_X11_mean_7 : decode mt_X11_mean.2.1 7 = .ok (.invokevirtual 132, 3) := by decide +kernel
theorem d_X11_mean_10 : decode mt_X11_mean.2.1 10 = .ok (.ifCond .eq 5, 3) := by decide +kernel
theorem d_X11_mean_13 : decode mt_X11_mean.2.1 13 = .ok (.iconst 0, 1) := by decide +kernel
theorem d_X11_mean_14 : decode mt_X11_mean.2.1 14 = .ok (.ireturn, 1) := by decide +kernel
theorem d_X11_mean_15 : decode mt_X11_mean.2.1 15 = .ok (.iconst 0, 1) := by decide +kernel
theorem d_X11_mean_16 : decode mt_X11_mean.2.1 16 = .ok (.istore_n 3, 1) := by decide +kernel
theorem d_X11_mean_17 : decode mt_X11_mean.2.1 17 = .ok (.iconst 0, 1) := by decide +kernel
theorem d_X11_mean_18 : decode mt_X11_mean.2.1 18 = .ok (.istore 4, 2) := by decide +kernel
theorem d_X11_mean_20 : decode mt_X11_mean.2.1 20 = .ok (.iload 4, 2) := by decide +kernel
theorem d_X11_mean_22 : decode mt_X11_mean.2.1 22 = .ok (.iload_n 2, 1) := by decide +kernel
theorem d_X11_mean_23 : decode mt_X11_mean.2.1 23 = .ok (.if_icmp .ge 41, 3) := by decide +kernel
theorem d_X11_mean_26 : decode mt_X11_mean.2.1 26 = .ok (.aload_n 0, 1) := by decide +kernel
theorem d_X11_mean_27 : decode mt_X11_mean.2.1 27 = .ok (.getfield 77, 3) := by decide +kernel
theorem d_X11_mean_30 : decode mt_X11_mean.2.1 30 = .ok (.aload_n 0, 1) := by decide +kernel
theorem d_X11_mean_31 : decode mt_X11_mean.2.1 31 = .ok (.getfield 31, 3) := by decide +kernel
theorem d_X11_mean_34 : decode mt_X11_mean.2.1 34 = .ok (.invokevirtual 190, 3) := by decide +kernel
theorem d_X11_mean_37 : decode mt_X11_mean.2.1 37 = .ok (.aload_n 0, 1) := by decide +kernel
theorem d_X11_mean_38 : decode mt_X11_mean.2.1 38 = .ok (.getfield 80, 3) := by decide +kernel
theorem d_X11_mean_41 : decode mt_X11_mean.2.1 41 = .ok (.iload_n 1, 1) := by decide +kernel
theorem d_X11_mean_42 : decode mt_X11_mean.2.1 42 = .ok (.iload 4, 2) := by decide +kernel
theorem d_X11_mean_44 : decode mt_X11_mean.2.1 44 = .ok (.iadd, 1) := by decide +kernel
theorem d_X11_mean_45 : decode mt_X11_mean.2.1 45 = .ok (.invokevirtual 443, 3) := by decide +kernel
theorem d_X11_mean_48 : decode mt_X11_mean.2.1 48 = .ok (.iload_n 3, 1) := by decide +kernel
theorem d_X11_mean_49 : decode mt_X11_mean.2.1 49 = .ok (.aload_n 0, 1) := by decide +kernel
theorem d_X11_mean_50 : decode mt_X11_mean.2.1 50 = .ok (.getfield 77, 3) := by decide +kernel
theorem d_X11_mean_53 : decode mt_X11_mean.2.1 53 = .ok (.invokevirtual 214, 3) := by decide +kernel
theorem d_X11_mean_56 : decode mt_X11_mean.2.1 56 = .ok (.iadd, 1) := by decide +kernel
theorem d_X11_mean_57 : decode mt_X11_mean.2.1 57 = .ok (.istore_n 3, 1) := by decide +kernel
theorem d_X11_mean_58 : decode mt_X11_mean.2.1 58 = .ok (.iinc 4 1, 3) := by decide +kernel
theorem d_X11_mean_61 : decode mt_X11_mean.2.1 61 = .ok (.goto (-41), 3) := by decide +kernel
theorem d_X11_mean_64 : decode mt_X11_mean.2.1 64 = .ok (.aload_n 0, 1) := by decide +kernel
theorem d_X11_mean_65 : decode mt_X11_mean.2.1 65 = .ok (.getfield 109, 3) := by decide +kernel
theorem d_X11_mean_68 : decode mt_X11_mean.2.1 68 = .ok (.iload_n 3, 1) := by decide +kernel
theorem d_X11_mean_69 : decode mt_X11_mean.2.1 69 = .ok (.i2l, 1) := by decide +kernel
theorem d_X11_mean_70 : decode mt_X11_mean.2.1 70 = .ok (.iload_n 2, 1) := by decide +kernel
theorem d_X11_mean_71 : decode mt_X11_mean.2.1 71 = .ok (.i2l, 1) := by decide +kernel
theorem d_X11_mean_72 : decode mt_X11_mean.2.1 72 = .ok (.invokevirtual 433, 3) := by decide +kernel
theorem d_X11_mean_75 : decode mt_X11_mean.2.1 75 = .ok (.iconst 1, 1) := by decide +kernel
theorem d_X11_mean_76 : decode mt_X11_mean.2.1 76 = .ok (.ireturn, 1) := by decide +kernel
noncomputable def f_X11_mean_b20 (k20 : (Int → Int → Int → Int → Int → Mem → Option (Int × Mem))) (v0 v1 v2 v3 v4 : Int) (σ : Mem) : Option (Int × Mem) :=
  if v2 ≤ v4 then
    (gf Sh σ 11 v0 15).bind fun x5 =>
    (f_X2_tell x5 v3 v2 σ).bind fun r6 =>
    some (1, r6)
  else
    (gf Sh σ 11 v0 10).bind fun x8 =>
    (gf Sh σ 11 v0 3).bind fun x9 =>
    (f_X9_copyFrom x8 x9 σ).bind fun r10 =>
    (gf Sh r10 11 v0 11).bind fun x12 =>
    (f_X4_run x12 (w32 (v1 + v4)) r10).bind fun r13 =>
    (gf Sh r13 11 v0 10).bind fun x15 =>
    (f_X9_stoneCount x15 r13).bind fun r16 =>
    k20 v0 v1 v2 (w32 (v3 + r16)) (w32 (v4 + 1)) r13
theorem L_X11_mean_b20 {sc : Nat × (Nat → Int32)} {o : Int × Mem} {k20 : (Int → Int → Int → Int → Int → Mem → Option (Int × Mem))} (hk20 : ∀ {v0 v1 v2 v3 v4 : Int} {σ : Mem}, k20 v0 v1 v2 v3 v4 σ = some o → E sc (Fm Sh (some (0, o.1)) Sh o.2) mt_X11_mean 8 Sh Sh 20 [(2, v0), (0, v1), (0, v2), (0, v3), (0, v4)] [] Sh σ) {v0 v1 v2 v3 v4 : Int} {σ : Mem} (h : f_X11_mean_b20 k20 v0 v1 v2 v3 v4 σ = some o) : E sc (Fm Sh (some (0, o.1)) Sh o.2) mt_X11_mean 8 Sh Sh 20 [(2, v0), (0, v1), (0, v2), (0, v3), (0, v4)] [] Sh σ := by
  unfold f_X11_mean_b20 at h
  refine E_iload d_X11_mean_20 rfl ?_
  refine E_iload_n d_X11_mean_22 rfl ?_
  refine E_icmp_ge (tgt := 64) d_X11_mean_23 (by decide) h (fun _ h => ?_) (fun _ h => ?_)
  · refine E_aload_n d_X11_mean_64 rfl (by decide) ?_
    refine E_get d_X11_mean_65 okX11 fl_X11_109 ⟨by decide, rfl⟩ h (fun x5 h => ?_)
    refine E_iload_n d_X11_mean_68 rfl ?_
    refine E_i2l d_X11_mean_69 ?_
    refine E_iload_n d_X11_mean_70 rfl ?_
    refine E_i2l d_X11_mean_71 ?_
    refine bd h (fun r6 q7 h => ?_)
    refine E_cVv (as := [(1, v3), (1, v2)]) (st := []) (a := x5) d_X11_mean_72 mk_X2_tell nl_X11_433 (by omega) ⟨rfl, rfl, Nat.le_of_ble_eq_true rfl⟩ okX2 rfl (L_X2_tell q7) ?_
    refine E_iconst d_X11_mean_75 (c32 rfl) ?_
    cases h
    exact E_zret d_X11_mean_76 rfl (Or.inr rfl)
  · refine E_aload_n d_X11_mean_26 rfl (by decide) ?_
    refine E_get d_X11_mean_27 okX11 fl_X11_77 ⟨by decide, rfl⟩ h (fun x8 h => ?_)
    refine E_aload_n d_X11_mean_30 rfl (by decide) ?_
    refine E_get d_X11_mean_31 okX11 fl_X11_31 ⟨by decide, rfl⟩ h (fun x9 h => ?_)
    refine bd h (fun r10 q11 h => ?_)
    refine E_cVv (as := [(2, x9)]) (st := []) (a := x8) d_X11_mean_34 mk_X9_copyFrom nl_X11_190 (by omega) ⟨rfl, rfl, Nat.le_of_ble_eq_true rfl⟩ okX9 rfl (L_X9_copyFrom q11) ?_
    refine E_aload_n d_X11_mean_37 rfl (by decide) ?_
    refine E_get d_X11_mean_38 okX11 fl_X11_80 ⟨by decide, rfl⟩ h (fun x12 h => ?_)
    refine E_iload_n d_X11_mean_41 rfl ?_
    refine E_iload d_X11_mean_42 rfl ?_
    refine E_iadd d_X11_mean_44 ?_
    refine bd h (fun r13 q14 h => ?_)
    refine E_cVv (as := [(0, w32 (v1 + v4))]) (st := []) (a := x12) d_X11_mean_45 mk_X4_run nl_X11_443 (by omega) ⟨rfl, rfl, Nat.le_of_ble_eq_true rfl⟩ okX4 rfl (L_X4_run q14) ?_
    refine E_iload_n d_X11_mean_48 rfl ?_
    refine E_aload_n d_X11_mean_49 rfl (by decide) ?_
    refine E_get d_X11_mean_50 okX11 fl_X11_77 ⟨by decide, rfl⟩ h (fun x15 h => ?_)
    refine bd h (fun r16 q17 h => ?_)
    refine E_cV (as := []) (st := [(0, v3)]) (a := x15) d_X11_mean_53 mk_X9_stoneCount nl_X11_214 (by omega) ⟨rfl, rfl, Nat.le_of_ble_eq_true rfl⟩ okX9 rfl (L_X9_stoneCount q17) ?_
    refine E_iadd d_X11_mean_56 ?_
    refine E_istore_n d_X11_mean_57 (ls' := [(2, v0), (0, v1), (0, v2), (0, w32 (v3 + r16)), (0, v4)]) ⟨by decide, rfl⟩ ?_
    refine E_iinc d_X11_mean_58 (ls' := [(2, v0), (0, v1), (0, v2), (0, w32 (v3 + r16)), (0, w32 (v4 + 1))]) rfl ⟨by decide, rfl⟩ ?_
    refine E_goto (tgt := 20) d_X11_mean_61 (by decide) ?_
    exact (hk20 h)
noncomputable def f_X11_mean_h20 (n : Nat) : Int → Int → Int → Int → Int → Mem → Option (Int × Mem) := Nat.rec (motive := fun _ => Int → Int → Int → Int → Int → Mem → Option (Int × Mem)) (fun _ _ _ _ _ _ => none) (fun _ ih => f_X11_mean_b20 (ih)) n
theorem L_X11_mean_h20 {sc : Nat × (Nat → Int32)} {o : Int × Mem} : ∀ (n : Nat) {v0 v1 v2 v3 v4 : Int} {σ : Mem}, f_X11_mean_h20 n v0 v1 v2 v3 v4 σ = some o → E sc (Fm Sh (some (0, o.1)) Sh o.2) mt_X11_mean 8 Sh Sh 20 [(2, v0), (0, v1), (0, v2), (0, v3), (0, v4)] [] Sh σ := by
  intro n
  induction n with
  | zero => intro v0 v1 v2 v3 v4 σ h; cases h
  | succ n ih => intro v0 v1 v2 v3 v4 σ h; exact L_X11_mean_b20 (@ih) h
noncomputable def f_X11_mean_b0 (v0 v1 v2 : Int) (σ : Mem) : Option (Int × Mem) :=
  (f_X11_seedsWhy v0 v1 v2 σ).bind fun r1 =>
  (f_X11_refused v0 r1 σ).bind fun r3 =>
  if r3.1 = 0 then
    f_X11_mean_h20 FU v0 v1 v2 0 0 r3.2
  else
    some (0, r3.2)
theorem L_X11_mean_b0 {sc : Nat × (Nat → Int32)} {o : Int × Mem} {v0 v1 v2 : Int} {σ : Mem} (h : f_X11_mean_b0 v0 v1 v2 σ = some o) : E sc (Fm Sh (some (0, o.1)) Sh o.2) mt_X11_mean 8 Sh Sh 0 [(2, v0), (0, v1), (0, v2), (9, 0), (9, 0)] [] Sh σ := by
  unfold f_X11_mean_b0 at h
  refine E_aload_n d_X11_mean_0 rfl (by decide) ?_
  refine E_aload_n d_X11_mean_1 rfl (by decide) ?_
  refine E_iload_n d_X11_mean_2 rfl ?_
  refine E_iload_n d_X11_mean_3 rfl ?_
  refine bd h (fun r1 q2 h => ?_)
  refine E_cV (as := [(0, v1), (0, v2)]) (st := [(2, v0)]) (a := v0) d_X11_mean_4 mk_X11_seedsWhy nl_X11_440 (by omega) ⟨rfl, rfl, Nat.le_of_ble_eq_true rfl⟩ okX11 rfl (L_X11_seedsWhy q2) ?_
  refine bd h (fun r3 q4 h => ?_)
  refine E_cV (as := [(0, r1)]) (st := []) (a := v0) d_X11_mean_7 mk_X11_refused nl_X11_132 (by omega) ⟨rfl, rfl, Nat.le_of_ble_eq_true rfl⟩ okX11 rfl (L_X11_refused q4) ?_
  refine E_if_eq (tgt := 15) d_X11_mean_10 (by decide) h (fun _ h => ?_) (fun _ h => ?_)
  · refine E_iconst d_X11_mean_15 (c32 rfl) ?_
    refine E_istore_n d_X11_mean_16 (ls' := [(2, v0), (0, v1), (0, v2), (0, 0), (9, 0)]) ⟨by decide, rfl⟩ ?_
    refine E_iconst d_X11_mean_17 (c32 rfl) ?_
    refine E_istore d_X11_mean_18 (ls' := [(2, v0), (0, v1), (0, v2), (0, 0), (0, 0)]) ⟨by decide, rfl⟩ ?_
    exact (L_X11_mean_h20 FU h)
  · refine E_iconst d_X11_mean_13 (c32 rfl) ?_
    cases h
    exact E_zret d_X11_mean_14 rfl (Or.inl rfl)
noncomputable def f_X11_mean (v0 v1 v2 : Int) (σ : Mem) : Option (Int × Mem) := if isO Sh 11 v0 = true then f_X11_mean_b0 v0 v1 v2 σ else none
theorem L_X11_mean {o : Int × Mem} {v0 v1 v2 : Int} {σ : Mem} (h : f_X11_mean v0 v1 v2 σ = some o) : (isO Sh 11 v0 = true ∧ Cn mt_X11_mean 8 [(2, v0), (0, v1), (0, v2)] Sh σ (some (0, o.1)) Sh o.2) := ⟨(ite_ok h).1, Cn_of mk_X11_mean.1.2.2.1 (Nat.le_of_ble_eq_true rfl) (fun sc => L_X11_mean_b0 (ite_ok h).2)⟩
theorem d_X11_mark_0 : decode mt_X11_mark.2.1 0 = .ok (.aload_n 0, 1) := by decide +kernel
theorem d_X11_mark_1 : decode mt_X11_mark.2.1 1 = .ok (.aload_n 0, 1) := by decide +kernel
theorem d_X11_mark_2 : decode mt_X11_mark.2.1 2 = .ok (.getfield 467, 3) := by decide +kernel
theorem d_X11_mark_5 : decode mt_X11_mark.2.1 5 = .ok (.iconst 3, 1) := by decide +kernel
theorem d_X11_mark_6 : decode mt_X11_mark.2.1 6 = .ok (.if_icmp .lt 8, 3) := by decide +kernel
theorem d_X11_mark_9 : decode mt_X11_mark.2.1 9 = .ok (.bipush 7, 2) := by decide +kernel
theorem d_X11_mark_11 : decode mt_X11_mark.2.1 11 = .ok (.goto 4, 3) := by decide +kernel
theorem d_X11_mark_14 : decode mt_X11_mark.2.1 14 = .ok (.iconst 0, 1) := by decide +kernel
theorem d_X11_mark_15 : decode mt_X11_mark.2.1 15 = .ok (.invokevirtual 132, 3) := by decide +kernel
theorem d_X11_mark_18 : decode mt_X11_mark.2.1 18 = .ok (.ifCond .eq 5, 3) := by decide +kernel
theorem d_X11_mark_21 : decode mt_X11_mark.2.1 21 = .ok (.iconst (-1), 1) := by decide +kernel
theorem d_X11_mark_22 : decode mt_X11_mark.2.1 22 = .ok (.ireturn, 1) := by decide +kernel
theorem d_X11_mark_23 : decode mt_X11_mark.2.1 23 = .ok (.aload_n 0, 1) := by decide +kernel
theorem d_X11_mark_24 : decode mt_X11_mark.2.1 24 = .ok (.getfield 60, 3) := by decide +kernel
theorem d_X11_mark_27 : decode mt_X11_mark.2.1 27 = .ok (.aload_n 0, 1) := by decide +kernel
theorem d_X11_mark_28 : decode mt_X11_mark.2.1 28 = .ok (.getfield 467, 3) := by decide +kernel
theorem d_X11_mark_31 : decode mt_X11_mark.2.1 31 = .ok (.aaload, 1) := by decide +kernel
theorem d_X11_mark_32 : decode mt_X11_mark.2.1 32 = .ok (.aload_n 0, 1) := by decide +kernel
theorem d_X11_mark_33 : decode mt_X11_mark.2.1 33 = .ok (.getfield 31, 3) := by decide +kernel
theorem d_X11_mark_36 : decode mt_X11_mark.2.1 36 = .ok (.invokevirtual 190, 3) := by decide +kernel
theorem d_X11_mark_39 : decode mt_X11_mark.2.1 39 = .ok (.aload_n 0, 1) := by decide +kernel
theorem d_X11_mark_40 : decode mt_X11_mark.2.1 40 = .ok (.getfield 64, 3) := by decide +kernel
theorem d_X11_mark_43 : decode mt_X11_mark.2.1 43 = .ok (.aload_n 0, 1) := by decide +kernel
theorem d_X11_mark_44 : decode mt_X11_mark.2.1 44 = .ok (.getfield 467, 3) := by decide +kernel
theorem d_X11_mark_47 : decode mt_X11_mark.2.1 47 = .ok (.aaload, 1) := by decide +kernel
theorem d_X11_mark_48 : decode mt_X11_mark.2.1 48 = .ok (.aload_n 0, 1) := by decide +kernel
theorem d_X11_mark_49 : decode mt_X11_mark.2.1 49 = .ok (.getfield 38, 3) := by decide +kernel
theorem d_X11_mark_52 : decode mt_X11_mark.2.1 52 = .ok (.invokevirtual 202, 3) := by decide +kernel
theorem d_X11_mark_55 : decode mt_X11_mark.2.1 55 = .ok (.aload_n 0, 1) := by decide +kernel
theorem d_X11_mark_56 : decode mt_X11_mark.2.1 56 = .ok (.dup, 1) := by decide +kernel
theorem d_X11_mark_57 : decode mt_X11_mark.2.1 57 = .ok (.getfield 467, 3) := by decide +kernel
theorem d_X11_mark_60 : decode mt_X11_mark.2.1 60 = .ok (.iconst 1, 1) := by decide +kernel
theorem d_X11_mark_61 : decode mt_X11_mark.2.1 61 = .ok (.iadd, 1) := by decide +kernel
theorem d_X11_mark_62 : decode mt_X11_mark.2.1 62 = .ok (.putfield 467, 3) := by decide +kernel
theorem d_X11_mark_65 : decode mt_X11_mark.2.1 65 = .ok (.aload_n 0, 1) := by decide +kernel
theorem d_X11_mark_66 : decode mt_X11_mark.2.1 66 = .ok (.getfield 467, 3) := by decide +kernel
theorem d_X11_mark_69 : decode mt_X11_mark.2.1 69 = .ok (.ireturn, 1) := by decide +kernel
noncomputable def f_X11_mark_b15 (v0 s0 s1 : Int) (σ : Mem) : Option (Int × Mem) :=
  (f_X11_refused s1 s0 σ).bind fun r2 =>
  if r2.1 = 0 then
    (gf Sh r2.2 11 v0 7).bind fun x4 =>
    (gf Sh r2.2 11 v0 17).bind fun x5 =>
    (al Sh r2.2 39 x4 x5).bind fun x6 =>
    (gf Sh r2.2 11 v0 3).bind fun x7 =>
    (f_X9_copyFrom x6 x7 r2.2).bind fun r8 =>
    (gf Sh r8 11 v0 8).bind fun x10 =>
    (gf Sh r8 11 v0 17).bind fun x11 =>
    (al Sh r8 35 x10 x11).bind fun x12 =>
    (gf Sh r8 11 v0 4).bind fun x13 =>
    (f_X5_copyFrom x12 x13 r8).bind fun r14 =>
    (gf Sh r14 11 v0 17).bind fun x16 =>
    (pf Sh r14 11 v0 17 (w32 (x16 + 1))).bind fun σ17 =>
    (gf Sh σ17 11 v0 17).bind fun x18 =>
    some (x18, σ17)
  else
    some ((-1), r2.2)
theorem L_X11_mark_b15 {sc : Nat × (Nat → Int32)} {o : Int × Mem} {v0 s0 s1 : Int} {σ : Mem} (h : f_X11_mark_b15 v0 s0 s1 σ = some o) : E sc (Fm Sh (some (0, o.1)) Sh o.2) mt_X11_mark 2 Sh Sh 15 [(2, v0)] [(0, s0), (2, s1)] Sh σ := by
  unfold f_X11_mark_b15 at h
  refine bd h (fun r2 q3 h => ?_)
  refine E_cV (as := [(0, s0)]) (st := []) (a := s1) d_X11_mark_15 mk_X11_refused nl_X11_132 (by omega) ⟨rfl, rfl, Nat.le_of_ble_eq_true rfl⟩ okX11 rfl (L_X11_refused q3) ?_
  refine E_if_eq (tgt := 23) d_X11_mark_18 (by decide) h (fun _ h => ?_) (fun _ h => ?_)
  · refine E_aload_n d_X11_mark_23 rfl (by decide) ?_
    refine E_get d_X11_mark_24 okX11 fl_X11_60 ⟨by decide, rfl⟩ h (fun x4 h => ?_)
    refine E_aload_n d_X11_mark_27 rfl (by decide) ?_
    refine E_get d_X11_mark_28 okX11 fl_X11_467 ⟨by decide, rfl⟩ h (fun x5 h => ?_)
    refine E_aaload d_X11_mark_31 (Or.inr (Or.inr ⟨rfl, rfl, rfl⟩)) h (fun x6 h => ?_)
    refine E_aload_n d_X11_mark_32 rfl (by decide) ?_
    refine E_get d_X11_mark_33 okX11 fl_X11_31 ⟨by decide, rfl⟩ h (fun x7 h => ?_)
    refine bd h (fun r8 q9 h => ?_)
    refine E_cVv (as := [(2, x7)]) (st := []) (a := x6) d_X11_mark_36 mk_X9_copyFrom nl_X11_190 (by omega) ⟨rfl, rfl, Nat.le_of_ble_eq_true rfl⟩ okX9 rfl (L_X9_copyFrom q9) ?_
    refine E_aload_n d_X11_mark_39 rfl (by decide) ?_
    refine E_get d_X11_mark_40 okX11 fl_X11_64 ⟨by decide, rfl⟩ h (fun x10 h => ?_)
    refine E_aload_n d_X11_mark_43 rfl (by decide) ?_
    refine E_get d_X11_mark_44 okX11 fl_X11_467 ⟨by decide, rfl⟩ h (fun x11 h => ?_)
    refine E_aaload d_X11_mark_47 (Or.inl ⟨rfl, rfl, rfl⟩) h (fun x12 h => ?_)
    refine E_aload_n d_X11_mark_48 rfl (by decide) ?_
    refine E_get d_X11_mark_49 okX11 fl_X11_38 ⟨by decide, rfl⟩ h (fun x13 h => ?_)
    refine bd h (fun r14 q15 h => ?_)
    refine E_cVv (as := [(2, x13)]) (st := []) (a := x12) d_X11_mark_52 mk_X5_copyFrom nl_X11_202 (by omega) ⟨rfl, rfl, Nat.le_of_ble_eq_true rfl⟩ okX5 rfl (L_X5_copyFrom q15) ?_
    refine E_aload_n d_X11_mark_55 rfl (by decide) ?_
    refine E_dupT d_X11_mark_56 (by decide) ?_
    refine E_get d_X11_mark_57 okX11 fl_X11_467 ⟨by decide, rfl⟩ h (fun x16 h => ?_)
    refine E_iconst d_X11_mark_60 (c32 rfl) ?_
    refine E_iadd d_X11_mark_61 ?_
    refine E_put d_X11_mark_62 okX11 fl_X11_467 ⟨by decide, rfl⟩ (Or.inl ⟨rfl, rfl⟩) (Or.inl rfl) h (fun σ17 h => ?_)
    refine E_aload_n d_X11_mark_65 rfl (by decide) ?_
    refine E_get d_X11_mark_66 okX11 fl_X11_467 ⟨by decide, rfl⟩ h (fun x18 h => ?_)
    cases h
    exact E_iret d_X11_mark_69 rfl
  · refine E_iconst d_X11_mark_21 (c32 rfl) ?_
    cases h
    exact E_iret d_X11_mark_22 rfl
noncomputable def f_X11_mark_b0 (v0 : Int) (σ : Mem) : Option (Int × Mem) :=
  (gf Sh σ 11 v0 17).bind fun x1 =>
  if x1 < 3 then
    f_X11_mark_b15 v0 0 v0 σ
  else
    f_X11_mark_b15 v0 7 v0 σ
theorem L_X11_mark_b0 {sc : Nat × (Nat → Int32)} {o : Int × Mem} {v0 : Int} {σ : Mem} (h : f_X11_mark_b0 v0 σ = some o) : E sc (Fm Sh (some (0, o.1)) Sh o.2) mt_X11_mark 2 Sh Sh 0 [(2, v0)] [] Sh σ := by
  unfold f_X11_mark_b0 at h
  refine E_aload_n d_X11_mark_0 rfl (by decide) ?_
  refine E_aload_n d_X11_mark_1 rfl (by decide) ?_
  refine E_get d_X11_mark_2 okX11 fl_X11_467 ⟨by decide, rfl⟩ h (fun x1 h => ?_)
  refine E_iconst d_X11_mark_5 (c32 rfl) ?_
  refine E_icmp_lt (tgt := 14) d_X11_mark_6 (by decide) h (fun _ h => ?_) (fun _ h => ?_)
  · refine E_iconst d_X11_mark_14 (c32 rfl) ?_
    exact (L_X11_mark_b15 h)
  · refine E_bipush d_X11_mark_9 (c8 rfl) ?_
    refine E_goto (tgt := 15) d_X11_mark_11 (by decide) ?_
    exact (L_X11_mark_b15 h)
noncomputable def f_X11_mark (v0 : Int) (σ : Mem) : Option (Int × Mem) := if isO Sh 11 v0 = true then f_X11_mark_b0 v0 σ else none
theorem L_X11_mark {o : Int × Mem} {v0 : Int} {σ : Mem} (h : f_X11_mark v0 σ = some o) : (isO Sh 11 v0 = true ∧ Cn mt_X11_mark 2 [(2, v0)] Sh σ (some (0, o.1)) Sh o.2) := ⟨(ite_ok h).1, Cn_of mk_X11_mark.1.2.2.1 (Nat.le_of_ble_eq_true rfl) (fun sc => L_X11_mark_b0 (ite_ok h).2)⟩
theorem d_X11_back_0 : decode mt_X11_back.2.1 0 = .ok (.aload_n 0, 1) := by decide +kernel
theorem d_X11_back_1 : decode mt_X11_back.2.1 1 = .ok (.aload_n 0, 1) := by decide +kernel
theorem d_X11_back_2 : decode mt_X11_back.2.1 2 = .ok (.getfield 467, 3) := by decide +kernel
theorem d_X11_back_5 : decode mt_X11_back.2.1 5 = .ok (.ifCond .gt 8, 3) := by decide +kernel
theorem d_X11_back_8 : decode mt_X11_back.2.1 8 = .ok (.bipush 8, 2) := by decide +kernel
theorem d_X11_back_10 : decode mt_X11_back.2.1 10 = .ok (.goto 4, 3) := by decide +kernel
theorem d_X11_back_13 : decode mt_X11_back.2.1 13 = .ok (.iconst 0, 1) := by decide +kernel
theorem d_X11_back_14 : decode mt_X11_back.2.1 14 = .ok (.invokevirtual 132, 3) := by decide +kernel
theorem d_X11_back_17 : decode mt_X11_back.2.1 17 = .ok (.ifCond .eq 5, 3) := by decide +kernel
theorem d_X11_back_20 : decode mt_X11_back.2.1 20 = .ok (.iconst (-1), 1) := by decide +kernel
theorem d_X11_back_21 : decode mt_X11_back.2.1 21 = .ok (.ireturn, 1) := by decide +kernel
theorem d_X11_back_22 : decode mt_X11_back.2.1 22 = .ok (.aload_n 0, 1) := by decide +kernel
theorem d_X11_back_23 : decode mt_X11_back.2.1 23 = .ok (.dup, 1) := by decide +kernel
theorem d_X11_back_24 : decode mt_X11_back.2.1 24 = .ok (.getfield 467, 3) := by decide +kernel
theorem d_X11_back_27 : decode mt_X11_back.2.1 27 = .ok (.iconst 1, 1) := by decide +kernel
theorem d_X11_back_28 : decode mt_X11_back.2.1 28 = .ok (.isub, 1) := by decide +kernel
theorem d_X11_back_29 : decode mt_X11_back.2.1 29 = .ok (.putfield 467, 3) := by decide +kernel
theorem d_X11_back_32 : decode mt_X11_back.2.1 32 = .ok (.aload_n 0, 1) := by decide +kernel
theorem d_X11_back_33 : decode mt_X11_back.2.1 33 = .ok (.getfield 31, 3) := by decide +kernel
theorem d_X11_back_36 : decode mt_X11_back.2.1 36 = .ok (.aload_n 0, 1) := by decide +kernel
theorem d_X11_back_37 : decode mt_X11_back.2.1 37 = .ok (.getfield 60, 3) := by decide +kernel
theorem d_X11_back_40 : decode mt_X11_back.2.1 40 = .ok (.aload_n 0, 1) := by decide +kernel
theorem d_X11_back_41 : decode mt_X11_back.2.1 41 = .ok (.getfield 467, 3) := by decide +kernel
theorem d_X11_back_44 : decode mt_X11_back.2.1 44 = .ok (.aaload, 1) := by decide +kernel
theorem d_X11_back_45 : decode mt_X11_back.2.1 45 = .ok (.invokevirtual 190, 3) := by decide +kernel
theorem d_X11_back_48 : decode mt_X11_back.2.1 48 = .ok (.aload_n 0, 1) := by decide +kernel
theorem d_X11_back_49 : decode mt_X11_back.2.1 49 = .ok (.getfield 38, 3) := by decide +kernel
theorem d_X11_back_52 : decode mt_X11_back.2.1 52 = .ok (.aload_n 0, 1) := by decide +kernel
theorem d_X11_back_53 : decode mt_X11_back.2.1 53 = .ok (.getfield 64, 3) := by decide +kernel
theorem d_X11_back_56 : decode mt_X11_back.2.1 56 = .ok (.aload_n 0, 1) := by decide +kernel
theorem d_X11_back_57 : decode mt_X11_back.2.1 57 = .ok (.getfield 467, 3) := by decide +kernel
theorem d_X11_back_60 : decode mt_X11_back.2.1 60 = .ok (.aaload, 1) := by decide +kernel
theorem d_X11_back_61 : decode mt_X11_back.2.1 61 = .ok (.invokevirtual 202, 3) := by decide +kernel
theorem d_X11_back_64 : decode mt_X11_back.2.1 64 = .ok (.aload_n 0, 1) := by decide +kernel
theorem d_X11_back_65 : decode mt_X11_back.2.1 65 = .ok (.getfield 467, 3) := by decide +kernel
theorem d_X11_back_68 : decode mt_X11_back.2.1 68 = .ok (.ireturn, 1) := by decide +kernel
noncomputable def f_X11_back_b14 (v0 s0 s1 : Int) (σ : Mem) : Option (Int × Mem) :=
  (f_X11_refused s1 s0 σ).bind fun r2 =>
  if r2.1 = 0 then
    (gf Sh r2.2 11 v0 17).bind fun x4 =>
    (pf Sh r2.2 11 v0 17 (w32 (x4 - 1))).bind fun σ5 =>
    (gf Sh σ5 11 v0 3).bind fun x6 =>
    (gf Sh σ5 11 v0 7).bind fun x7 =>
    (gf Sh σ5 11 v0 17).bind fun x8 =>
    (al Sh σ5 39 x7 x8).bind fun x9 =>
    (f_X9_copyFrom x6 x9 σ5).bind fun r10 =>
    (gf Sh r10 11 v0 4).bind fun x12 =>
    (gf Sh r10 11 v0 8).bind fun x13 =>
    (gf Sh r10 11 v0 17).bind fun x14 =>
    (al Sh r10 35 x13 x14).bind fun x15 =>
    (f_X5_copyFrom x12 x15 r10).bind fun r16 =>
    (gf Sh r16 11 v0 17).bind fun x18 =>
    some (x18, r16)
  else
    some ((-1), r2.2)
theorem L_X11_back_b14 {sc : Nat × (Nat → Int32)} {o : Int × Mem} {v0 s0 s1 : Int} {σ : Mem} (h : f_X11_back_b14 v0 s0 s1 σ = some o) : E sc (Fm Sh (some (0, o.1)) Sh o.2) mt_X11_back 2 Sh Sh 14 [(2, v0)] [(0, s0), (2, s1)] Sh σ := by
  unfold f_X11_back_b14 at h
  refine bd h (fun r2 q3 h => ?_)
  refine E_cV (as := [(0, s0)]) (st := []) (a := s1) d_X11_back_14 mk_X11_refused nl_X11_132 (by omega) ⟨rfl, rfl, Nat.le_of_ble_eq_true rfl⟩ okX11 rfl (L_X11_refused q3) ?_
  refine E_if_eq (tgt := 22) d_X11_back_17 (by decide) h (fun _ h => ?_) (fun _ h => ?_)
  · refine E_aload_n d_X11_back_22 rfl (by decide) ?_
    refine E_dupT d_X11_back_23 (by decide) ?_
    refine E_get d_X11_back_24 okX11 fl_X11_467 ⟨by decide, rfl⟩ h (fun x4 h => ?_)
    refine E_iconst d_X11_back_27 (c32 rfl) ?_
    refine E_isub d_X11_back_28 ?_
    refine E_put d_X11_back_29 okX11 fl_X11_467 ⟨by decide, rfl⟩ (Or.inl ⟨rfl, rfl⟩) (Or.inl rfl) h (fun σ5 h => ?_)
    refine E_aload_n d_X11_back_32 rfl (by decide) ?_
    refine E_get d_X11_back_33 okX11 fl_X11_31 ⟨by decide, rfl⟩ h (fun x6 h => ?_)
    refine E_aload_n d_X11_back_36 rfl (by decide) ?_
    refine E_get d_X11_back_37 okX11 fl_X11_60 ⟨by decide, rfl⟩ h (fun x7 h => ?_)
    refine E_aload_n d_X11_back_40 rfl (by decide) ?_
    refine E_get d_X11_back_41 okX11 fl_X11_467 ⟨by decide, rfl⟩ h (fun x8 h => ?_)
    refine E_aaload d_X11_back_44 (Or.inr (Or.inr ⟨rfl, rfl, rfl⟩)) h (fun x9 h => ?_)
    refine bd h (fun r10 q11 h => ?_)
    refine E_cVv (as := [(2, x9)]) (st := []) (a := x6) d_X11_back_45 mk_X9_copyFrom nl_X11_190 (by omega) ⟨rfl, rfl, Nat.le_of_ble_eq_true rfl⟩ okX9 rfl (L_X9_copyFrom q11) ?_
    refine E_aload_n d_X11_back_48 rfl (by decide) ?_
    refine E_get d_X11_back_49 okX11 fl_X11_38 ⟨by decide, rfl⟩ h (fun x12 h => ?_)
    refine E_aload_n d_X11_back_52 rfl (by decide) ?_
    refine E_get d_X11_back_53 okX11 fl_X11_64 ⟨by decide, rfl⟩ h (fun x13 h => ?_)
    refine E_aload_n d_X11_back_56 rfl (by decide) ?_
    refine E_get d_X11_back_57 okX11 fl_X11_467 ⟨by decide, rfl⟩ h (fun x14 h => ?_)
    refine E_aaload d_X11_back_60 (Or.inl ⟨rfl, rfl, rfl⟩) h (fun x15 h => ?_)
    refine bd h (fun r16 q17 h => ?_)
    refine E_cVv (as := [(2, x15)]) (st := []) (a := x12) d_X11_back_61 mk_X5_copyFrom nl_X11_202 (by omega) ⟨rfl, rfl, Nat.le_of_ble_eq_true rfl⟩ okX5 rfl (L_X5_copyFrom q17) ?_
    refine E_aload_n d_X11_back_64 rfl (by decide) ?_
    refine E_get d_X11_back_65 okX11 fl_X11_467 ⟨by decide, rfl⟩ h (fun x18 h => ?_)
    cases h
    exact E_iret d_X11_back_68 rfl
  · refine E_iconst d_X11_back_20 (c32 rfl) ?_
    cases h
    exact E_iret d_X11_back_21 rfl
noncomputable def f_X11_back_b0 (v0 : Int) (σ : Mem) : Option (Int × Mem) :=
  (gf Sh σ 11 v0 17).bind fun x1 =>
  if 0 < x1 then
    f_X11_back_b14 v0 0 v0 σ
  else
    f_X11_back_b14 v0 8 v0 σ
theorem L_X11_back_b0 {sc : Nat × (Nat → Int32)} {o : Int × Mem} {v0 : Int} {σ : Mem} (h : f_X11_back_b0 v0 σ = some o) : E sc (Fm Sh (some (0, o.1)) Sh o.2) mt_X11_back 2 Sh Sh 0 [(2, v0)] [] Sh σ := by
  unfold f_X11_back_b0 at h
  refine E_aload_n d_X11_back_0 rfl (by decide) ?_
  refine E_aload_n d_X11_back_1 rfl (by decide) ?_
  refine E_get d_X11_back_2 okX11 fl_X11_467 ⟨by decide, rfl⟩ h (fun x1 h => ?_)
  refine E_if_gt (tgt := 13) d_X11_back_5 (by decide) h (fun _ h => ?_) (fun _ h => ?_)
  · refine E_iconst d_X11_back_13 (c32 rfl) ?_
    exact (L_X11_back_b14 h)
  · refine E_bipush d_X11_back_8 (c8 rfl) ?_
    refine E_goto (tgt := 14) d_X11_back_10 (by decide) ?_
    exact (L_X11_back_b14 h)
noncomputable def f_X11_back (v0 : Int) (σ : Mem) : Option (Int × Mem) := if isO Sh 11 v0 = true then f_X11_back_b0 v0 σ else none
theorem L_X11_back {o : Int × Mem} {v0 : Int} {σ : Mem} (h : f_X11_back v0 σ = some o) : (isO Sh 11 v0 = true ∧ Cn mt_X11_back 2 [(2, v0)] Sh σ (some (0, o.1)) Sh o.2) := ⟨(ite_ok h).1, Cn_of mk_X11_back.1.2.2.1 (Nat.le_of_ble_eq_true rfl) (fun sc => L_X11_back_b0 (ite_ok h).2)⟩
