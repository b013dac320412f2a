theorem d_X12_ages_0 : decode mt_X12_ages.2.1 0 = .ok (.iconst 0, 1) := by decide +kernel
theorem d_X12_ages_1 : decode mt_X12_ages.2.1 1 = .ok (.istore_n 1, 1) := by decide +kernel
theorem d_X12_ages_2 : decode mt_X12_ages.2.1 2 = .ok (.iload_n 1, 1) := by decide +kernel
theorem d_X12_ages_3 : decode mt_X12_ages.2.1 3 = .ok (.aload_n 0, 1) := by decide +kernel
theorem d_X12_ages_4 : decode mt_X12_ages.2.1 4 = .ok (.getfield 35, 3) := by decide +kernel
theorem d_X12_ages_7 : decode mt_X12_ages.2.1 7 = .ok (.iconst 0, 1) := by decide +kernel
theorem d_X12_ages_8 : decode mt_X12_ages.2.1 8 = .ok (.iaload, 1) := by decide +kernel
theorem d_X12_ages_9 : decode mt_X12_ages.2.1 9 = .ok (.if_icmp .ge 42, 3) := by decide +kernel
theorem d_X12_ages_12 : decode mt_X12_ages.2.1 12 = .ok (.aload_n 0, 1) := by decide +kernel
theorem d_X12_ages_13 : decode mt_X12_ages.2.1 13 = .ok (.getfield 35, 3) := by decide +kernel
theorem d_X12_ages_16 : decode mt_X12_ages.2.1 16 = .ok (.bipush 27, 2) := by decide +kernel
theorem d_X12_ages_18 : decode mt_X12_ages.2.1 18 = .ok (.iload_n 1, 1) := by decide +kernel
theorem d_X12_ages_19 : decode mt_X12_ages.2.1 19 = .ok (.iadd, 1) := by decide +kernel
theorem d_X12_ages_20 : decode mt_X12_ages.2.1 20 = .ok (.bipush 9, 2) := by decide +kernel
theorem d_X12_ages_22 : decode mt_X12_ages.2.1 22 = .ok (.aload_n 0, 1) := by decide +kernel
theorem d_X12_ages_23 : decode mt_X12_ages.2.1 23 = .ok (.getfield 35, 3) := by decide +kernel
theorem d_X12_ages_26 : decode mt_X12_ages.2.1 26 = .ok (.bipush 27, 2) := by decide +kernel
theorem d_X12_ages_28 : decode mt_X12_ages.2.1 28 = .ok (.iload_n 1, 1) := by decide +kernel
theorem d_X12_ages_29 : decode mt_X12_ages.2.1 29 = .ok (.iadd, 1) := by decide +kernel
theorem d_X12_ages_30 : decode mt_X12_ages.2.1 30 = .ok (.iaload, 1) := by decide +kernel
theorem d_X12_ages_31 : decode mt_X12_ages.2.1 31 = .ok (.aload_n 0, 1) := by decide +kernel
theorem d_X12_ages_32 : decode mt_X12_ages.2.1 32 = .ok (.getfield 35, 3) := by decide +kernel
theorem d_X12_ages_35 : decode mt_X12_ages.2.1 35 = .ok (.bipush 7, 2) := by decide +kernel
theorem d_X12_ages_37 : decode mt_X12_ages.2.1 37 = .ok (.iload_n 1, 1) := by decide +kernel
theorem d_X12_ages_38 : decode mt_X12_ages.2.1 38 = .ok (.iadd, 1) := by decide +kernel
theorem d_X12_ages_39 : decode mt_X12_ages.2.1 39 = .ok (.iaload, 1) := by decide +kernel
theorem d_X12_ages_40 : decode mt_X12_ages.2.1 40 = .ok (.iadd, 1) := by decide +kernel
theorem d_X12_ages_41 : decode mt_X12_ages.2.1 41 = .ok (.invokestatic 310, 3) := by decide +kernel
theorem d_X12_ages_44 : decode mt_X12_ages.2.1 44 = .ok (.iastore, 1) := by decide +kernel
theorem d_X12_ages_45 : decode mt_X12_ages.2.1 45 = .ok (.iinc 1 1, 3) := by decide +kernel
theorem d_X12_ages_48 : decode mt_X12_ages.2.1 48 = .ok (.goto (-46), 3) := by decide +kernel
theorem d_X12_ages_51 : decode mt_X12_ages.2.1 51 = .ok (.aload_n 0, 1) := by decide +kernel
theorem d_X12_ages_52 : decode mt_X12_ages.2.1 52 = .ok (.getfield 35, 3) := by decide +kernel
theorem d_X12_ages_55 : decode mt_X12_ages.2.1 55 = .ok (.iconst 3, 1) := by decide +kernel
theorem d_X12_ages_56 : decode mt_X12_ages.2.1 56 = .ok (.dup2, 1) := by decide +kernel
theorem d_X12_ages_57 : decode mt_X12_ages.2.1 57 = .ok (.iaload, 1) := by decide +kernel
theorem d_X12_ages_58 : decode mt_X12_ages.2.1 58 = .ok (.iconst 1, 1) := by decide +kernel
theorem d_X12_ages_59 : decode mt_X12_ages.2.1 59 = .ok (.iadd, 1) := by decide +kernel
theorem d_X12_ages_60 : decode mt_X12_ages.2.1 60 = .ok (.iastore, 1) := by decide +kernel
theorem d_X12_ages_61 : decode mt_X12_ages.2.1 61 = .ok (.return_, 1) := by decide +kernel
noncomputable def f_X12_ages_b2 (k2 : (Int → Int → Mem → Option (Mem))) (v0 v1 : Int) (σ : Mem) : Option (Mem) :=
  (gf Sh σ 12 v0 20).bind fun x1 =>
  (al Sh σ 20 x1 0).bind fun x2 =>
  if x2 ≤ v1 then
    (gf Sh σ 12 v0 20).bind fun x3 =>
    (al Sh σ 20 x3 3).bind fun x4 =>
    (st_ Sh σ 20 x3 3 (w32 (x4 + 1))).bind fun σ5 =>
    some σ5
  else
    (gf Sh σ 12 v0 20).bind fun x6 =>
    (gf Sh σ 12 v0 20).bind fun x7 =>
    (al Sh σ 20 x7 (w32 (27 + v1))).bind fun x8 =>
    (gf Sh σ 12 v0 20).bind fun x9 =>
    (al Sh σ 20 x9 (w32 (7 + v1))).bind fun x10 =>
    (st_ Sh σ 20 x6 (w32 (27 + v1)) (imin 9 (w32 (x8 + x10)))).bind fun σ11 =>
    k2 v0 (w32 (v1 + 1)) σ11
theorem L_X12_ages_b2 {sc : Nat × (Nat → Int32)} {o : Mem} {k2 : (Int → Int → Mem → Option (Mem))} (hk2 : ∀ {v0 v1 : Int} {σ : Mem}, k2 v0 v1 σ = some o → E sc (Fm Sh none Sh o) mt_X12_ages 2 Sh Sh 2 [(2, v0), (0, v1)] [] Sh σ) {v0 v1 : Int} {σ : Mem} (h : f_X12_ages_b2 k2 v0 v1 σ = some o) : E sc (Fm Sh none Sh o) mt_X12_ages 2 Sh Sh 2 [(2, v0), (0, v1)] [] Sh σ := by
  unfold f_X12_ages_b2 at h
  refine E_iload_n d_X12_ages_2 rfl ?_
  refine E_aload_n d_X12_ages_3 rfl (by decide) ?_
  refine E_get d_X12_ages_4 okX12 fl_X12_35 ⟨by decide, rfl⟩ h (fun x1 h => ?_)
  refine E_iconst d_X12_ages_7 (c32 rfl) ?_
  refine E_iaload d_X12_ages_8 h (fun x2 h => ?_)
  refine E_icmp_ge (tgt := 51) d_X12_ages_9 (by decide) h (fun _ h => ?_) (fun _ h => ?_)
  · refine E_aload_n d_X12_ages_51 rfl (by decide) ?_
    refine E_get d_X12_ages_52 okX12 fl_X12_35 ⟨by decide, rfl⟩ h (fun x3 h => ?_)
    refine E_iconst d_X12_ages_55 (c32 rfl) ?_
    refine E_dup2T d_X12_ages_56 (by decide) ?_
    refine E_iaload d_X12_ages_57 h (fun x4 h => ?_)
    refine E_iconst d_X12_ages_58 (c32 rfl) ?_
    refine E_iadd d_X12_ages_59 ?_
    refine E_iastore d_X12_ages_60 h (fun σ5 h => ?_)
    cases h
    exact E_vret d_X12_ages_61 rfl
  · refine E_aload_n d_X12_ages_12 rfl (by decide) ?_
    refine E_get d_X12_ages_13 okX12 fl_X12_35 ⟨by decide, rfl⟩ h (fun x6 h => ?_)
    refine E_bipush d_X12_ages_16 (c8 rfl) ?_
    refine E_iload_n d_X12_ages_18 rfl ?_
    refine E_iadd d_X12_ages_19 ?_
    refine E_bipush d_X12_ages_20 (c8 rfl) ?_
    refine E_aload_n d_X12_ages_22 rfl (by decide) ?_
    refine E_get d_X12_ages_23 okX12 fl_X12_35 ⟨by decide, rfl⟩ h (fun x7 h => ?_)
    refine E_bipush d_X12_ages_26 (c8 rfl) ?_
    refine E_iload_n d_X12_ages_28 rfl ?_
    refine E_iadd d_X12_ages_29 ?_
    refine E_iaload d_X12_ages_30 h (fun x8 h => ?_)
    refine E_aload_n d_X12_ages_31 rfl (by decide) ?_
    refine E_get d_X12_ages_32 okX12 fl_X12_35 ⟨by decide, rfl⟩ h (fun x9 h => ?_)
    refine E_bipush d_X12_ages_35 (c8 rfl) ?_
    refine E_iload_n d_X12_ages_37 rfl ?_
    refine E_iadd d_X12_ages_38 ?_
    refine E_iaload d_X12_ages_39 h (fun x10 h => ?_)
    refine E_iadd d_X12_ages_40 ?_
    refine E_imin d_X12_ages_41 nl_X12_310 (by omega) (Nat.le_of_ble_eq_true rfl) ?_
    refine E_iastore d_X12_ages_44 h (fun σ11 h => ?_)
    refine E_iinc d_X12_ages_45 (ls' := [(2, v0), (0, w32 (v1 + 1))]) rfl ⟨by decide, rfl⟩ ?_
    refine E_goto (tgt := 2) d_X12_ages_48 (by decide) ?_
    exact (hk2 h)
noncomputable def f_X12_ages_h2 (n : Nat) : Int → Int → Mem → Option (Mem) := Nat.rec (motive := fun _ => Int → Int → Mem → Option (Mem)) (fun _ _ _ => none) (fun _ ih => f_X12_ages_b2 (ih)) n
theorem L_X12_ages_h2 {sc : Nat × (Nat → Int32)} {o : Mem} : ∀ (n : Nat) {v0 v1 : Int} {σ : Mem}, f_X12_ages_h2 n v0 v1 σ = some o → E sc (Fm Sh none Sh o) mt_X12_ages 2 Sh Sh 2 [(2, v0), (0, v1)] [] Sh σ := by
  intro n
  induction n with
  | zero => intro v0 v1 σ h; cases h
  | succ n ih => intro v0 v1 σ h; exact L_X12_ages_b2 (@ih) h
noncomputable def f_X12_ages_b0 (v0 : Int) (σ : Mem) : Option (Mem) :=
  f_X12_ages_h2 FU v0 0 σ
theorem L_X12_ages_b0 {sc : Nat × (Nat → Int32)} {o : Mem} {v0 : Int} {σ : Mem} (h : f_X12_ages_b0 v0 σ = some o) : E sc (Fm Sh none Sh o) mt_X12_ages 2 Sh Sh 0 [(2, v0), (9, 0)] [] Sh σ := by
  unfold f_X12_ages_b0 at h
  refine E_iconst d_X12_ages_0 (c32 rfl) ?_
  refine E_istore_n d_X12_ages_1 (ls' := [(2, v0), (0, 0)]) ⟨by decide, rfl⟩ ?_
  exact (L_X12_ages_h2 FU h)
noncomputable def f_X12_ages (v0 : Int) (σ : Mem) : Option (Mem) := if isO Sh 12 v0 = true then f_X12_ages_b0 v0 σ else none
theorem L_X12_ages {o : Mem} {v0 : Int} {σ : Mem} (h : f_X12_ages v0 σ = some o) : (isO Sh 12 v0 = true ∧ Cn mt_X12_ages 2 [(2, v0)] Sh σ none Sh o) := ⟨(ite_ok h).1, Cn_of mk_X12_ages.1.2.2.1 (Nat.le_of_ble_eq_true rfl) (fun sc => L_X12_ages_b0 (ite_ok h).2)⟩
theorem d_X12_year_0 : decode mt_X12_year.2.1 0 = .ok (.aload_n 0, 1) := by decide +kernel
theorem d_X12_year_1 : decode mt_X12_year.2.1 1 = .ok (.iconst 0, 1) := by decide +kernel
theorem d_X12_year_2 : decode mt_X12_year.2.1 2 = .ok (.putfield 70, 3) := by decide +kernel
theorem d_X12_year_5 : decode mt_X12_year.2.1 5 = .ok (.aload_n 0, 1) := by decide +kernel
theorem d_X12_year_6 : decode mt_X12_year.2.1 6 = .ok (.iconst 0, 1) := by decide +kernel
theorem d_X12_year_7 : decode mt_X12_year.2.1 7 = .ok (.putfield 73, 3) := by decide +kernel
theorem d_X12_year_10 : decode mt_X12_year.2.1 10 = .ok (.iload_n 1, 1) := by decide +kernel
theorem d_X12_year_11 : decode mt_X12_year.2.1 11 = .ok (.i2l, 1) := by decide +kernel
theorem d_X12_year_12 : decode mt_X12_year.2.1 12 = .ok (.lconst 1, 1) := by decide +kernel
theorem d_X12_year_13 : decode mt_X12_year.2.1 13 = .ok (.ldc2_w 370, 3) := by decide +kernel
theorem d_X12_year_16 : decode mt_X12_year.2.1 16 = .ok (.invokestatic 104, 3) := by decide +kernel
theorem d_X12_year_19 : decode mt_X12_year.2.1 19 = .ok (.ifCond .ne 9, 3) := by decide +kernel
theorem d_X12_year_22 : decode mt_X12_year.2.1 22 = .ok (.aload_n 0, 1) := by decide +kernel
theorem d_X12_year_23 : decode mt_X12_year.2.1 23 = .ok (.iconst 5, 1) := by decide +kernel
theorem d_X12_year_24 : decode mt_X12_year.2.1 24 = .ok (.invokevirtual 318, 3) := by decide +kernel
theorem d_X12_year_27 : decode mt_X12_year.2.1 27 = .ok (.ireturn, 1) := by decide +kernel
theorem d_X12_year_28 : decode mt_X12_year.2.1 28 = .ok (.aload_n 0, 1) := by decide +kernel
theorem d_X12_year_29 : decode mt_X12_year.2.1 29 = .ok (.getfield 35, 3) := by decide +kernel
theorem d_X12_year_32 : decode mt_X12_year.2.1 32 = .ok (.iconst 3, 1) := by decide +kernel
theorem d_X12_year_33 : decode mt_X12_year.2.1 33 = .ok (.iaload, 1) := by decide +kernel
theorem d_X12_year_34 : decode mt_X12_year.2.1 34 = .ok (.iload_n 1, 1) := by decide +kernel
theorem d_X12_year_35 : decode mt_X12_year.2.1 35 = .ok (.iadd, 1) := by decide +kernel
theorem d_X12_year_36 : decode mt_X12_year.2.1 36 = .ok (.sipush 9999, 3) := by decide +kernel
theorem d_X12_year_39 : decode mt_X12_year.2.1 39 = .ok (.if_icmp .le 10, 3) := by decide +kernel
theorem d_X12_year_42 : decode mt_X12_year.2.1 42 = .ok (.aload_n 0, 1) := by decide +kernel
theorem d_X12_year_43 : decode mt_X12_year.2.1 43 = .ok (.bipush 7, 2) := by decide +kernel
theorem d_X12_year_45 : decode mt_X12_year.2.1 45 = .ok (.invokevirtual 318, 3) := by decide +kernel
theorem d_X12_year_48 : decode mt_X12_year.2.1 48 = .ok (.ireturn, 1) := by decide +kernel
theorem d_X12_year_49 : decode mt_X12_year.2.1 49 = .ok (.iconst 0, 1) := by decide +kernel
theorem d_X12_year_50 : decode mt_X12_year.2.1 50 = .ok (.istore_n 2, 1) := by decide +kernel
theorem d_X12_year_51 : decode mt_X12_year.2.1 51 = .ok (.iload_n 2, 1) := by decide +kernel
theorem d_X12_year_52 : decode mt_X12_year.2.1 52 = .ok (.iload_n 1, 1) := by decide +kernel
theorem d_X12_year_53 : decode mt_X12_year.2.1 53 = .ok (.if_icmp .ge 13, 3) := by decide +kernel
theorem d_X12_year_56 : decode mt_X12_year.2.1 56 = .ok (.aload_n 0, 1) := by decide +kernel
theorem d_X12_year_57 : decode mt_X12_year.2.1 57 = .ok (.invokevirtual 372, 3) := by decide +kernel
theorem d_X12_year_60 : decode mt_X12_year.2.1 60 = .ok (.iinc 2 1, 3) := by decide +kernel
theorem d_X12_year_63 : decode mt_X12_year.2.1 63 = .ok (.goto (-12), 3) := by decide +kernel
theorem d_X12_year_66 : decode mt_X12_year.2.1 66 = .ok (.aload_n 0, 1) := by decide +kernel
theorem d_X12_year_67 : decode mt_X12_year.2.1 67 = .ok (.invokevirtual 327, 3) := by decide +kernel
theorem d_X12_year_70 : decode mt_X12_year.2.1 70 = .ok (.ireturn, 1) := by decide +kernel
noncomputable def f_X12_year_b51 (k51 : (Int → Int → Int → Mem → Option (Int × Mem))) (v0 v1 v2 : Int) (σ : Mem) : Option (Int × Mem) :=
  if v1 ≤ v2 then
    (f_X12_mossAll v0 σ).bind fun r11 =>
    some (r11, σ)
  else
    (f_X12_ages v0 σ).bind fun r13 =>
    k51 v0 v1 (w32 (v2 + 1)) r13
theorem L_X12_year_b51 {sc : Nat × (Nat → Int32)} {o : Int × Mem} {k51 : (Int → Int → Int → Mem → Option (Int × Mem))} (hk51 : ∀ {v0 v1 v2 : Int} {σ : Mem}, k51 v0 v1 v2 σ = some o → E sc (Fm Sh (some (0, o.1)) Sh o.2) mt_X12_year 3 Sh Sh 51 [(2, v0), (0, v1), (0, v2)] [] Sh σ) {v0 v1 v2 : Int} {σ : Mem} (h : f_X12_year_b51 k51 v0 v1 v2 σ = some o) : E sc (Fm Sh (some (0, o.1)) Sh o.2) mt_X12_year 3 Sh Sh 51 [(2, v0), (0, v1), (0, v2)] [] Sh σ := by
  unfold f_X12_year_b51 at h
  refine E_iload_n d_X12_year_51 rfl ?_
  refine E_iload_n d_X12_year_52 rfl ?_
  refine E_icmp_ge (tgt := 66) d_X12_year_53 (by decide) h (fun _ h => ?_) (fun _ h => ?_)
  · refine E_aload_n d_X12_year_66 rfl (by decide) ?_
    refine bd h (fun r11 q12 h => ?_)
    refine E_cV (as := []) (st := []) (a := v0) d_X12_year_67 mk_X12_mossAll nl_X12_327 (by omega) ⟨rfl, rfl, Nat.le_of_ble_eq_true rfl⟩ okX12 rfl (L_X12_mossAll q12) ?_
    cases h
    exact E_iret d_X12_year_70 rfl
  · refine E_aload_n d_X12_year_56 rfl (by decide) ?_
    refine bd h (fun r13 q14 h => ?_)
    refine E_cVv (as := []) (st := []) (a := v0) d_X12_year_57 mk_X12_ages nl_X12_372 (by omega) ⟨rfl, rfl, Nat.le_of_ble_eq_true rfl⟩ okX12 rfl (L_X12_ages q14) ?_
    refine E_iinc d_X12_year_60 (ls' := [(2, v0), (0, v1), (0, w32 (v2 + 1))]) rfl ⟨by decide, rfl⟩ ?_
    refine E_goto (tgt := 51) d_X12_year_63 (by decide) ?_
    exact (hk51 h)
noncomputable def f_X12_year_h51 (n : Nat) : Int → Int → Int → Mem → Option (Int × Mem) := Nat.rec (motive := fun _ => Int → Int → Int → Mem → Option (Int × Mem)) (fun _ _ _ _ => none) (fun _ ih => f_X12_year_b51 (ih)) n
theorem L_X12_year_h51 {sc : Nat × (Nat → Int32)} {o : Int × Mem} : ∀ (n : Nat) {v0 v1 v2 : Int} {σ : Mem}, f_X12_year_h51 n v0 v1 v2 σ = some o → E sc (Fm Sh (some (0, o.1)) Sh o.2) mt_X12_year 3 Sh Sh 51 [(2, v0), (0, v1), (0, v2)] [] Sh σ := by
  intro n
  induction n with
  | zero => intro v0 v1 v2 σ h; cases h
  | succ n ih => intro v0 v1 v2 σ h; exact L_X12_year_b51 (@ih) h
noncomputable def f_X12_year_b0 (v0 v1 : Int) (σ : Mem) : Option (Int × Mem) :=
  (pf Sh σ 12 v0 1 0).bind fun σ1 =>
  (pf Sh σ1 12 v0 0 0).bind fun σ2 =>
  (f_X12_isIn v1 1 99 σ2).bind fun r3 =>
  if r3 = 0 then
    (f_X12_refuse v0 5 σ2).bind fun r5 =>
    some (r5.1, r5.2)
  else
    (gf Sh σ2 12 v0 20).bind fun x7 =>
    (al Sh σ2 20 x7 3).bind fun x8 =>
    if w32 (x8 + v1) ≤ 9999 then
      f_X12_year_h51 FU v0 v1 0 σ2
    else
      (f_X12_refuse v0 7 σ2).bind fun r9 =>
      some (r9.1, r9.2)
theorem L_X12_year_b0 {sc : Nat × (Nat → Int32)} {o : Int × Mem} {v0 v1 : Int} {σ : Mem} (h : f_X12_year_b0 v0 v1 σ = some o) : E sc (Fm Sh (some (0, o.1)) Sh o.2) mt_X12_year 3 Sh Sh 0 [(2, v0), (0, v1), (9, 0)] [] Sh σ := by
  unfold f_X12_year_b0 at h
  refine E_aload_n d_X12_year_0 rfl (by decide) ?_
  refine E_iconst d_X12_year_1 (c32 rfl) ?_
  refine E_put d_X12_year_2 okX12 fl_X12_70 ⟨by decide, rfl⟩ (Or.inl ⟨rfl, rfl⟩) (Or.inl rfl) h (fun σ1 h => ?_)
  refine E_aload_n d_X12_year_5 rfl (by decide) ?_
  refine E_iconst d_X12_year_6 (c32 rfl) ?_
  refine E_put d_X12_year_7 okX12 fl_X12_73 ⟨by decide, rfl⟩ (Or.inl ⟨rfl, rfl⟩) (Or.inl rfl) h (fun σ2 h => ?_)
  refine E_iload_n d_X12_year_10 rfl ?_
  refine E_i2l d_X12_year_11 ?_
  refine E_lconst d_X12_year_12 cl1 ?_
  refine E_ldc2 d_X12_year_13 kw_X12_370 ?_
  refine bd h (fun r3 q4 h => ?_)
  refine E_cS (as := [(1, v1), (1, 1), (1, 99)]) (st := []) d_X12_year_16 mk_X12_isIn nl_X12_104 (by omega) ⟨rfl, rfl, Nat.le_of_ble_eq_true rfl⟩ (L_X12_isIn q4) ?_
  refine E_if_ne (tgt := 28) d_X12_year_19 (by decide) h (fun _ h => ?_) (fun _ h => ?_)
  · refine E_aload_n d_X12_year_22 rfl (by decide) ?_
    refine E_iconst d_X12_year_23 (c32 rfl) ?_
    refine bd h (fun r5 q6 h => ?_)
    refine E_cV (as := [(0, 5)]) (st := []) (a := v0) d_X12_year_24 mk_X12_refuse nl_X12_318 (by omega) ⟨rfl, rfl, Nat.le_of_ble_eq_true rfl⟩ okX12 rfl (L_X12_refuse q6) ?_
    cases h
    exact E_iret d_X12_year_27 rfl
  · refine E_aload_n d_X12_year_28 rfl (by decide) ?_
    refine E_get d_X12_year_29 okX12 fl_X12_35 ⟨by decide, rfl⟩ h (fun x7 h => ?_)
    refine E_iconst d_X12_year_32 (c32 rfl) ?_
    refine E_iaload d_X12_year_33 h (fun x8 h => ?_)
    refine E_iload_n d_X12_year_34 rfl ?_
    refine E_iadd d_X12_year_35 ?_
    refine E_sipush d_X12_year_36 (c16 rfl) ?_
    refine E_icmp_le (tgt := 49) d_X12_year_39 (by decide) h (fun _ h => ?_) (fun _ h => ?_)
    · refine E_iconst d_X12_year_49 (c32 rfl) ?_
      refine E_istore_n d_X12_year_50 (ls' := [(2, v0), (0, v1), (0, 0)]) ⟨by decide, rfl⟩ ?_
      exact (L_X12_year_h51 FU h)
    · refine E_aload_n d_X12_year_42 rfl (by decide) ?_
      refine E_bipush d_X12_year_43 (c8 rfl) ?_
      refine bd h (fun r9 q10 h => ?_)
      refine E_cV (as := [(0, 7)]) (st := []) (a := v0) d_X12_year_45 mk_X12_refuse nl_X12_318 (by omega) ⟨rfl, rfl, Nat.le_of_ble_eq_true rfl⟩ okX12 rfl (L_X12_refuse q10) ?_
      cases h
      exact E_iret d_X12_year_48 rfl
noncomputable def f_X12_year (v0 v1 : Int) (σ : Mem) : Option (Int × Mem) := if isO Sh 12 v0 = true then f_X12_year_b0 v0 v1 σ else none
theorem L_X12_year {o : Int × Mem} {v0 v1 : Int} {σ : Mem} (h : f_X12_year v0 v1 σ = some o) : (isO Sh 12 v0 = true ∧ Cn mt_X12_year 3 [(2, v0), (0, v1)] Sh σ (some (0, o.1)) Sh o.2) := ⟨(ite_ok h).1, Cn_of mk_X12_year.1.2.2.1 (Nat.le_of_ble_eq_true rfl) (fun sc => L_X12_year_b0 (ite_ok h).2)⟩
theorem d_X12_carve_0 : decode mt_X12_carve.2.1 0 = .ok (.aload_n 0, 1) := by decide +kernel
theorem d_X12_carve_1 : decode mt_X12_carve.2.1 1 = .ok (.iconst 0, 1) := by decide +kernel
theorem d_X12_carve_2 : decode mt_X12_carve.2.1 2 = .ok (.putfield 70, 3) := by decide +kernel
theorem d_X12_carve_5 : decode mt_X12_carve.2.1 5 = .ok (.aload_n 0, 1) := by decide +kernel
theorem d_X12_carve_6 : decode mt_X12_carve.2.1 6 = .ok (.iconst 0, 1) := by decide +kernel
theorem d_X12_carve_7 : decode mt_X12_carve.2.1 7 = .ok (.putfield 73, 3) := by decide +kernel
theorem d_X12_carve_10 : decode mt_X12_carve.2.1 10 = .ok (.aload_n 0, 1) := by decide +kernel
theorem d_X12_carve_11 : decode mt_X12_carve.2.1 11 = .ok (.iload_n 1, 1) := by decide +kernel
theorem d_X12_carve_12 : decode mt_X12_carve.2.1 12 = .ok (.i2l, 1) := by decide +kernel
theorem d_X12_carve_13 : decode mt_X12_carve.2.1 13 = .ok (.invokevirtual 330, 3) := by decide +kernel
theorem d_X12_carve_16 : decode mt_X12_carve.2.1 16 = .ok (.ifCond .ne 9, 3) := by decide +kernel
theorem d_X12_carve_19 : decode mt_X12_carve.2.1 19 = .ok (.aload_n 0, 1) := by decide +kernel
theorem d_X12_carve_20 : decode mt_X12_carve.2.1 20 = .ok (.iconst 2, 1) := by decide +kernel
theorem d_X12_carve_21 : decode mt_X12_carve.2.1 21 = .ok (.invokevirtual 318, 3) := by decide +kernel
theorem d_X12_carve_24 : decode mt_X12_carve.2.1 24 = .ok (.ireturn, 1) := by decide +kernel
theorem d_X12_carve_25 : decode mt_X12_carve.2.1 25 = .ok (.iload_n 2, 1) := by decide +kernel
theorem d_X12_carve_26 : decode mt_X12_carve.2.1 26 = .ok (.i2l, 1) := by decide +kernel
theorem d_X12_carve_27 : decode mt_X12_carve.2.1 27 = .ok (.lconst 0, 1) := by decide +kernel
theorem d_X12_carve_28 : decode mt_X12_carve.2.1 28 = .ok (.ldc2_w 375, 3) := by decide +kernel
theorem d_X12_carve_31 : decode mt_X12_carve.2.1 31 = .ok (.invokestatic 104, 3) := by decide +kernel
theorem d_X12_carve_34 : decode mt_X12_carve.2.1 34 = .ok (.ifCond .ne 9, 3) := by decide +kernel
theorem d_X12_carve_37 : decode mt_X12_carve.2.1 37 = .ok (.aload_n 0, 1) := by decide +kernel
theorem d_X12_carve_38 : decode mt_X12_carve.2.1 38 = .ok (.iconst 5, 1) := by decide +kernel
theorem d_X12_carve_39 : decode mt_X12_carve.2.1 39 = .ok (.invokevirtual 318, 3) := by decide +kernel
theorem d_X12_carve_42 : decode mt_X12_carve.2.1 42 = .ok (.ireturn, 1) := by decide +kernel
theorem d_X12_carve_43 : decode mt_X12_carve.2.1 43 = .ok (.aload_n 0, 1) := by decide +kernel
theorem d_X12_carve_44 : decode mt_X12_carve.2.1 44 = .ok (.iload_n 1, 1) := by decide +kernel
theorem d_X12_carve_45 : decode mt_X12_carve.2.1 45 = .ok (.invokevirtual 305, 3) := by decide +kernel
theorem d_X12_carve_48 : decode mt_X12_carve.2.1 48 = .ok (.ifCond .ne 10, 3) := by decide +kernel
theorem d_X12_carve_51 : decode mt_X12_carve.2.1 51 = .ok (.aload_n 0, 1) := by decide +kernel
theorem d_X12_carve_52 : decode mt_X12_carve.2.1 52 = .ok (.bipush 8, 2) := by decide +kernel
theorem d_X12_carve_54 : decode mt_X12_carve.2.1 54 = .ok (.invokevirtual 318, 3) := by decide +kernel
theorem d_X12_carve_57 : decode mt_X12_carve.2.1 57 = .ok (.ireturn, 1) := by decide +kernel
theorem d_X12_carve_58 : decode mt_X12_carve.2.1 58 = .ok (.aload_n 0, 1) := by decide +kernel
theorem d_X12_carve_59 : decode mt_X12_carve.2.1 59 = .ok (.getfield 35, 3) := by decide +kernel
theorem d_X12_carve_62 : decode mt_X12_carve.2.1 62 = .ok (.bipush 17, 2) := by decide +kernel
theorem d_X12_carve_64 : decode mt_X12_carve.2.1 64 = .ok (.iload_n 1, 1) := by decide +kernel
theorem d_X12_carve_65 : decode mt_X12_carve.2.1 65 = .ok (.iadd, 1) := by decide +kernel
theorem d_X12_carve_66 : decode mt_X12_carve.2.1 66 = .ok (.iaload, 1) := by decide +kernel
theorem d_X12_carve_67 : decode mt_X12_carve.2.1 67 = .ok (.istore_n 3, 1) := by decide +kernel
theorem d_X12_carve_68 : decode mt_X12_carve.2.1 68 = .ok (.aload_n 0, 1) := by decide +kernel
theorem d_X12_carve_69 : decode mt_X12_carve.2.1 69 = .ok (.getfield 35, 3) := by decide +kernel
theorem d_X12_carve_72 : decode mt_X12_carve.2.1 72 = .ok (.bipush 17, 2) := by decide +kernel
theorem d_X12_carve_74 : decode mt_X12_carve.2.1 74 = .ok (.iload_n 1, 1) := by decide +kernel
theorem d_X12_carve_75 : decode mt_X12_carve.2.1 75 = .ok (.iadd, 1) := by decide +kernel
theorem d_X12_carve_76 : decode mt_X12_carve.2.1 76 = .ok (.iload_n 2, 1) := by decide +kernel
theorem d_X12_carve_77 : decode mt_X12_carve.2.1 77 = .ok (.iastore, 1) := by decide +kernel
theorem d_X12_carve_78 : decode mt_X12_carve.2.1 78 = .ok (.iload_n 3, 1) := by decide +kernel
theorem d_X12_carve_79 : decode mt_X12_carve.2.1 79 = .ok (.ireturn, 1) := by decide +kernel
noncomputable def f_X12_carve_b0 (v0 v1 v2 : Int) (σ : Mem) : Option (Int × Mem) :=
  (pf Sh σ 12 v0 1 0).bind fun σ1 =>
  (pf Sh σ1 12 v0 0 0).bind fun σ2 =>
  (f_X12_isPlaceAt v0 v1 σ2).bind fun r3 =>
  if r3 = 0 then
    (f_X12_refuse v0 2 σ2).bind fun r5 =>
    some (r5.1, r5.2)
  else
    (f_X12_isIn v2 0 30 σ2).bind fun r7 =>
    if r7 = 0 then
      (f_X12_refuse v0 5 σ2).bind fun r9 =>
      some (r9.1, r9.2)
    else
      (f_X12_isStoneAt v0 v1 σ2).bind fun r11 =>
      if r11 = 0 then
        (f_X12_refuse v0 8 σ2).bind fun r13 =>
        some (r13.1, r13.2)
      else
        (gf Sh σ2 12 v0 20).bind fun x15 =>
        (al Sh σ2 20 x15 (w32 (17 + v1))).bind fun x16 =>
        (gf Sh σ2 12 v0 20).bind fun x17 =>
        (st_ Sh σ2 20 x17 (w32 (17 + v1)) v2).bind fun σ18 =>
        some (x16, σ18)
theorem L_X12_carve_b0 {sc : Nat × (Nat → Int32)} {o : Int × Mem} {v0 v1 v2 : Int} {σ : Mem} (h : f_X12_carve_b0 v0 v1 v2 σ = some o) : E sc (Fm Sh (some (0, o.1)) Sh o.2) mt_X12_carve 3 Sh Sh 0 [(2, v0), (0, v1), (0, v2), (9, 0)] [] Sh σ := by
  unfold f_X12_carve_b0 at h
  refine E_aload_n d_X12_carve_0 rfl (by decide) ?_
  refine E_iconst d_X12_carve_1 (c32 rfl) ?_
  refine E_put d_X12_carve_2 okX12 fl_X12_70 ⟨by decide, rfl⟩ (Or.inl ⟨rfl, rfl⟩) (Or.inl rfl) h (fun σ1 h => ?_)
  refine E_aload_n d_X12_carve_5 rfl (by decide) ?_
  refine E_iconst d_X12_carve_6 (c32 rfl) ?_
  refine E_put d_X12_carve_7 okX12 fl_X12_73 ⟨by decide, rfl⟩ (Or.inl ⟨rfl, rfl⟩) (Or.inl rfl) h (fun σ2 h => ?_)
  refine E_aload_n d_X12_carve_10 rfl (by decide) ?_
  refine E_iload_n d_X12_carve_11 rfl ?_
  refine E_i2l d_X12_carve_12 ?_
  refine bd h (fun r3 q4 h => ?_)
  refine E_cV (as := [(1, v1)]) (st := []) (a := v0) d_X12_carve_13 mk_X12_isPlaceAt nl_X12_330 (by omega) ⟨rfl, rfl, Nat.le_of_ble_eq_true rfl⟩ okX12 rfl (L_X12_isPlaceAt q4) ?_
  refine E_if_ne (tgt := 25) d_X12_carve_16 (by decide) h (fun _ h => ?_) (fun _ h => ?_)
  · refine E_aload_n d_X12_carve_19 rfl (by decide) ?_
    refine E_iconst d_X12_carve_20 (c32 rfl) ?_
    refine bd h (fun r5 q6 h => ?_)
    refine E_cV (as := [(0, 2)]) (st := []) (a := v0) d_X12_carve_21 mk_X12_refuse nl_X12_318 (by omega) ⟨rfl, rfl, Nat.le_of_ble_eq_true rfl⟩ okX12 rfl (L_X12_refuse q6) ?_
    cases h
    exact E_iret d_X12_carve_24 rfl
  · refine E_iload_n d_X12_carve_25 rfl ?_
    refine E_i2l d_X12_carve_26 ?_
    refine E_lconst d_X12_carve_27 cl0 ?_
    refine E_ldc2 d_X12_carve_28 kw_X12_375 ?_
    refine bd h (fun r7 q8 h => ?_)
    refine E_cS (as := [(1, v2), (1, 0), (1, 30)]) (st := []) d_X12_carve_31 mk_X12_isIn nl_X12_104 (by omega) ⟨rfl, rfl, Nat.le_of_ble_eq_true rfl⟩ (L_X12_isIn q8) ?_
    refine E_if_ne (tgt := 43) d_X12_carve_34 (by decide) h (fun _ h => ?_) (fun _ h => ?_)
    · refine E_aload_n d_X12_carve_37 rfl (by decide) ?_
      refine E_iconst d_X12_carve_38 (c32 rfl) ?_
      refine bd h (fun r9 q10 h => ?_)
      refine E_cV (as := [(0, 5)]) (st := []) (a := v0) d_X12_carve_39 mk_X12_refuse nl_X12_318 (by omega) ⟨rfl, rfl, Nat.le_of_ble_eq_true rfl⟩ okX12 rfl (L_X12_refuse q10) ?_
      cases h
      exact E_iret d_X12_carve_42 rfl
    · refine E_aload_n d_X12_carve_43 rfl (by decide) ?_
      refine E_iload_n d_X12_carve_44 rfl ?_
      refine bd h (fun r11 q12 h => ?_)
      refine E_cV (as := [(0, v1)]) (st := []) (a := v0) d_X12_carve_45 mk_X12_isStoneAt nl_X12_305 (by omega) ⟨rfl, rfl, Nat.le_of_ble_eq_true rfl⟩ okX12 rfl (L_X12_isStoneAt q12) ?_
      refine E_if_ne (tgt := 58) d_X12_carve_48 (by decide) h (fun _ h => ?_) (fun _ h => ?_)
      · refine E_aload_n d_X12_carve_51 rfl (by decide) ?_
        refine E_bipush d_X12_carve_52 (c8 rfl) ?_
        refine bd h (fun r13 q14 h => ?_)
        refine E_cV (as := [(0, 8)]) (st := []) (a := v0) d_X12_carve_54 mk_X12_refuse nl_X12_318 (by omega) ⟨rfl, rfl, Nat.le_of_ble_eq_true rfl⟩ okX12 rfl (L_X12_refuse q14) ?_
        cases h
        exact E_iret d_X12_carve_57 rfl
      · refine E_aload_n d_X12_carve_58 rfl (by decide) ?_
        refine E_get d_X12_carve_59 okX12 fl_X12_35 ⟨by decide, rfl⟩ h (fun x15 h => ?_)
        refine E_bipush d_X12_carve_62 (c8 rfl) ?_
        refine E_iload_n d_X12_carve_64 rfl ?_
        refine E_iadd d_X12_carve_65 ?_
        refine E_iaload d_X12_carve_66 h (fun x16 h => ?_)
        refine E_istore_n d_X12_carve_67 (ls' := [(2, v0), (0, v1), (0, v2), (0, x16)]) ⟨by decide, rfl⟩ ?_
        refine E_aload_n d_X12_carve_68 rfl (by decide) ?_
        refine E_get d_X12_carve_69 okX12 fl_X12_35 ⟨by decide, rfl⟩ h (fun x17 h => ?_)
        refine E_bipush d_X12_carve_72 (c8 rfl) ?_
        refine E_iload_n d_X12_carve_74 rfl ?_
        refine E_iadd d_X12_carve_75 ?_
        refine E_iload_n d_X12_carve_76 rfl ?_
        refine E_iastore d_X12_carve_77 h (fun σ18 h => ?_)
        refine E_iload_n d_X12_carve_78 rfl ?_
        cases h
        exact E_iret d_X12_carve_79 rfl
noncomputable def f_X12_carve (v0 v1 v2 : Int) (σ : Mem) : Option (Int × Mem) := if isO Sh 12 v0 = true then f_X12_carve_b0 v0 v1 v2 σ else none
theorem L_X12_carve {o : Int × Mem} {v0 v1 v2 : Int} {σ : Mem} (h : f_X12_carve v0 v1 v2 σ = some o) : (isO Sh 12 v0 = true ∧ Cn mt_X12_carve 3 [(2, v0), (0, v1), (0, v2)] Sh σ (some (0, o.1)) Sh o.2) := ⟨(ite_ok h).1, Cn_of mk_X12_carve.1.2.2.1 (Nat.le_of_ble_eq_true rfl) (fun sc => L_X12_carve_b0 (ite_ok h).2)⟩
theorem d_X12_clears_0 : decode mt_X12_clears.2.1 0 = .ok (.aload_n 0, 1) := by decide +kernel
theorem d_X12_clears_1 : decode mt_X12_clears.2.1 1 = .ok (.iload_n 1, 1) := by decide +kernel
theorem d_X12_clears_2 : decode mt_X12_clears.2.1 2 = .ok (.invokevirtual 305, 3) := by decide +kernel
theorem d_X12_clears_5 : decode mt_X12_clears.2.1 5 = .ok (.ifCond .eq 15, 3) := by decide +kernel
theorem d_X12_clears_8 : decode mt_X12_clears.2.1 8 = .ok (.aload_n 0, 1) := by decide +kernel
theorem d_X12_clears_9 : decode mt_X12_clears.2.1 9 = .ok (.getfield 35, 3) := by decide +kernel
theorem d_X12_clears_12 : decode mt_X12_clears.2.1 12 = .ok (.bipush 27, 2) := by decide +kernel
theorem d_X12_clears_14 : decode mt_X12_clears.2.1 14 = .ok (.iload_n 1, 1) := by decide +kernel
theorem d_X12_clears_15 : decode mt_X12_clears.2.1 15 = .ok (.iadd, 1) := by decide +kernel
theorem d_X12_clears_16 : decode mt_X12_clears.2.1 16 = .ok (.iaload, 1) := by decide +kernel
theorem d_X12_clears_17 : decode mt_X12_clears.2.1 17 = .ok (.ifCond .ne 5, 3) := by decide +kernel
theorem d_X12_clears_20 : decode mt_X12_clears.2.1 20 = .ok (.iconst 0, 1) := by decide +kernel
theorem d_X12_clears_21 : decode mt_X12_clears.2.1 21 = .ok (.ireturn, 1) := by decide +kernel
theorem d_X12_clears_22 : decode mt_X12_clears.2.1 22 = .ok (.aload_n 0, 1) := by decide +kernel
theorem d_X12_clears_23 : decode mt_X12_clears.2.1 23 = .ok (.getfield 35, 3) := by decide +kernel
theorem d_X12_clears_26 : decode mt_X12_clears.2.1 26 = .ok (.bipush 27, 2) := by decide +kernel
theorem d_X12_clears_28 : decode mt_X12_clears.2.1 28 = .ok (.iload_n 1, 1) := by decide +kernel
theorem d_X12_clears_29 : decode mt_X12_clears.2.1 29 = .ok (.iadd, 1) := by decide +kernel
theorem d_X12_clears_30 : decode mt_X12_clears.2.1 30 = .ok (.iconst 0, 1) := by decide +kernel
theorem d_X12_clears_31 : decode mt_X12_clears.2.1 31 = .ok (.iastore, 1) := by decide +kernel
theorem d_X12_clears_32 : decode mt_X12_clears.2.1 32 = .ok (.iconst 1, 1) := by decide +kernel
theorem d_X12_clears_33 : decode mt_X12_clears.2.1 33 = .ok (.ireturn, 1) := by decide +kernel
noncomputable def f_X12_clears_b0 (v0 v1 : Int) (σ : Mem) : Option (Int × Mem) :=
  (f_X12_isStoneAt v0 v1 σ).bind fun r1 =>
  if r1 = 0 then
    some (0, σ)
  else
    (gf Sh σ 12 v0 20).bind fun x3 =>
    (al Sh σ 20 x3 (w32 (27 + v1))).bind fun x4 =>
    if x4 = 0 then
      some (0, σ)
    else
      (gf Sh σ 12 v0 20).bind fun x5 =>
      (st_ Sh σ 20 x5 (w32 (27 + v1)) 0).bind fun σ6 =>
      some (1, σ6)
theorem L_X12_clears_b0 {sc : Nat × (Nat → Int32)} {o : Int × Mem} {v0 v1 : Int} {σ : Mem} (h : f_X12_clears_b0 v0 v1 σ = some o) : E sc (Fm Sh (some (0, o.1)) Sh o.2) mt_X12_clears 2 Sh Sh 0 [(2, v0), (0, v1)] [] Sh σ := by
  unfold f_X12_clears_b0 at h
  refine E_aload_n d_X12_clears_0 rfl (by decide) ?_
  refine E_iload_n d_X12_clears_1 rfl ?_
  refine bd h (fun r1 q2 h => ?_)
  refine E_cV (as := [(0, v1)]) (st := []) (a := v0) d_X12_clears_2 mk_X12_isStoneAt nl_X12_305 (by omega) ⟨rfl, rfl, Nat.le_of_ble_eq_true rfl⟩ okX12 rfl (L_X12_isStoneAt q2) ?_
  refine E_if_eq (tgt := 20) d_X12_clears_5 (by decide) h (fun _ h => ?_) (fun _ h => ?_)
  · refine E_iconst d_X12_clears_20 (c32 rfl) ?_
    cases h
    exact E_zret d_X12_clears_21 rfl (Or.inl rfl)
  · refine E_aload_n d_X12_clears_8 rfl (by decide) ?_
    refine E_get d_X12_clears_9 okX12 fl_X12_35 ⟨by decide, rfl⟩ h (fun x3 h => ?_)
    refine E_bipush d_X12_clears_12 (c8 rfl) ?_
    refine E_iload_n d_X12_clears_14 rfl ?_
    refine E_iadd d_X12_clears_15 ?_
    refine E_iaload d_X12_clears_16 h (fun x4 h => ?_)
    refine E_if_ne (tgt := 22) d_X12_clears_17 (by decide) h (fun _ h => ?_) (fun _ h => ?_)
    · refine E_iconst d_X12_clears_20 (c32 rfl) ?_
      cases h
      exact E_zret d_X12_clears_21 rfl (Or.inl rfl)
    · refine E_aload_n d_X12_clears_22 rfl (by decide) ?_
      refine E_get d_X12_clears_23 okX12 fl_X12_35 ⟨by decide, rfl⟩ h (fun x5 h => ?_)
      refine E_bipush d_X12_clears_26 (c8 rfl) ?_
      refine E_iload_n d_X12_clears_28 rfl ?_
      refine E_iadd d_X12_clears_29 ?_
      refine E_iconst d_X12_clears_30 (c32 rfl) ?_
      refine E_iastore d_X12_clears_31 h (fun σ6 h => ?_)
      refine E_iconst d_X12_clears_32 (c32 rfl) ?_
      cases h
      exact E_zret d_X12_clears_33 rfl (Or.inr rfl)
noncomputable def f_X12_clears (v0 v1 : Int) (σ : Mem) : Option (Int × Mem) := if isO Sh 12 v0 = true then f_X12_clears_b0 v0 v1 σ else none
theorem L_X12_clears {o : Int × Mem} {v0 v1 : Int} {σ : Mem} (h : f_X12_clears v0 v1 σ = some o) : (isO Sh 12 v0 = true ∧ Cn mt_X12_clears 2 [(2, v0), (0, v1)] Sh σ (some (0, o.1)) Sh o.2) := ⟨(ite_ok h).1, Cn_of mk_X12_clears.1.2.2.1 (Nat.le_of_ble_eq_true rfl) (fun sc => L_X12_clears_b0 (ite_ok h).2)⟩
theorem d_X12_clear_0 : decode mt_X12_clear.2.1 0 = .ok (.aload_n 0, 1) := by decide +kernel
theorem d_X12_clear_1 : decode mt_X12_clear.2.1 1 = .ok (.iconst 0, 1) := by decide +kernel
theorem d_X12_clear_2 : decode mt_X12_clear.2.1 2 = .ok (.putfield 70, 3) := by decide +kernel
theorem d_X12_clear_5 : decode mt_X12_clear.2.1 5 = .ok (.aload_n 0, 1) := by decide +kernel
theorem d_X12_clear_6 : decode mt_X12_clear.2.1 6 = .ok (.iconst 0, 1) := by decide +kernel
theorem d_X12_clear_7 : decode mt_X12_clear.2.1 7 = .ok (.putfield 73, 3) := by decide +kernel
theorem d_X12_clear_10 : decode mt_X12_clear.2.1 10 = .ok (.aload_n 0, 1) := by decide +kernel
theorem d_X12_clear_11 : decode mt_X12_clear.2.1 11 = .ok (.iload_n 1, 1) := by decide +kernel
theorem d_X12_clear_12 : decode mt_X12_clear.2.1 12 = .ok (.i2l, 1) := by decide +kernel
theorem d_X12_clear_13 : decode mt_X12_clear.2.1 13 = .ok (.invokevirtual 330, 3) := by decide +kernel
theorem d_X12_clear_16 : decode mt_X12_clear.2.1 16 = .ok (.ifCond .ne 9, 3) := by decide +kernel
theorem d_X12_clear_19 : decode mt_X12_clear.2.1 19 = .ok (.aload_n 0, 1) := by decide +kernel
theorem d_X12_clear_20 : decode mt_X12_clear.2.1 20 = .ok (.iconst 2, 1) := by decide +kernel
theorem d_X12_clear_21 : decode mt_X12_clear.2.1 21 = .ok (.invokevirtual 318, 3) := by decide +kernel
theorem d_X12_clear_24 : decode mt_X12_clear.2.1 24 = .ok (.ireturn, 1) := by decide +kernel
theorem d_X12_clear_25 : decode mt_X12_clear.2.1 25 = .ok (.aload_n 0, 1) := by decide +kernel
theorem d_X12_clear_26 : decode mt_X12_clear.2.1 26 = .ok (.getfield 35, 3) := by decide +kernel
theorem d_X12_clear_29 : decode mt_X12_clear.2.1 29 = .ok (.bipush 27, 2) := by decide +kernel
theorem d_X12_clear_31 : decode mt_X12_clear.2.1 31 = .ok (.iload_n 1, 1) := by decide +kernel
theorem d_X12_clear_32 : decode mt_X12_clear.2.1 32 = .ok (.iadd, 1) := by decide +kernel
theorem d_X12_clear_33 : decode mt_X12_clear.2.1 33 = .ok (.iaload, 1) := by decide +kernel
theorem d_X12_clear_34 : decode mt_X12_clear.2.1 34 = .ok (.istore_n 2, 1) := by decide +kernel
theorem d_X12_clear_35 : decode mt_X12_clear.2.1 35 = .ok (.aload_n 0, 1) := by decide +kernel
theorem d_X12_clear_36 : decode mt_X12_clear.2.1 36 = .ok (.iload_n 1, 1) := by decide +kernel
theorem d_X12_clear_37 : decode mt_X12_clear.2.1 37 = .ok (.invokevirtual 377, 3) := by decide +kernel
theorem d_X12_clear_40 : decode mt_X12_clear.2.1 40 = .ok (.ifCond .eq 7, 3) := by decide +kernel
theorem d_X12_clear_43 : decode mt_X12_clear.2.1 43 = .ok (.iload_n 2, 1) := by decide +kernel
theorem d_X12_clear_44 : decode mt_X12_clear.2.1 44 = .ok (.goto 9, 3) := by decide +kernel
theorem d_X12_clear_47 : decode mt_X12_clear.2.1 47 = .ok (.aload_n 0, 1) := by decide +kernel
theorem d_X12_clear_48 : decode mt_X12_clear.2.1 48 = .ok (.bipush 8, 2) := by decide +kernel
theorem d_X12_clear_50 : decode mt_X12_clear.2.1 50 = .ok (.invokevirtual 318, 3) := by decide +kernel
theorem d_X12_clear_53 : decode mt_X12_clear.2.1 53 = .ok (.ireturn, 1) := by decide +kernel
noncomputable def f_X12_clear_b0 (v0 v1 : Int) (σ : Mem) : Option (Int × Mem) :=
  (pf Sh σ 12 v0 1 0).bind fun σ1 =>
  (pf Sh σ1 12 v0 0 0).bind fun σ2 =>
  (f_X12_isPlaceAt v0 v1 σ2).bind fun r3 =>
  if r3 = 0 then
    (f_X12_refuse v0 2 σ2).bind fun r5 =>
    some (r5.1, r5.2)
  else
    (gf Sh σ2 12 v0 20).bind fun x7 =>
    (al Sh σ2 20 x7 (w32 (27 + v1))).bind fun x8 =>
    (f_X12_clears v0 v1 σ2).bind fun r9 =>
    if r9.1 = 0 then
      (f_X12_refuse v0 8 r9.2).bind fun r11 =>
      some (r11.1, r11.2)
    else
      some (x8, r9.2)
theorem L_X12_clear_b0 {sc : Nat × (Nat → Int32)} {o : Int × Mem} {v0 v1 : Int} {σ : Mem} (h : f_X12_clear_b0 v0 v1 σ = some o) : E sc (Fm Sh (some (0, o.1)) Sh o.2) mt_X12_clear 3 Sh Sh 0 [(2, v0), (0, v1), (9, 0)] [] Sh σ := by
  unfold f_X12_clear_b0 at h
  refine E_aload_n d_X12_clear_0 rfl (by decide) ?_
  refine E_iconst d_X12_clear_1 (c32 rfl) ?_
  refine E_put d_X12_clear_2 okX12 fl_X12_70 ⟨by decide, rfl⟩ (Or.inl ⟨rfl, rfl⟩) (Or.inl rfl) h (fun σ1 h => ?_)
  refine E_aload_n d_X12_clear_5 rfl (by decide) ?_
  refine E_iconst d_X12_clear_6 (c32 rfl) ?_
  refine E_put d_X12_clear_7 okX12 fl_X12_73 ⟨by decide, rfl⟩ (Or.inl ⟨rfl, rfl⟩) (Or.inl rfl) h (fun σ2 h => ?_)
  refine E_aload_n d_X12_clear_10 rfl (by decide) ?_
  refine E_iload_n d_X12_clear_11 rfl ?_
  refine E_i2l d_X12_clear_12 ?_
  refine bd h (fun r3 q4 h => ?_)
  refine E_cV (as := [(1, v1)]) (st := []) (a := v0) d_X12_clear_13 mk_X12_isPlaceAt nl_X12_330 (by omega) ⟨rfl, rfl, Nat.le_of_ble_eq_true rfl⟩ okX12 rfl (L_X12_isPlaceAt q4) ?_
  refine E_if_ne (tgt := 25) d_X12_clear_16 (by decide) h (fun _ h => ?_) (fun _ h => ?_)
  · refine E_aload_n d_X12_clear_19 rfl (by decide) ?_
    refine E_iconst d_X12_clear_20 (c32 rfl) ?_
    refine bd h (fun r5 q6 h => ?_)
    refine E_cV (as := [(0, 2)]) (st := []) (a := v0) d_X12_clear_21 mk_X12_refuse nl_X12_318 (by omega) ⟨rfl, rfl, Nat.le_of_ble_eq_true rfl⟩ okX12 rfl (L_X12_refuse q6) ?_
    cases h
    exact E_iret d_X12_clear_24 rfl
  · refine E_aload_n d_X12_clear_25 rfl (by decide) ?_
    refine E_get d_X12_clear_26 okX12 fl_X12_35 ⟨by decide, rfl⟩ h (fun x7 h => ?_)
    refine E_bipush d_X12_clear_29 (c8 rfl) ?_
    refine E_iload_n d_X12_clear_31 rfl ?_
    refine E_iadd d_X12_clear_32 ?_
    refine E_iaload d_X12_clear_33 h (fun x8 h => ?_)
    refine E_istore_n d_X12_clear_34 (ls' := [(2, v0), (0, v1), (0, x8)]) ⟨by decide, rfl⟩ ?_
    refine E_aload_n d_X12_clear_35 rfl (by decide) ?_
    refine E_iload_n d_X12_clear_36 rfl ?_
    refine bd h (fun r9 q10 h => ?_)
    refine E_cV (as := [(0, v1)]) (st := []) (a := v0) d_X12_clear_37 mk_X12_clears nl_X12_377 (by omega) ⟨rfl, rfl, Nat.le_of_ble_eq_true rfl⟩ okX12 rfl (L_X12_clears q10) ?_
    refine E_if_eq (tgt := 47) d_X12_clear_40 (by decide) h (fun _ h => ?_) (fun _ h => ?_)
    · refine E_aload_n d_X12_clear_47 rfl (by decide) ?_
      refine E_bipush d_X12_clear_48 (c8 rfl) ?_
      refine bd h (fun r11 q12 h => ?_)
      refine E_cV (as := [(0, 8)]) (st := []) (a := v0) d_X12_clear_50 mk_X12_refuse nl_X12_318 (by omega) ⟨rfl, rfl, Nat.le_of_ble_eq_true rfl⟩ okX12 rfl (L_X12_refuse q12) ?_
      cases h
      exact E_iret d_X12_clear_53 rfl
    · refine E_iload_n d_X12_clear_43 rfl ?_
      refine E_goto (tgt := 53) d_X12_clear_44 (by decide) ?_
      cases h
      exact E_iret d_X12_clear_53 rfl
noncomputable def f_X12_clear (v0 v1 : Int) (σ : Mem) : Option (Int × Mem) := if isO Sh 12 v0 = true then f_X12_clear_b0 v0 v1 σ else none
theorem L_X12_clear {o : Int × Mem} {v0 v1 : Int} {σ : Mem} (h : f_X12_clear v0 v1 σ = some o) : (isO Sh 12 v0 = true ∧ Cn mt_X12_clear 3 [(2, v0), (0, v1)] Sh σ (some (0, o.1)) Sh o.2) := ⟨(ite_ok h).1, Cn_of mk_X12_clear.1.2.2.1 (Nat.le_of_ble_eq_true rfl) (fun sc => L_X12_clear_b0 (ite_ok h).2)⟩
theorem d_X12_open_0 : decode mt_X12_open.2.1 0 = .ok (.aload_n 0, 1) := by decide +kernel
theorem d_X12_open_1 : decode mt_X12_open.2.1 1 = .ok (.iconst 0, 1) := by decide +kernel
theorem d_X12_open_2 : decode mt_X12_open.2.1 2 = .ok (.putfield 70, 3) := by decide +kernel
theorem d_X12_open_5 : decode mt_X12_open.2.1 5 = .ok (.aload_n 0, 1) := by decide +kernel
theorem d_X12_open_6 : decode mt_X12_open.2.1 6 = .ok (.iconst 0, 1) := by decide +kernel
theorem d_X12_open_7 : decode mt_X12_open.2.1 7 = .ok (.putfield 73, 3) := by decide +kernel
theorem d_X12_open_10 : decode mt_X12_open.2.1 10 = .ok (.aload_n 0, 1) := by decide +kernel
theorem d_X12_open_11 : decode mt_X12_open.2.1 11 = .ok (.iload_n 1, 1) := by decide +kernel
theorem d_X12_open_12 : decode mt_X12_open.2.1 12 = .ok (.i2l, 1) := by decide +kernel
theorem d_X12_open_13 : decode mt_X12_open.2.1 13 = .ok (.invokevirtual 330, 3) := by decide +kernel
theorem d_X12_open_16 : decode mt_X12_open.2.1 16 = .ok (.ifCond .ne 9, 3) := by decide +kernel
theorem d_X12_open_19 : decode mt_X12_open.2.1 19 = .ok (.aload_n 0, 1) := by decide +kernel
theorem d_X12_open_20 : decode mt_X12_open.2.1 20 = .ok (.iconst 2, 1) := by decide +kernel
theorem d_X12_open_21 : decode mt_X12_open.2.1 21 = .ok (.invokevirtual 85, 3) := by decide +kernel
theorem d_X12_open_24 : decode mt_X12_open.2.1 24 = .ok (.ireturn, 1) := by decide +kernel
theorem d_X12_open_25 : decode mt_X12_open.2.1 25 = .ok (.aload_n 0, 1) := by decide +kernel
theorem d_X12_open_26 : decode mt_X12_open.2.1 26 = .ok (.iload_n 1, 1) := by decide +kernel
theorem d_X12_open_27 : decode mt_X12_open.2.1 27 = .ok (.invokevirtual 305, 3) := by decide +kernel
theorem d_X12_open_30 : decode mt_X12_open.2.1 30 = .ok (.ifCond .ne 10, 3) := by decide +kernel
theorem d_X12_open_33 : decode mt_X12_open.2.1 33 = .ok (.aload_n 0, 1) := by decide +kernel
theorem d_X12_open_34 : decode mt_X12_open.2.1 34 = .ok (.bipush 8, 2) := by decide +kernel
theorem d_X12_open_36 : decode mt_X12_open.2.1 36 = .ok (.invokevirtual 85, 3) := by decide +kernel
theorem d_X12_open_39 : decode mt_X12_open.2.1 39 = .ok (.ireturn, 1) := by decide +kernel
theorem d_X12_open_40 : decode mt_X12_open.2.1 40 = .ok (.aload_n 0, 1) := by decide +kernel
theorem d_X12_open_41 : decode mt_X12_open.2.1 41 = .ok (.iload_n 1, 1) := by decide +kernel
theorem d_X12_open_42 : decode mt_X12_open.2.1 42 = .ok (.invokevirtual 360, 3) := by decide +kernel
theorem d_X12_open_45 : decode mt_X12_open.2.1 45 = .ok (.iconst 1, 1) := by decide +kernel
theorem d_X12_open_46 : decode mt_X12_open.2.1 46 = .ok (.ireturn, 1) := by decide +kernel
noncomputable def f_X12_open_b0 (v0 v1 : Int) (σ : Mem) : Option (Int × Mem) :=
  (pf Sh σ 12 v0 1 0).bind fun σ1 =>
  (pf Sh σ1 12 v0 0 0).bind fun σ2 =>
  (f_X12_isPlaceAt v0 v1 σ2).bind fun r3 =>
  if r3 = 0 then
    (f_X12_no v0 2 σ2).bind fun r5 =>
    (bz r5.1).bind fun _ =>
    some (r5.1, r5.2)
  else
    (f_X12_isStoneAt v0 v1 σ2).bind fun r8 =>
    if r8 = 0 then
      (f_X12_no v0 8 σ2).bind fun r10 =>
      (bz r10.1).bind fun _ =>
      some (r10.1, r10.2)
    else
      (f_X12_falls v0 v1 σ2).bind fun r13 =>
      some (1, r13)
theorem L_X12_open_b0 {sc : Nat × (Nat → Int32)} {o : Int × Mem} {v0 v1 : Int} {σ : Mem} (h : f_X12_open_b0 v0 v1 σ = some o) : E sc (Fm Sh (some (0, o.1)) Sh o.2) mt_X12_open 3 Sh Sh 0 [(2, v0), (0, v1)] [] Sh σ := by
  unfold f_X12_open_b0 at h
  refine E_aload_n d_X12_open_0 rfl (by decide) ?_
  refine E_iconst d_X12_open_1 (c32 rfl) ?_
  refine E_put d_X12_open_2 okX12 fl_X12_70 ⟨by decide, rfl⟩ (Or.inl ⟨rfl, rfl⟩) (Or.inl rfl) h (fun σ1 h => ?_)
  refine E_aload_n d_X12_open_5 rfl (by decide) ?_
  refine E_iconst d_X12_open_6 (c32 rfl) ?_
  refine E_put d_X12_open_7 okX12 fl_X12_73 ⟨by decide, rfl⟩ (Or.inl ⟨rfl, rfl⟩) (Or.inl rfl) h (fun σ2 h => ?_)
  refine E_aload_n d_X12_open_10 rfl (by decide) ?_
  refine E_iload_n d_X12_open_11 rfl ?_
  refine E_i2l d_X12_open_12 ?_
  refine bd h (fun r3 q4 h => ?_)
  refine E_cV (as := [(1, v1)]) (st := []) (a := v0) d_X12_open_13 mk_X12_isPlaceAt nl_X12_330 (by omega) ⟨rfl, rfl, Nat.le_of_ble_eq_true rfl⟩ okX12 rfl (L_X12_isPlaceAt q4) ?_
  refine E_if_ne (tgt := 25) d_X12_open_16 (by decide) h (fun _ h => ?_) (fun _ h => ?_)
  · refine E_aload_n d_X12_open_19 rfl (by decide) ?_
    refine E_iconst d_X12_open_20 (c32 rfl) ?_
    refine bd h (fun r5 q6 h => ?_)
    refine E_cV (as := [(0, 2)]) (st := []) (a := v0) d_X12_open_21 mk_X12_no nl_X12_85 (by omega) ⟨rfl, rfl, Nat.le_of_ble_eq_true rfl⟩ okX12 rfl (L_X12_no q6) ?_
    refine bd_bz h (fun q7 h => ?_)
    cases h
    exact E_zret d_X12_open_24 rfl q7
  · refine E_aload_n d_X12_open_25 rfl (by decide) ?_
    refine E_iload_n d_X12_open_26 rfl ?_
    refine bd h (fun r8 q9 h => ?_)
    refine E_cV (as := [(0, v1)]) (st := []) (a := v0) d_X12_open_27 mk_X12_isStoneAt nl_X12_305 (by omega) ⟨rfl, rfl, Nat.le_of_ble_eq_true rfl⟩ okX12 rfl (L_X12_isStoneAt q9) ?_
    refine E_if_ne (tgt := 40) d_X12_open_30 (by decide) h (fun _ h => ?_) (fun _ h => ?_)
    · refine E_aload_n d_X12_open_33 rfl (by decide) ?_
      refine E_bipush d_X12_open_34 (c8 rfl) ?_
      refine bd h (fun r10 q11 h => ?_)
      refine E_cV (as := [(0, 8)]) (st := []) (a := v0) d_X12_open_36 mk_X12_no nl_X12_85 (by omega) ⟨rfl, rfl, Nat.le_of_ble_eq_true rfl⟩ okX12 rfl (L_X12_no q11) ?_
      refine bd_bz h (fun q12 h => ?_)
      cases h
      exact E_zret d_X12_open_39 rfl q12
    · refine E_aload_n d_X12_open_40 rfl (by decide) ?_
      refine E_iload_n d_X12_open_41 rfl ?_
      refine bd h (fun r13 q14 h => ?_)
      refine E_cVv (as := [(0, v1)]) (st := []) (a := v0) d_X12_open_42 mk_X12_falls nl_X12_360 (by omega) ⟨rfl, rfl, Nat.le_of_ble_eq_true rfl⟩ okX12 rfl (L_X12_falls q14) ?_
      refine E_iconst d_X12_open_45 (c32 rfl) ?_
      cases h
      exact E_zret d_X12_open_46 rfl (Or.inr rfl)
noncomputable def f_X12_open (v0 v1 : Int) (σ : Mem) : Option (Int × Mem) := if isO Sh 12 v0 = true then f_X12_open_b0 v0 v1 σ else none
theorem L_X12_open {o : Int × Mem} {v0 v1 : Int} {σ : Mem} (h : f_X12_open v0 v1 σ = some o) : (isO Sh 12 v0 = true ∧ Cn mt_X12_open 3 [(2, v0), (0, v1)] Sh σ (some (0, o.1)) Sh o.2) := ⟨(ite_ok h).1, Cn_of mk_X12_open.1.2.2.1 (Nat.le_of_ble_eq_true rfl) (fun sc => L_X12_open_b0 (ite_ok h).2)⟩
theorem d_X12_mend_0 : decode mt_X12_mend.2.1 0 = .ok (.aload_n 0, 1) := by decide +kernel
theorem d_X12_mend_1 : decode mt_X12_mend.2.1 1 = .ok (.iconst 0, 1) := by decide +kernel
theorem d_X12_mend_2 : decode mt_X12_mend.2.1 2 = .ok (.putfield 70, 3) := by decide +kernel
theorem d_X12_mend_5 : decode mt_X12_mend.2.1 5 = .ok (.aload_n 0, 1) := by decide +kernel
theorem d_X12_mend_6 : decode mt_X12_mend.2.1 6 = .ok (.iconst 0, 1) := by decide +kernel
theorem d_X12_mend_7 : decode mt_X12_mend.2.1 7 = .ok (.putfield 73, 3) := by decide +kernel
theorem d_X12_mend_10 : decode mt_X12_mend.2.1 10 = .ok (.aload_n 0, 1) := by decide +kernel
theorem d_X12_mend_11 : decode mt_X12_mend.2.1 11 = .ok (.iload_n 1, 1) := by decide +kernel
theorem d_X12_mend_12 : decode mt_X12_mend.2.1 12 = .ok (.i2l, 1) := by decide +kernel
theorem d_X12_mend_13 : decode mt_X12_mend.2.1 13 = .ok (.invokevirtual 330, 3) := by decide +kernel
theorem d_X12_mend_16 : decode mt_X12_mend.2.1 16 = .ok (.ifCond .ne 9, 3) := by decide +kernel
theorem d_X12_mend_19 : decode mt_X12_mend.2.1 19 = .ok (.aload_n 0, 1) := by decide +kernel
theorem d_X12_mend_20 : decode mt_X12_mend.2.1 20 = .ok (.iconst 2, 1) := by decide +kernel
theorem d_X12_mend_21 : decode mt_X12_mend.2.1 21 = .ok (.invokevirtual 85, 3) := by decide +kernel
theorem d_X12_mend_24 : decode mt_X12_mend.2.1 24 = .ok (.ireturn, 1) := by decide +kernel
theorem d_X12_mend_25 : decode mt_X12_mend.2.1 25 = .ok (.iload_n 2, 1) := by decide +kernel
theorem d_X12_mend_26 : decode mt_X12_mend.2.1 26 = .ok (.i2l, 1) := by decide +kernel
theorem d_X12_mend_27 : decode mt_X12_mend.2.1 27 = .ok (.lconst 0, 1) := by decide +kernel
theorem d_X12_mend_28 : decode mt_X12_mend.2.1 28 = .ok (.ldc2_w 375, 3) := by decide +kernel
theorem d_X12_mend_31 : decode mt_X12_mend.2.1 31 = .ok (.invokestatic 104, 3) := by decide +kernel
theorem d_X12_mend_34 : decode mt_X12_mend.2.1 34 = .ok (.ifCond .eq 15, 3) := by decide +kernel
theorem d_X12_mend_37 : decode mt_X12_mend.2.1 37 = .ok (.iload_n 3, 1) := by decide +kernel
theorem d_X12_mend_38 : decode mt_X12_mend.2.1 38 = .ok (.i2l, 1) := by decide +kernel
theorem d_X12_mend_39 : decode mt_X12_mend.2.1 39 = .ok (.lconst 1, 1) := by decide +kernel
theorem d_X12_mend_40 : decode mt_X12_mend.2.1 40 = .ok (.ldc2_w 316, 3) := by decide +kernel
theorem d_X12_mend_43 : decode mt_X12_mend.2.1 43 = .ok (.invokestatic 104, 3) := by decide +kernel
theorem d_X12_mend_46 : decode mt_X12_mend.2.1 46 = .ok (.ifCond .ne 9, 3) := by decide +kernel
theorem d_X12_mend_49 : decode mt_X12_mend.2.1 49 = .ok (.aload_n 0, 1) := by decide +kernel
theorem d_X12_mend_50 : decode mt_X12_mend.2.1 50 = .ok (.iconst 5, 1) := by decide +kernel
theorem d_X12_mend_51 : decode mt_X12_mend.2.1 51 = .ok (.invokevirtual 85, 3) := by decide +kernel
theorem d_X12_mend_54 : decode mt_X12_mend.2.1 54 = .ok (.ireturn, 1) := by decide +kernel
theorem d_X12_mend_55 : decode mt_X12_mend.2.1 55 = .ok (.aload_n 0, 1) := by decide +kernel
theorem d_X12_mend_56 : decode mt_X12_mend.2.1 56 = .ok (.iload_n 1, 1) := by decide +kernel
theorem d_X12_mend_57 : decode mt_X12_mend.2.1 57 = .ok (.invokevirtual 305, 3) := by decide +kernel
theorem d_X12_mend_60 : decode mt_X12_mend.2.1 60 = .ok (.ifCond .eq 10, 3) := by decide +kernel
theorem d_X12_mend_63 : decode mt_X12_mend.2.1 63 = .ok (.aload_n 0, 1) := by decide +kernel
theorem d_X12_mend_64 : decode mt_X12_mend.2.1 64 = .ok (.bipush 9, 2) := by decide +kernel
theorem d_X12_mend_66 : decode mt_X12_mend.2.1 66 = .ok (.invokevirtual 85, 3) := by decide +kernel
theorem d_X12_mend_69 : decode mt_X12_mend.2.1 69 = .ok (.ireturn, 1) := by decide +kernel
theorem d_X12_mend_70 : decode mt_X12_mend.2.1 70 = .ok (.aload_n 0, 1) := by decide +kernel
theorem d_X12_mend_71 : decode mt_X12_mend.2.1 71 = .ok (.iconst 0, 1) := by decide +kernel
theorem d_X12_mend_72 : decode mt_X12_mend.2.1 72 = .ok (.iload_n 1, 1) := by decide +kernel
theorem d_X12_mend_73 : decode mt_X12_mend.2.1 73 = .ok (.iload_n 2, 1) := by decide +kernel
theorem d_X12_mend_74 : decode mt_X12_mend.2.1 74 = .ok (.iload_n 3, 1) := by decide +kernel
theorem d_X12_mend_75 : decode mt_X12_mend.2.1 75 = .ok (.invokevirtual 253, 3) := by decide +kernel
theorem d_X12_mend_78 : decode mt_X12_mend.2.1 78 = .ok (.iconst 1, 1) := by decide +kernel
theorem d_X12_mend_79 : decode mt_X12_mend.2.1 79 = .ok (.ireturn, 1) := by decide +kernel
noncomputable def f_X12_mend_b49 (v0 : Int) (σ : Mem) : Option (Int × Mem) :=
  (f_X12_no v0 5 σ).bind fun r19 =>
  (bz r19.1).bind fun _ =>
  some (r19.1, r19.2)
theorem L_X12_mend_b49 {sc : Nat × (Nat → Int32)} {o : Int × Mem} {v0 : Int} {σ : Mem} (h : f_X12_mend_b49 v0 σ = some o) : E sc (Fm Sh (some (0, o.1)) Sh o.2) mt_X12_mend 3 Sh Sh 49 [(2, v0), (9, 0), (9, 0), (9, 0)] [] Sh σ := by
  unfold f_X12_mend_b49 at h
  refine E_aload_n d_X12_mend_49 rfl (by decide) ?_
  refine E_iconst d_X12_mend_50 (c32 rfl) ?_
  refine bd h (fun r19 q20 h => ?_)
  refine E_cV (as := [(0, 5)]) (st := []) (a := v0) d_X12_mend_51 mk_X12_no nl_X12_85 (by omega) ⟨rfl, rfl, Nat.le_of_ble_eq_true rfl⟩ okX12 rfl (L_X12_no q20) ?_
  refine bd_bz h (fun q21 h => ?_)
  cases h
  exact E_zret d_X12_mend_54 rfl q21
noncomputable def f_X12_mend_b0 (v0 v1 v2 v3 : Int) (σ : Mem) : Option (Int × Mem) :=
  (pf Sh σ 12 v0 1 0).bind fun σ1 =>
  (pf Sh σ1 12 v0 0 0).bind fun σ2 =>
  (f_X12_isPlaceAt v0 v1 σ2).bind fun r3 =>
  if r3 = 0 then
    (f_X12_no v0 2 σ2).bind fun r5 =>
    (bz r5.1).bind fun _ =>
    some (r5.1, r5.2)
  else
    (f_X12_isIn v2 0 30 σ2).bind fun r8 =>
    if r8 = 0 then
      f_X12_mend_b49 v0 σ2
    else
      (f_X12_isIn v3 1 9 σ2).bind fun r10 =>
      if r10 = 0 then
        f_X12_mend_b49 v0 σ2
      else
        (f_X12_isStoneAt v0 v1 σ2).bind fun r12 =>
        if r12 = 0 then
          (f_X12_sets v0 0 v1 v2 v3 σ2).bind fun r14 =>
          some (1, r14)
        else
          (f_X12_no v0 9 σ2).bind fun r16 =>
          (bz r16.1).bind fun _ =>
          some (r16.1, r16.2)
theorem L_X12_mend_b0 {sc : Nat × (Nat → Int32)} {o : Int × Mem} {v0 v1 v2 v3 : Int} {σ : Mem} (h : f_X12_mend_b0 v0 v1 v2 v3 σ = some o) : E sc (Fm Sh (some (0, o.1)) Sh o.2) mt_X12_mend 3 Sh Sh 0 [(2, v0), (0, v1), (0, v2), (0, v3)] [] Sh σ := by
  unfold f_X12_mend_b0 at h
  refine E_aload_n d_X12_mend_0 rfl (by decide) ?_
  refine E_iconst d_X12_mend_1 (c32 rfl) ?_
  refine E_put d_X12_mend_2 okX12 fl_X12_70 ⟨by decide, rfl⟩ (Or.inl ⟨rfl, rfl⟩) (Or.inl rfl) h (fun σ1 h => ?_)
  refine E_aload_n d_X12_mend_5 rfl (by decide) ?_
  refine E_iconst d_X12_mend_6 (c32 rfl) ?_
  refine E_put d_X12_mend_7 okX12 fl_X12_73 ⟨by decide, rfl⟩ (Or.inl ⟨rfl, rfl⟩) (Or.inl rfl) h (fun σ2 h => ?_)
  refine E_aload_n d_X12_mend_10 rfl (by decide) ?_
  refine E_iload_n d_X12_mend_11 rfl ?_
  refine E_i2l d_X12_mend_12 ?_
  refine bd h (fun r3 q4 h => ?_)
  refine E_cV (as := [(1, v1)]) (st := []) (a := v0) d_X12_mend_13 mk_X12_isPlaceAt nl_X12_330 (by omega) ⟨rfl, rfl, Nat.le_of_ble_eq_true rfl⟩ okX12 rfl (L_X12_isPlaceAt q4) ?_
  refine E_if_ne (tgt := 25) d_X12_mend_16 (by decide) h (fun _ h => ?_) (fun _ h => ?_)
  · refine E_aload_n d_X12_mend_19 rfl (by decide) ?_
    refine E_iconst d_X12_mend_20 (c32 rfl) ?_
    refine bd h (fun r5 q6 h => ?_)
    refine E_cV (as := [(0, 2)]) (st := []) (a := v0) d_X12_mend_21 mk_X12_no nl_X12_85 (by omega) ⟨rfl, rfl, Nat.le_of_ble_eq_true rfl⟩ okX12 rfl (L_X12_no q6) ?_
    refine bd_bz h (fun q7 h => ?_)
    cases h
    exact E_zret d_X12_mend_24 rfl q7
  · refine E_iload_n d_X12_mend_25 rfl ?_
    refine E_i2l d_X12_mend_26 ?_
    refine E_lconst d_X12_mend_27 cl0 ?_
    refine E_ldc2 d_X12_mend_28 kw_X12_375 ?_
    refine bd h (fun r8 q9 h => ?_)
    refine E_cS (as := [(1, v2), (1, 0), (1, 30)]) (st := []) d_X12_mend_31 mk_X12_isIn nl_X12_104 (by omega) ⟨rfl, rfl, Nat.le_of_ble_eq_true rfl⟩ (L_X12_isIn q9) ?_
    refine E_if_eq (tgt := 49) d_X12_mend_34 (by decide) h (fun _ h => ?_) (fun _ h => ?_)
    · exact E_weak (ls' := [(2, v0), (9, 0), (9, 0), (9, 0)]) ⟨Or.inr rfl, Or.inl rfl, Or.inl rfl, Or.inl rfl, trivial⟩ (L_X12_mend_b49 h)
    · refine E_iload_n d_X12_mend_37 rfl ?_
      refine E_i2l d_X12_mend_38 ?_
      refine E_lconst d_X12_mend_39 cl1 ?_
      refine E_ldc2 d_X12_mend_40 kw_X12_316 ?_
      refine bd h (fun r10 q11 h => ?_)
      refine E_cS (as := [(1, v3), (1, 1), (1, 9)]) (st := []) d_X12_mend_43 mk_X12_isIn nl_X12_104 (by omega) ⟨rfl, rfl, Nat.le_of_ble_eq_true rfl⟩ (L_X12_isIn q11) ?_
      refine E_if_ne (tgt := 55) d_X12_mend_46 (by decide) h (fun _ h => ?_) (fun _ h => ?_)
      · exact E_weak (ls' := [(2, v0), (9, 0), (9, 0), (9, 0)]) ⟨Or.inr rfl, Or.inl rfl, Or.inl rfl, Or.inl rfl, trivial⟩ (L_X12_mend_b49 h)
      · refine E_aload_n d_X12_mend_55 rfl (by decide) ?_
        refine E_iload_n d_X12_mend_56 rfl ?_
        refine bd h (fun r12 q13 h => ?_)
        refine E_cV (as := [(0, v1)]) (st := []) (a := v0) d_X12_mend_57 mk_X12_isStoneAt nl_X12_305 (by omega) ⟨rfl, rfl, Nat.le_of_ble_eq_true rfl⟩ okX12 rfl (L_X12_isStoneAt q13) ?_
        refine E_if_eq (tgt := 70) d_X12_mend_60 (by decide) h (fun _ h => ?_) (fun _ h => ?_)
        · refine E_aload_n d_X12_mend_70 rfl (by decide) ?_
          refine E_iconst d_X12_mend_71 (c32 rfl) ?_
          refine E_iload_n d_X12_mend_72 rfl ?_
          refine E_iload_n d_X12_mend_73 rfl ?_
          refine E_iload_n d_X12_mend_74 rfl ?_
          refine bd h (fun r14 q15 h => ?_)
          refine E_cVv (as := [(0, 0), (0, v1), (0, v2), (0, v3)]) (st := []) (a := v0) d_X12_mend_75 mk_X12_sets nl_X12_253 (by omega) ⟨rfl, rfl, Nat.le_of_ble_eq_true rfl⟩ okX12 rfl (L_X12_sets q15) ?_
          refine E_iconst d_X12_mend_78 (c32 rfl) ?_
          cases h
          exact E_zret d_X12_mend_79 rfl (Or.inr rfl)
        · refine E_aload_n d_X12_mend_63 rfl (by decide) ?_
          refine E_bipush d_X12_mend_64 (c8 rfl) ?_
          refine bd h (fun r16 q17 h => ?_)
          refine E_cV (as := [(0, 9)]) (st := []) (a := v0) d_X12_mend_66 mk_X12_no nl_X12_85 (by omega) ⟨rfl, rfl, Nat.le_of_ble_eq_true rfl⟩ okX12 rfl (L_X12_no q17) ?_
          refine bd_bz h (fun q18 h => ?_)
          cases h
          exact E_zret d_X12_mend_69 rfl q18
noncomputable def f_X12_mend (v0 v1 v2 v3 : Int) (σ : Mem) : Option (Int × Mem) := if isO Sh 12 v0 = true then f_X12_mend_b0 v0 v1 v2 v3 σ else none
theorem L_X12_mend {o : Int × Mem} {v0 v1 v2 v3 : Int} {σ : Mem} (h : f_X12_mend v0 v1 v2 v3 σ = some o) : (isO Sh 12 v0 = true ∧ Cn mt_X12_mend 3 [(2, v0), (0, v1), (0, v2), (0, v3)] Sh σ (some (0, o.1)) Sh o.2) := ⟨(ite_ok h).1, Cn_of mk_X12_mend.1.2.2.1 (Nat.le_of_ble_eq_true rfl) (fun sc => L_X12_mend_b0 (ite_ok h).2)⟩
theorem d_X12_flies_0 : decode mt_X12_flies.2.1 0 = .ok (.aload_n 0, 1) := by decide +kernel
theorem d_X12_flies_1 : decode mt_X12_flies.2.1 1 = .ok (.iload_n 2, 1) := by decide +kernel
theorem d_X12_flies_2 : decode mt_X12_flies.2.1 2 = .ok (.invokevirtual 305, 3) := by decide +kernel
theorem d_X12_flies_5 : decode mt_X12_flies.2.1 5 = .ok (.ifCond .eq 16, 3) := by decide +kernel
theorem d_X12_flies_8 : decode mt_X12_flies.2.1 8 = .ok (.aload_n 0, 1) := by decide +kernel
theorem d_X12_flies_9 : decode mt_X12_flies.2.1 9 = .ok (.getfield 35, 3) := by decide +kernel
theorem d_X12_flies_12 : decode mt_X12_flies.2.1 12 = .ok (.bipush 47, 2) := by decide +kernel
theorem d_X12_flies_14 : decode mt_X12_flies.2.1 14 = .ok (.iload_n 1, 1) := by decide +kernel
theorem d_X12_flies_15 : decode mt_X12_flies.2.1 15 = .ok (.iadd, 1) := by decide +kernel
theorem d_X12_flies_16 : decode mt_X12_flies.2.1 16 = .ok (.iaload, 1) := by decide +kernel
theorem d_X12_flies_17 : decode mt_X12_flies.2.1 17 = .ok (.iload_n 2, 1) := by decide +kernel
theorem d_X12_flies_18 : decode mt_X12_flies.2.1 18 = .ok (.if_icmp .ne 5, 3) := by decide +kernel
theorem d_X12_flies_21 : decode mt_X12_flies.2.1 21 = .ok (.iconst 0, 1) := by decide +kernel
theorem d_X12_flies_22 : decode mt_X12_flies.2.1 22 = .ok (.ireturn, 1) := by decide +kernel
theorem d_X12_flies_23 : decode mt_X12_flies.2.1 23 = .ok (.aload_n 0, 1) := by decide +kernel
theorem d_X12_flies_24 : decode mt_X12_flies.2.1 24 = .ok (.getfield 35, 3) := by decide +kernel
theorem d_X12_flies_27 : decode mt_X12_flies.2.1 27 = .ok (.bipush 47, 2) := by decide +kernel
theorem d_X12_flies_29 : decode mt_X12_flies.2.1 29 = .ok (.iload_n 1, 1) := by decide +kernel
theorem d_X12_flies_30 : decode mt_X12_flies.2.1 30 = .ok (.iadd, 1) := by decide +kernel
theorem d_X12_flies_31 : decode mt_X12_flies.2.1 31 = .ok (.iload_n 2, 1) := by decide +kernel
theorem d_X12_flies_32 : decode mt_X12_flies.2.1 32 = .ok (.iastore, 1) := by decide +kernel
theorem d_X12_flies_33 : decode mt_X12_flies.2.1 33 = .ok (.iconst 1, 1) := by decide +kernel
theorem d_X12_flies_34 : decode mt_X12_flies.2.1 34 = .ok (.ireturn, 1) := by decide +kernel
noncomputable def f_X12_flies_b0 (v0 v1 v2 : Int) (σ : Mem) : Option (Int × Mem) :=
  (f_X12_isStoneAt v0 v2 σ).bind fun r1 =>
  if r1 = 0 then
    some (0, σ)
  else
    (gf Sh σ 12 v0 20).bind fun x3 =>
    (al Sh σ 20 x3 (w32 (47 + v1))).bind fun x4 =>
    if x4 = v2 then
      some (0, σ)
    else
      (gf Sh σ 12 v0 20).bind fun x5 =>
      (st_ Sh σ 20 x5 (w32 (47 + v1)) v2).bind fun σ6 =>
      some (1, σ6)
theorem L_X12_flies_b0 {sc : Nat × (Nat → Int32)} {o : Int × Mem} {v0 v1 v2 : Int} {σ : Mem} (h : f_X12_flies_b0 v0 v1 v2 σ = some o) : E sc (Fm Sh (some (0, o.1)) Sh o.2) mt_X12_flies 2 Sh Sh 0 [(2, v0), (0, v1), (0, v2)] [] Sh σ := by
  unfold f_X12_flies_b0 at h
  refine E_aload_n d_X12_flies_0 rfl (by decide) ?_
  refine E_iload_n d_X12_flies_1 rfl ?_
  refine bd h (fun r1 q2 h => ?_)
  refine E_cV (as := [(0, v2)]) (st := []) (a := v0) d_X12_flies_2 mk_X12_isStoneAt nl_X12_305 (by omega) ⟨rfl, rfl, Nat.le_of_ble_eq_true rfl⟩ okX12 rfl (L_X12_isStoneAt q2) ?_
  refine E_if_eq (tgt := 21) d_X12_flies_5 (by decide) h (fun _ h => ?_) (fun _ h => ?_)
  · refine E_iconst d_X12_flies_21 (c32 rfl) ?_
    cases h
    exact E_zret d_X12_flies_22 rfl (Or.inl rfl)
  · refine E_aload_n d_X12_flies_8 rfl (by decide) ?_
    refine E_get d_X12_flies_9 okX12 fl_X12_35 ⟨by decide, rfl⟩ h (fun x3 h => ?_)
    refine E_bipush d_X12_flies_12 (c8 rfl) ?_
    refine E_iload_n d_X12_flies_14 rfl ?_
    refine E_iadd d_X12_flies_15 ?_
    refine E_iaload d_X12_flies_16 h (fun x4 h => ?_)
    refine E_iload_n d_X12_flies_17 rfl ?_
    refine E_icmp_ne (tgt := 23) d_X12_flies_18 (by decide) h (fun _ h => ?_) (fun _ h => ?_)
    · refine E_iconst d_X12_flies_21 (c32 rfl) ?_
      cases h
      exact E_zret d_X12_flies_22 rfl (Or.inl rfl)
    · refine E_aload_n d_X12_flies_23 rfl (by decide) ?_
      refine E_get d_X12_flies_24 okX12 fl_X12_35 ⟨by decide, rfl⟩ h (fun x5 h => ?_)
      refine E_bipush d_X12_flies_27 (c8 rfl) ?_
      refine E_iload_n d_X12_flies_29 rfl ?_
      refine E_iadd d_X12_flies_30 ?_
      refine E_iload_n d_X12_flies_31 rfl ?_
      refine E_iastore d_X12_flies_32 h (fun σ6 h => ?_)
      refine E_iconst d_X12_flies_33 (c32 rfl) ?_
      cases h
      exact E_zret d_X12_flies_34 rfl (Or.inr rfl)
noncomputable def f_X12_flies (v0 v1 v2 : Int) (σ : Mem) : Option (Int × Mem) := if isO Sh 12 v0 = true then f_X12_flies_b0 v0 v1 v2 σ else none
theorem L_X12_flies {o : Int × Mem} {v0 v1 v2 : Int} {σ : Mem} (h : f_X12_flies v0 v1 v2 σ = some o) : (isO Sh 12 v0 = true ∧ Cn mt_X12_flies 2 [(2, v0), (0, v1), (0, v2)] Sh σ (some (0, o.1)) Sh o.2) := ⟨(ite_ok h).1, Cn_of mk_X12_flies.1.2.2.1 (Nat.le_of_ble_eq_true rfl) (fun sc => L_X12_flies_b0 (ite_ok h).2)⟩
theorem d_X12_fly_0 : decode mt_X12_fly.2.1 0 = .ok (.aload_n 0, 1) := by decide +kernel
theorem d_X12_fly_1 : decode mt_X12_fly.2.1 1 = .ok (.iconst 0, 1) := by decide +kernel
theorem d_X12_fly_2 : decode mt_X12_fly.2.1 2 = .ok (.putfield 70, 3) := by decide +kernel
theorem d_X12_fly_5 : decode mt_X12_fly.2.1 5 = .ok (.aload_n 0, 1) := by decide +kernel
theorem d_X12_fly_6 : decode mt_X12_fly.2.1 6 = .ok (.iconst 0, 1) := by decide +kernel
theorem d_X12_fly_7 : decode mt_X12_fly.2.1 7 = .ok (.putfield 73, 3) := by decide +kernel
theorem d_X12_fly_10 : decode mt_X12_fly.2.1 10 = .ok (.aload_n 0, 1) := by decide +kernel
theorem d_X12_fly_11 : decode mt_X12_fly.2.1 11 = .ok (.iload_n 1, 1) := by decide +kernel
theorem d_X12_fly_12 : decode mt_X12_fly.2.1 12 = .ok (.invokevirtual 341, 3) := by decide +kernel
theorem d_X12_fly_15 : decode mt_X12_fly.2.1 15 = .ok (.ifCond .eq 12, 3) := by decide +kernel
theorem d_X12_fly_18 : decode mt_X12_fly.2.1 18 = .ok (.aload_n 0, 1) := by decide +kernel
theorem d_X12_fly_19 : decode mt_X12_fly.2.1 19 = .ok (.iload_n 2, 1) := by decide +kernel
theorem d_X12_fly_20 : decode mt_X12_fly.2.1 20 = .ok (.i2l, 1) := by decide +kernel
theorem d_X12_fly_21 : decode mt_X12_fly.2.1 21 = .ok (.invokevirtual 330, 3) := by decide +kernel
theorem d_X12_fly_24 : decode mt_X12_fly.2.1 24 = .ok (.ifCond .ne 9, 3) := by decide +kernel
theorem d_X12_fly_27 : decode mt_X12_fly.2.1 27 = .ok (.aload_n 0, 1) := by decide +kernel
theorem d_X12_fly_28 : decode mt_X12_fly.2.1 28 = .ok (.iconst 2, 1) := by decide +kernel
theorem d_X12_fly_29 : decode mt_X12_fly.2.1 29 = .ok (.invokevirtual 318, 3) := by decide +kernel
theorem d_X12_fly_32 : decode mt_X12_fly.2.1 32 = .ok (.ireturn, 1) := by decide +kernel
theorem d_X12_fly_33 : decode mt_X12_fly.2.1 33 = .ok (.aload_n 0, 1) := by decide +kernel
theorem d_X12_fly_34 : decode mt_X12_fly.2.1 34 = .ok (.iload_n 2, 1) := by decide +kernel
theorem d_X12_fly_35 : decode mt_X12_fly.2.1 35 = .ok (.invokevirtual 305, 3) := by decide +kernel
theorem d_X12_fly_38 : decode mt_X12_fly.2.1 38 = .ok (.ifCond .ne 10, 3) := by decide +kernel
theorem d_X12_fly_41 : decode mt_X12_fly.2.1 41 = .ok (.aload_n 0, 1) := by decide +kernel
theorem d_X12_fly_42 : decode mt_X12_fly.2.1 42 = .ok (.bipush 8, 2) := by decide +kernel
theorem d_X12_fly_44 : decode mt_X12_fly.2.1 44 = .ok (.invokevirtual 318, 3) := by decide +kernel
theorem d_X12_fly_47 : decode mt_X12_fly.2.1 47 = .ok (.ireturn, 1) := by decide +kernel
theorem d_X12_fly_48 : decode mt_X12_fly.2.1 48 = .ok (.aload_n 0, 1) := by decide +kernel
theorem d_X12_fly_49 : decode mt_X12_fly.2.1 49 = .ok (.getfield 35, 3) := by decide +kernel
theorem d_X12_fly_52 : decode mt_X12_fly.2.1 52 = .ok (.bipush 47, 2) := by decide +kernel
theorem d_X12_fly_54 : decode mt_X12_fly.2.1 54 = .ok (.iload_n 1, 1) := by decide +kernel
theorem d_X12_fly_55 : decode mt_X12_fly.2.1 55 = .ok (.iadd, 1) := by decide +kernel
theorem d_X12_fly_56 : decode mt_X12_fly.2.1 56 = .ok (.iaload, 1) := by decide +kernel
theorem d_X12_fly_57 : decode mt_X12_fly.2.1 57 = .ok (.ifCond .ge 7, 3) := by decide +kernel
theorem d_X12_fly_60 : decode mt_X12_fly.2.1 60 = .ok (.iconst 0, 1) := by decide +kernel
theorem d_X12_fly_61 : decode mt_X12_fly.2.1 61 = .ok (.goto 4, 3) := by decide +kernel
theorem d_X12_fly_64 : decode mt_X12_fly.2.1 64 = .ok (.iconst 1, 1) := by decide +kernel
theorem d_X12_fly_65 : decode mt_X12_fly.2.1 65 = .ok (.istore_n 3, 1) := by decide +kernel
theorem d_X12_fly_66 : decode mt_X12_fly.2.1 66 = .ok (.aload_n 0, 1) := by decide +kernel
theorem d_X12_fly_67 : decode mt_X12_fly.2.1 67 = .ok (.iload_n 1, 1) := by decide +kernel
theorem d_X12_fly_68 : decode mt_X12_fly.2.1 68 = .ok (.iload_n 2, 1) := by decide +kernel
theorem d_X12_fly_69 : decode mt_X12_fly.2.1 69 = .ok (.invokevirtual 380, 3) := by decide +kernel
theorem d_X12_fly_72 : decode mt_X12_fly.2.1 72 = .ok (.ifCond .eq 7, 3) := by decide +kernel
theorem d_X12_fly_75 : decode mt_X12_fly.2.1 75 = .ok (.iload_n 3, 1) := by decide +kernel
theorem d_X12_fly_76 : decode mt_X12_fly.2.1 76 = .ok (.goto 9, 3) := by decide +kernel
theorem d_X12_fly_79 : decode mt_X12_fly.2.1 79 = .ok (.aload_n 0, 1) := by decide +kernel
theorem d_X12_fly_80 : decode mt_X12_fly.2.1 80 = .ok (.bipush 9, 2) := by decide +kernel
theorem d_X12_fly_82 : decode mt_X12_fly.2.1 82 = .ok (.invokevirtual 318, 3) := by decide +kernel
theorem d_X12_fly_85 : decode mt_X12_fly.2.1 85 = .ok (.ireturn, 1) := by decide +kernel
noncomputable def f_X12_fly_b27 (v0 : Int) (σ : Mem) : Option (Int × Mem) :=
  (f_X12_refuse v0 2 σ).bind fun r17 =>
  some (r17.1, r17.2)
theorem L_X12_fly_b27 {sc : Nat × (Nat → Int32)} {o : Int × Mem} {v0 : Int} {σ : Mem} (h : f_X12_fly_b27 v0 σ = some o) : E sc (Fm Sh (some (0, o.1)) Sh o.2) mt_X12_fly 3 Sh Sh 27 [(2, v0), (9, 0), (9, 0), (9, 0)] [] Sh σ := by
  unfold f_X12_fly_b27 at h
  refine E_aload_n d_X12_fly_27 rfl (by decide) ?_
  refine E_iconst d_X12_fly_28 (c32 rfl) ?_
  refine bd h (fun r17 q18 h => ?_)
  refine E_cV (as := [(0, 2)]) (st := []) (a := v0) d_X12_fly_29 mk_X12_refuse nl_X12_318 (by omega) ⟨rfl, rfl, Nat.le_of_ble_eq_true rfl⟩ okX12 rfl (L_X12_refuse q18) ?_
  cases h
  exact E_iret d_X12_fly_32 rfl
noncomputable def f_X12_fly_b65 (v0 v1 v2 s0 : Int) (σ : Mem) : Option (Int × Mem) :=
  (f_X12_flies v0 v1 v2 σ).bind fun r13 =>
  if r13.1 = 0 then
    (f_X12_refuse v0 9 r13.2).bind fun r15 =>
    some (r15.1, r15.2)
  else
    some (s0, r13.2)
theorem L_X12_fly_b65 {sc : Nat × (Nat → Int32)} {o : Int × Mem} {v0 v1 v2 s0 : Int} {σ : Mem} (h : f_X12_fly_b65 v0 v1 v2 s0 σ = some o) : E sc (Fm Sh (some (0, o.1)) Sh o.2) mt_X12_fly 3 Sh Sh 65 [(2, v0), (0, v1), (0, v2), (9, 0)] [(0, s0)] Sh σ := by
  unfold f_X12_fly_b65 at h
  refine E_istore_n d_X12_fly_65 (ls' := [(2, v0), (0, v1), (0, v2), (0, s0)]) ⟨by decide, rfl⟩ ?_
  refine E_aload_n d_X12_fly_66 rfl (by decide) ?_
  refine E_iload_n d_X12_fly_67 rfl ?_
  refine E_iload_n d_X12_fly_68 rfl ?_
  refine bd h (fun r13 q14 h => ?_)
  refine E_cV (as := [(0, v1), (0, v2)]) (st := []) (a := v0) d_X12_fly_69 mk_X12_flies nl_X12_380 (by omega) ⟨rfl, rfl, Nat.le_of_ble_eq_true rfl⟩ okX12 rfl (L_X12_flies q14) ?_
  refine E_if_eq (tgt := 79) d_X12_fly_72 (by decide) h (fun _ h => ?_) (fun _ h => ?_)
  · refine E_aload_n d_X12_fly_79 rfl (by decide) ?_
    refine E_bipush d_X12_fly_80 (c8 rfl) ?_
    refine bd h (fun r15 q16 h => ?_)
    refine E_cV (as := [(0, 9)]) (st := []) (a := v0) d_X12_fly_82 mk_X12_refuse nl_X12_318 (by omega) ⟨rfl, rfl, Nat.le_of_ble_eq_true rfl⟩ okX12 rfl (L_X12_refuse q16) ?_
    cases h
    exact E_iret d_X12_fly_85 rfl
  · refine E_iload_n d_X12_fly_75 rfl ?_
    refine E_goto (tgt := 85) d_X12_fly_76 (by decide) ?_
    cases h
    exact E_iret d_X12_fly_85 rfl
noncomputable def f_X12_fly_b0 (v0 v1 v2 : Int) (σ : Mem) : Option (Int × Mem) :=
  (pf Sh σ 12 v0 1 0).bind fun σ1 =>
  (pf Sh σ1 12 v0 0 0).bind fun σ2 =>
  (f_X12_isCrowAt v0 v1 σ2).bind fun r3 =>
  if r3 = 0 then
    f_X12_fly_b27 v0 σ2
  else
    (f_X12_isPlaceAt v0 v2 σ2).bind fun r5 =>
    if r5 = 0 then
      f_X12_fly_b27 v0 σ2
    else
      (f_X12_isStoneAt v0 v2 σ2).bind fun r7 =>
      if r7 = 0 then
        (f_X12_refuse v0 8 σ2).bind fun r9 =>
        some (r9.1, r9.2)
      else
        (gf Sh σ2 12 v0 20).bind fun x11 =>
        (al Sh σ2 20 x11 (w32 (47 + v1))).bind fun x12 =>
        if 0 ≤ x12 then
          f_X12_fly_b65 v0 v1 v2 1 σ2
        else
          f_X12_fly_b65 v0 v1 v2 0 σ2
theorem L_X12_fly_b0 {sc : Nat × (Nat → Int32)} {o : Int × Mem} {v0 v1 v2 : Int} {σ : Mem} (h : f_X12_fly_b0 v0 v1 v2 σ = some o) : E sc (Fm Sh (some (0, o.1)) Sh o.2) mt_X12_fly 3 Sh Sh 0 [(2, v0), (0, v1), (0, v2), (9, 0)] [] Sh σ := by
  unfold f_X12_fly_b0 at h
  refine E_aload_n d_X12_fly_0 rfl (by decide) ?_
  refine E_iconst d_X12_fly_1 (c32 rfl) ?_
  refine E_put d_X12_fly_2 okX12 fl_X12_70 ⟨by decide, rfl⟩ (Or.inl ⟨rfl, rfl⟩) (Or.inl rfl) h (fun σ1 h => ?_)
  refine E_aload_n d_X12_fly_5 rfl (by decide) ?_
  refine E_iconst d_X12_fly_6 (c32 rfl) ?_
  refine E_put d_X12_fly_7 okX12 fl_X12_73 ⟨by decide, rfl⟩ (Or.inl ⟨rfl, rfl⟩) (Or.inl rfl) h (fun σ2 h => ?_)
  refine E_aload_n d_X12_fly_10 rfl (by decide) ?_
  refine E_iload_n d_X12_fly_11 rfl ?_
  refine bd h (fun r3 q4 h => ?_)
  refine E_cV (as := [(0, v1)]) (st := []) (a := v0) d_X12_fly_12 mk_X12_isCrowAt nl_X12_341 (by omega) ⟨rfl, rfl, Nat.le_of_ble_eq_true rfl⟩ okX12 rfl (L_X12_isCrowAt q4) ?_
  refine E_if_eq (tgt := 27) d_X12_fly_15 (by decide) h (fun _ h => ?_) (fun _ h => ?_)
  · exact E_weak (ls' := [(2, v0), (9, 0), (9, 0), (9, 0)]) ⟨Or.inr rfl, Or.inl rfl, Or.inl rfl, Or.inl rfl, trivial⟩ (L_X12_fly_b27 h)
  · refine E_aload_n d_X12_fly_18 rfl (by decide) ?_
    refine E_iload_n d_X12_fly_19 rfl ?_
    refine E_i2l d_X12_fly_20 ?_
    refine bd h (fun r5 q6 h => ?_)
    refine E_cV (as := [(1, v2)]) (st := []) (a := v0) d_X12_fly_21 mk_X12_isPlaceAt nl_X12_330 (by omega) ⟨rfl, rfl, Nat.le_of_ble_eq_true rfl⟩ okX12 rfl (L_X12_isPlaceAt q6) ?_
    refine E_if_ne (tgt := 33) d_X12_fly_24 (by decide) h (fun _ h => ?_) (fun _ h => ?_)
    · exact E_weak (ls' := [(2, v0), (9, 0), (9, 0), (9, 0)]) ⟨Or.inr rfl, Or.inl rfl, Or.inl rfl, Or.inl rfl, trivial⟩ (L_X12_fly_b27 h)
    · refine E_aload_n d_X12_fly_33 rfl (by decide) ?_
      refine E_iload_n d_X12_fly_34 rfl ?_
      refine bd h (fun r7 q8 h => ?_)
      refine E_cV (as := [(0, v2)]) (st := []) (a := v0) d_X12_fly_35 mk_X12_isStoneAt nl_X12_305 (by omega) ⟨rfl, rfl, Nat.le_of_ble_eq_true rfl⟩ okX12 rfl (L_X12_isStoneAt q8) ?_
      refine E_if_ne (tgt := 48) d_X12_fly_38 (by decide) h (fun _ h => ?_) (fun _ h => ?_)
      · refine E_aload_n d_X12_fly_41 rfl (by decide) ?_
        refine E_bipush d_X12_fly_42 (c8 rfl) ?_
        refine bd h (fun r9 q10 h => ?_)
        refine E_cV (as := [(0, 8)]) (st := []) (a := v0) d_X12_fly_44 mk_X12_refuse nl_X12_318 (by omega) ⟨rfl, rfl, Nat.le_of_ble_eq_true rfl⟩ okX12 rfl (L_X12_refuse q10) ?_
        cases h
        exact E_iret d_X12_fly_47 rfl
      · refine E_aload_n d_X12_fly_48 rfl (by decide) ?_
        refine E_get d_X12_fly_49 okX12 fl_X12_35 ⟨by decide, rfl⟩ h (fun x11 h => ?_)
        refine E_bipush d_X12_fly_52 (c8 rfl) ?_
        refine E_iload_n d_X12_fly_54 rfl ?_
        refine E_iadd d_X12_fly_55 ?_
        refine E_iaload d_X12_fly_56 h (fun x12 h => ?_)
        refine E_if_ge (tgt := 64) d_X12_fly_57 (by decide) h (fun _ h => ?_) (fun _ h => ?_)
        · refine E_iconst d_X12_fly_64 (c32 rfl) ?_
          exact (L_X12_fly_b65 h)
        · refine E_iconst d_X12_fly_60 (c32 rfl) ?_
          refine E_goto (tgt := 65) d_X12_fly_61 (by decide) ?_
          exact (L_X12_fly_b65 h)
noncomputable def f_X12_fly (v0 v1 v2 : Int) (σ : Mem) : Option (Int × Mem) := if isO Sh 12 v0 = true then f_X12_fly_b0 v0 v1 v2 σ else none
theorem L_X12_fly {o : Int × Mem} {v0 v1 v2 : Int} {σ : Mem} (h : f_X12_fly v0 v1 v2 σ = some o) : (isO Sh 12 v0 = true ∧ Cn mt_X12_fly 3 [(2, v0), (0, v1), (0, v2)] Sh σ (some (0, o.1)) Sh o.2) := ⟨(ite_ok h).1, Cn_of mk_X12_fly.1.2.2.1 (Nat.le_of_ble_eq_true rfl) (fun sc => L_X12_fly_b0 (ite_ok h).2)⟩
theorem d_X12_hatch_0 : decode mt_X12_hatch.2.1 0 = .ok (.aload_n 0, 1) := by decide +kernel
theorem d_X12_hatch_1 : decode mt_X12_hatch.2.1 1 = .ok (.iconst 0, 1) := by decide +kernel
theorem d_X12_hatch_2 : decode mt_X12_hatch.2.1 2 = .ok (.putfield 70, 3) := by decide +kernel
theorem d_X12_hatch_5 : decode mt_X12_hatch.2.1 5 = .ok (.aload_n 0, 1) := by decide +kernel
theorem d_X12_hatch_6 : decode mt_X12_hatch.2.1 6 = .ok (.iconst 0, 1) := by decide +kernel
theorem d_X12_hatch_7 : decode mt_X12_hatch.2.1 7 = .ok (.putfield 73, 3) := by decide +kernel
theorem d_X12_hatch_10 : decode mt_X12_hatch.2.1 10 = .ok (.aload_n 0, 1) := by decide +kernel
theorem d_X12_hatch_11 : decode mt_X12_hatch.2.1 11 = .ok (.iload_n 1, 1) := by decide +kernel
theorem d_X12_hatch_12 : decode mt_X12_hatch.2.1 12 = .ok (.i2l, 1) := by decide +kernel
theorem d_X12_hatch_13 : decode mt_X12_hatch.2.1 13 = .ok (.invokevirtual 330, 3) := by decide +kernel
theorem d_X12_hatch_16 : decode mt_X12_hatch.2.1 16 = .ok (.ifCond .ne 9, 3) := by decide +kernel
theorem d_X12_hatch_19 : decode mt_X12_hatch.2.1 19 = .ok (.aload_n 0, 1) := by decide +kernel
theorem d_X12_hatch_20 : decode mt_X12_hatch.2.1 20 = .ok (.iconst 2, 1) := by decide +kernel
theorem d_X12_hatch_21 : decode mt_X12_hatch.2.1 21 = .ok (.invokevirtual 318, 3) := by decide +kernel
theorem d_X12_hatch_24 : decode mt_X12_hatch.2.1 24 = .ok (.ireturn, 1) := by decide +kernel
theorem d_X12_hatch_25 : decode mt_X12_hatch.2.1 25 = .ok (.aload_n 0, 1) := by decide +kernel
theorem d_X12_hatch_26 : decode mt_X12_hatch.2.1 26 = .ok (.getfield 35, 3) := by decide +kernel
theorem d_X12_hatch_29 : decode mt_X12_hatch.2.1 29 = .ok (.iconst 1, 1) := by decide +kernel
theorem d_X12_hatch_30 : decode mt_X12_hatch.2.1 30 = .ok (.iaload, 1) := by decide +kernel
theorem d_X12_hatch_31 : decode mt_X12_hatch.2.1 31 = .ok (.istore_n 3, 1) := by decide +kernel
theorem d_X12_hatch_32 : decode mt_X12_hatch.2.1 32 = .ok (.iload_n 3, 1) := by decide +kernel
theorem d_X12_hatch_33 : decode mt_X12_hatch.2.1 33 = .ok (.iconst 4, 1) := by decide +kernel
theorem d_X12_hatch_34 : decode mt_X12_hatch.2.1 34 = .ok (.if_icmp .ne 10, 3) := by decide +kernel
theorem d_X12_hatch_37 : decode mt_X12_hatch.2.1 37 = .ok (.aload_n 0, 1) := by decide +kernel
theorem d_X12_hatch_38 : decode mt_X12_hatch.2.1 38 = .ok (.bipush 7, 2) := by decide +kernel
theorem d_X12_hatch_40 : decode mt_X12_hatch.2.1 40 = .ok (.invokevirtual 318, 3) := by decide +kernel
theorem d_X12_hatch_43 : decode mt_X12_hatch.2.1 43 = .ok (.ireturn, 1) := by decide +kernel
theorem d_X12_hatch_44 : decode mt_X12_hatch.2.1 44 = .ok (.aload_n 0, 1) := by decide +kernel
theorem d_X12_hatch_45 : decode mt_X12_hatch.2.1 45 = .ok (.iload_n 1, 1) := by decide +kernel
theorem d_X12_hatch_46 : decode mt_X12_hatch.2.1 46 = .ok (.invokevirtual 305, 3) := by decide +kernel
theorem d_X12_hatch_49 : decode mt_X12_hatch.2.1 49 = .ok (.ifCond .ne 10, 3) := by decide +kernel
theorem d_X12_hatch_52 : decode mt_X12_hatch.2.1 52 = .ok (.aload_n 0, 1) := by decide +kernel
theorem d_X12_hatch_53 : decode mt_X12_hatch.2.1 53 = .ok (.bipush 8, 2) := by decide +kernel
theorem d_X12_hatch_55 : decode mt_X12_hatch.2.1 55 = .ok (.invokevirtual 318, 3) := by decide +kernel
theorem d_X12_hatch_58 : decode mt_X12_hatch.2.1 58 = .ok (.ireturn, 1) := by decide +kernel
theorem d_X12_hatch_59 : decode mt_X12_hatch.2.1 59 = .ok (.aload_n 0, 1) := by decide +kernel
theorem d_X12_hatch_60 : decode mt_X12_hatch.2.1 60 = .ok (.getfield 41, 3) := by decide +kernel
theorem d_X12_hatch_63 : decode mt_X12_hatch.2.1 63 = .ok (.bipush 10, 2) := by decide +kernel
theorem d_X12_hatch_65 : decode mt_X12_hatch.2.1 65 = .ok (.iload_n 3, 1) := by decide +kernel
theorem d_X12_hatch_66 : decode mt_X12_hatch.2.1 66 = .ok (.iadd, 1) := by decide +kernel
theorem d_X12_hatch_67 : decode mt_X12_hatch.2.1 67 = .ok (.lconst 0, 1) := by decide +kernel
theorem d_X12_hatch_68 : decode mt_X12_hatch.2.1 68 = .ok (.lastore, 1) := by decide +kernel
theorem d_X12_hatch_69 : decode mt_X12_hatch.2.1 69 = .ok (.aload_n 0, 1) := by decide +kernel
theorem d_X12_hatch_70 : decode mt_X12_hatch.2.1 70 = .ok (.iconst 0, 1) := by decide +kernel
theorem d_X12_hatch_71 : decode mt_X12_hatch.2.1 71 = .ok (.iload_n 3, 1) := by decide +kernel
theorem d_X12_hatch_72 : decode mt_X12_hatch.2.1 72 = .ok (.iload_n 1, 1) := by decide +kernel
theorem d_X12_hatch_73 : decode mt_X12_hatch.2.1 73 = .ok (.iload_n 2, 1) := by decide +kernel
theorem d_X12_hatch_74 : decode mt_X12_hatch.2.1 74 = .ok (.ifCond .eq 7, 3) := by decide +kernel
theorem d_X12_hatch_77 : decode mt_X12_hatch.2.1 77 = .ok (.iconst 1, 1) := by decide +kernel
theorem d_X12_hatch_78 : decode mt_X12_hatch.2.1 78 = .ok (.goto 4, 3) := by decide +kernel
theorem d_X12_hatch_81 : decode mt_X12_hatch.2.1 81 = .ok (.iconst 0, 1) := by decide +kernel
theorem d_X12_hatch_82 : decode mt_X12_hatch.2.1 82 = .ok (.invokevirtual 260, 3) := by decide +kernel
theorem d_X12_hatch_85 : decode mt_X12_hatch.2.1 85 = .ok (.iload_n 3, 1) := by decide +kernel
theorem d_X12_hatch_86 : decode mt_X12_hatch.2.1 86 = .ok (.ireturn, 1) := by decide +kernel
noncomputable def f_X12_hatch_b82 (v3 s0 s1 s2 s3 s4 : Int) (σ : Mem) : Option (Int × Mem) :=
  (f_X12_hatches s4 s3 s2 s1 s0 σ).bind fun r17 =>
  some (v3, r17)
theorem L_X12_hatch_b82 {sc : Nat × (Nat → Int32)} {o : Int × Mem} {v3 s0 s1 s2 s3 s4 : Int} {σ : Mem} (h : f_X12_hatch_b82 v3 s0 s1 s2 s3 s4 σ = some o) : E sc (Fm Sh (some (0, o.1)) Sh o.2) mt_X12_hatch 3 Sh Sh 82 [(9, 0), (9, 0), (9, 0), (0, v3)] [(0, s0), (0, s1), (0, s2), (0, s3), (2, s4)] Sh σ := by
  unfold f_X12_hatch_b82 at h
  refine bd h (fun r17 q18 h => ?_)
  refine E_cVv (as := [(0, s3), (0, s2), (0, s1), (0, s0)]) (st := []) (a := s4) d_X12_hatch_82 mk_X12_hatches nl_X12_260 (by omega) ⟨rfl, rfl, Nat.le_of_ble_eq_true rfl⟩ okX12 rfl (L_X12_hatches q18) ?_
  refine E_iload_n d_X12_hatch_85 rfl ?_
  cases h
  exact E_iret d_X12_hatch_86 rfl
noncomputable def f_X12_hatch_b0 (v0 v1 v2 : Int) (σ : Mem) : Option (Int × Mem) :=
  (pf Sh σ 12 v0 1 0).bind fun σ1 =>
  (pf Sh σ1 12 v0 0 0).bind fun σ2 =>
  (f_X12_isPlaceAt v0 v1 σ2).bind fun r3 =>
  if r3 = 0 then
    (f_X12_refuse v0 2 σ2).bind fun r5 =>
    some (r5.1, r5.2)
  else
    (gf Sh σ2 12 v0 20).bind fun x7 =>
    (al Sh σ2 20 x7 1).bind fun x8 =>
    if x8 = 4 then
      (f_X12_refuse v0 7 σ2).bind fun r9 =>
      some (r9.1, r9.2)
    else
      (f_X12_isStoneAt v0 v1 σ2).bind fun r11 =>
      if r11 = 0 then
        (f_X12_refuse v0 8 σ2).bind fun r13 =>
        some (r13.1, r13.2)
      else
        (gf Sh σ2 12 v0 22).bind fun x15 =>
        (st_ Sh σ2 21 x15 (w32 (10 + x8)) 0).bind fun σ16 =>
        if v2 = 0 then
          f_X12_hatch_b82 x8 0 v1 x8 0 v0 σ16
        else
          f_X12_hatch_b82 x8 1 v1 x8 0 v0 σ16
theorem L_X12_hatch_b0 {sc : Nat × (Nat → Int32)} {o : Int × Mem} {v0 v1 v2 : Int} {σ : Mem} (h : f_X12_hatch_b0 v0 v1 v2 σ = some o) : E sc (Fm Sh (some (0, o.1)) Sh o.2) mt_X12_hatch 3 Sh Sh 0 [(2, v0), (0, v1), (0, v2), (9, 0)] [] Sh σ := by
  unfold f_X12_hatch_b0 at h
  refine E_aload_n d_X12_hatch_0 rfl (by decide) ?_
  refine E_iconst d_X12_hatch_1 (c32 rfl) ?_
  refine E_put d_X12_hatch_2 okX12 fl_X12_70 ⟨by decide, rfl⟩ (Or.inl ⟨rfl, rfl⟩) (Or.inl rfl) h (fun σ1 h => ?_)
  refine E_aload_n d_X12_hatch_5 rfl (by decide) ?_
  refine E_iconst d_X12_hatch_6 (c32 rfl) ?_
  refine E_put d_X12_hatch_7 okX12 fl_X12_73 ⟨by decide, rfl⟩ (Or.inl ⟨rfl, rfl⟩) (Or.inl rfl) h (fun σ2 h => ?_)
  refine E_aload_n d_X12_hatch_10 rfl (by decide) ?_
  refine E_iload_n d_X12_hatch_11 rfl ?_
  refine E_i2l d_X12_hatch_12 ?_
  refine bd h (fun r3 q4 h => ?_)
  refine E_cV (as := [(1, v1)]) (st := []) (a := v0) d_X12_hatch_13 mk_X12_isPlaceAt nl_X12_330 (by omega) ⟨rfl, rfl, Nat.le_of_ble_eq_true rfl⟩ okX12 rfl (L_X12_isPlaceAt q4) ?_
  refine E_if_ne (tgt := 25) d_X12_hatch_16 (by decide) h (fun _ h => ?_) (fun _ h => ?_)
  · refine E_aload_n d_X12_hatch_19 rfl (by decide) ?_
    refine E_iconst d_X12_hatch_20 (c32 rfl) ?_
    refine bd h (fun r5 q6 h => ?_)
    refine E_cV (as := [(0, 2)]) (st := []) (a := v0) d_X12_hatch_21 mk_X12_refuse nl_X12_318 (by omega) ⟨rfl, rfl, Nat.le_of_ble_eq_true rfl⟩ okX12 rfl (L_X12_refuse q6) ?_
    cases h
    exact E_iret d_X12_hatch_24 rfl
  · refine E_aload_n d_X12_hatch_25 rfl (by decide) ?_
    refine E_get d_X12_hatch_26 okX12 fl_X12_35 ⟨by decide, rfl⟩ h (fun x7 h => ?_)
    refine E_iconst d_X12_hatch_29 (c32 rfl) ?_
    refine E_iaload d_X12_hatch_30 h (fun x8 h => ?_)
    refine E_istore_n d_X12_hatch_31 (ls' := [(2, v0), (0, v1), (0, v2), (0, x8)]) ⟨by decide, rfl⟩ ?_
    refine E_iload_n d_X12_hatch_32 rfl ?_
    refine E_iconst d_X12_hatch_33 (c32 rfl) ?_
    refine E_icmp_ne (tgt := 44) d_X12_hatch_34 (by decide) h (fun _ h => ?_) (fun _ h => ?_)
    · refine E_aload_n d_X12_hatch_37 rfl (by decide) ?_
      refine E_bipush d_X12_hatch_38 (c8 rfl) ?_
      refine bd h (fun r9 q10 h => ?_)
      refine E_cV (as := [(0, 7)]) (st := []) (a := v0) d_X12_hatch_40 mk_X12_refuse nl_X12_318 (by omega) ⟨rfl, rfl, Nat.le_of_ble_eq_true rfl⟩ okX12 rfl (L_X12_refuse q10) ?_
      cases h
      exact E_iret d_X12_hatch_43 rfl
    · refine E_aload_n d_X12_hatch_44 rfl (by decide) ?_
      refine E_iload_n d_X12_hatch_45 rfl ?_
      refine bd h (fun r11 q12 h => ?_)
      refine E_cV (as := [(0, v1)]) (st := []) (a := v0) d_X12_hatch_46 mk_X12_isStoneAt nl_X12_305 (by omega) ⟨rfl, rfl, Nat.le_of_ble_eq_true rfl⟩ okX12 rfl (L_X12_isStoneAt q12) ?_
      refine E_if_ne (tgt := 59) d_X12_hatch_49 (by decide) h (fun _ h => ?_) (fun _ h => ?_)
      · refine E_aload_n d_X12_hatch_52 rfl (by decide) ?_
        refine E_bipush d_X12_hatch_53 (c8 rfl) ?_
        refine bd h (fun r13 q14 h => ?_)
        refine E_cV (as := [(0, 8)]) (st := []) (a := v0) d_X12_hatch_55 mk_X12_refuse nl_X12_318 (by omega) ⟨rfl, rfl, Nat.le_of_ble_eq_true rfl⟩ okX12 rfl (L_X12_refuse q14) ?_
        cases h
        exact E_iret d_X12_hatch_58 rfl
      · refine E_aload_n d_X12_hatch_59 rfl (by decide) ?_
        refine E_get d_X12_hatch_60 okX12 fl_X12_41 ⟨by decide, rfl⟩ h (fun x15 h => ?_)
        refine E_bipush d_X12_hatch_63 (c8 rfl) ?_
        refine E_iload_n d_X12_hatch_65 rfl ?_
        refine E_iadd d_X12_hatch_66 ?_
        refine E_lconst d_X12_hatch_67 cl0 ?_
        refine E_lastore d_X12_hatch_68 h (fun σ16 h => ?_)
        refine E_aload_n d_X12_hatch_69 rfl (by decide) ?_
        refine E_iconst d_X12_hatch_70 (c32 rfl) ?_
        refine E_iload_n d_X12_hatch_71 rfl ?_
        refine E_iload_n d_X12_hatch_72 rfl ?_
        refine E_iload_n d_X12_hatch_73 rfl ?_
        refine E_if_eq (tgt := 81) d_X12_hatch_74 (by decide) h (fun _ h => ?_) (fun _ h => ?_)
        · refine E_iconst d_X12_hatch_81 (c32 rfl) ?_
          exact E_weak (ls' := [(9, 0), (9, 0), (9, 0), (0, x8)]) ⟨Or.inl rfl, Or.inl rfl, Or.inl rfl, Or.inr rfl, trivial⟩ (L_X12_hatch_b82 h)
        · refine E_iconst d_X12_hatch_77 (c32 rfl) ?_
          refine E_goto (tgt := 82) d_X12_hatch_78 (by decide) ?_
          exact E_weak (ls' := [(9, 0), (9, 0), (9, 0), (0, x8)]) ⟨Or.inl rfl, Or.inl rfl, Or.inl rfl, Or.inr rfl, trivial⟩ (L_X12_hatch_b82 h)
noncomputable def f_X12_hatch (v0 v1 v2 : Int) (σ : Mem) : Option (Int × Mem) := if isO Sh 12 v0 = true then f_X12_hatch_b0 v0 v1 v2 σ else none
theorem L_X12_hatch {o : Int × Mem} {v0 v1 v2 : Int} {σ : Mem} (h : f_X12_hatch v0 v1 v2 σ = some o) : (isO Sh 12 v0 = true ∧ Cn mt_X12_hatch 3 [(2, v0), (0, v1), (0, v2)] Sh σ (some (0, o.1)) Sh o.2) := ⟨(ite_ok h).1, Cn_of mk_X12_hatch.1.2.2.1 (Nat.le_of_ble_eq_true rfl) (fun sc => L_X12_hatch_b0 (ite_ok h).2)⟩
theorem d_X12_rule_0 : decode mt_X12_rule.2.1 0 = .ok (.aload_n 0, 1) := by decide +kernel
theorem d_X12_rule_1 : decode mt_X12_rule.2.1 1 = .ok (.iconst 0, 1) := by decide +kernel
theorem d_X12_rule_2 : decode mt_X12_rule.2.1 2 = .ok (.putfield 70, 3) := by decide +kernel
theorem d_X12_rule_5 : decode mt_X12_rule.2.1 5 = .ok (.aload_n 0, 1) := by decide +kernel
theorem d_X12_rule_6 : decode mt_X12_rule.2.1 6 = .ok (.iconst 0, 1) := by decide +kernel
theorem d_X12_rule_7 : decode mt_X12_rule.2.1 7 = .ok (.putfield 73, 3) := by decide +kernel
theorem d_X12_rule_10 : decode mt_X12_rule.2.1 10 = .ok (.iload_n 1, 1) := by decide +kernel
theorem d_X12_rule_11 : decode mt_X12_rule.2.1 11 = .ok (.i2l, 1) := by decide +kernel
theorem d_X12_rule_12 : decode mt_X12_rule.2.1 12 = .ok (.lconst 0, 1) := by decide +kernel
theorem d_X12_rule_13 : decode mt_X12_rule.2.1 13 = .ok (.ldc2_w 383, 3) := by decide +kernel
theorem d_X12_rule_16 : decode mt_X12_rule.2.1 16 = .ok (.invokestatic 104, 3) := by decide +kernel
theorem d_X12_rule_19 : decode mt_X12_rule.2.1 19 = .ok (.ifCond .ne 9, 3) := by decide +kernel
theorem d_X12_rule_22 : decode mt_X12_rule.2.1 22 = .ok (.aload_n 0, 1) := by decide +kernel
theorem d_X12_rule_23 : decode mt_X12_rule.2.1 23 = .ok (.iconst 5, 1) := by decide +kernel
theorem d_X12_rule_24 : decode mt_X12_rule.2.1 24 = .ok (.invokevirtual 85, 3) := by decide +kernel
theorem d_X12_rule_27 : decode mt_X12_rule.2.1 27 = .ok (.ireturn, 1) := by decide +kernel
theorem d_X12_rule_28 : decode mt_X12_rule.2.1 28 = .ok (.aload_n 0, 1) := by decide +kernel
theorem d_X12_rule_29 : decode mt_X12_rule.2.1 29 = .ok (.getfield 35, 3) := by decide +kernel
theorem d_X12_rule_32 : decode mt_X12_rule.2.1 32 = .ok (.iconst 2, 1) := by decide +kernel
theorem d_X12_rule_33 : decode mt_X12_rule.2.1 33 = .ok (.iload_n 1, 1) := by decide +kernel
theorem d_X12_rule_34 : decode mt_X12_rule.2.1 34 = .ok (.iastore, 1) := by decide +kernel
theorem d_X12_rule_35 : decode mt_X12_rule.2.1 35 = .ok (.iconst 1, 1) := by decide +kernel
theorem d_X12_rule_36 : decode mt_X12_rule.2.1 36 = .ok (.ireturn, 1) := by decide +kernel
noncomputable def f_X12_rule_b0 (v0 v1 : Int) (σ : Mem) : Option (Int × Mem) :=
  (pf Sh σ 12 v0 1 0).bind fun σ1 =>
  (pf Sh σ1 12 v0 0 0).bind fun σ2 =>
  (f_X12_isIn v1 0 16 σ2).bind fun r3 =>
  if r3 = 0 then
    (f_X12_no v0 5 σ2).bind fun r5 =>
    (bz r5.1).bind fun _ =>
    some (r5.1, r5.2)
  else
    (gf Sh σ2 12 v0 20).bind fun x8 =>
    (st_ Sh σ2 20 x8 2 v1).bind fun σ9 =>
    some (1, σ9)
theorem L_X12_rule_b0 {sc : Nat × (Nat → Int32)} {o : Int × Mem} {v0 v1 : Int} {σ : Mem} (h : f_X12_rule_b0 v0 v1 σ = some o) : E sc (Fm Sh (some (0, o.1)) Sh o.2) mt_X12_rule 2 Sh Sh 0 [(2, v0), (0, v1)] [] Sh σ := by
  unfold f_X12_rule_b0 at h
  refine E_aload_n d_X12_rule_0 rfl (by decide) ?_
  refine E_iconst d_X12_rule_1 (c32 rfl) ?_
  refine E_put d_X12_rule_2 okX12 fl_X12_70 ⟨by decide, rfl⟩ (Or.inl ⟨rfl, rfl⟩) (Or.inl rfl) h (fun σ1 h => ?_)
  refine E_aload_n d_X12_rule_5 rfl (by decide) ?_
  refine E_iconst d_X12_rule_6 (c32 rfl) ?_
  refine E_put d_X12_rule_7 okX12 fl_X12_73 ⟨by decide, rfl⟩ (Or.inl ⟨rfl, rfl⟩) (Or.inl rfl) h (fun σ2 h => ?_)
  refine E_iload_n d_X12_rule_10 rfl ?_
  refine E_i2l d_X12_rule_11 ?_
  refine E_lconst d_X12_rule_12 cl0 ?_
  refine E_ldc2 d_X12_rule_13 kw_X12_383 ?_
  refine bd h (fun r3 q4 h => ?_)
  refine E_cS (as := [(1, v1), (1, 0), (1, 16)]) (st := []) d_X12_rule_16 mk_X12_isIn nl_X12_104 (by omega) ⟨rfl, rfl, Nat.le_of_ble_eq_true rfl⟩ (L_X12_isIn q4) ?_
  refine E_if_ne (tgt := 28) d_X12_rule_19 (by decide) h (fun _ h => ?_) (fun _ h => ?_)
  · refine E_aload_n d_X12_rule_22 rfl (by decide) ?_
    refine E_iconst d_X12_rule_23 (c32 rfl) ?_
    refine bd h (fun r5 q6 h => ?_)
    refine E_cV (as := [(0, 5)]) (st := []) (a := v0) d_X12_rule_24 mk_X12_no nl_X12_85 (by omega) ⟨rfl, rfl, Nat.le_of_ble_eq_true rfl⟩ okX12 rfl (L_X12_no q6) ?_
    refine bd_bz h (fun q7 h => ?_)
    cases h
    exact E_zret d_X12_rule_27 rfl q7
  · refine E_aload_n d_X12_rule_28 rfl (by decide) ?_
    refine E_get d_X12_rule_29 okX12 fl_X12_35 ⟨by decide, rfl⟩ h (fun x8 h => ?_)
    refine E_iconst d_X12_rule_32 (c32 rfl) ?_
    refine E_iload_n d_X12_rule_33 rfl ?_
    refine E_iastore d_X12_rule_34 h (fun σ9 h => ?_)
    refine E_iconst d_X12_rule_35 (c32 rfl) ?_
    cases h
    exact E_zret d_X12_rule_36 rfl (Or.inr rfl)
noncomputable def f_X12_rule (v0 v1 : Int) (σ : Mem) : Option (Int × Mem) := if isO Sh 12 v0 = true then f_X12_rule_b0 v0 v1 σ else none
theorem L_X12_rule {o : Int × Mem} {v0 v1 : Int} {σ : Mem} (h : f_X12_rule v0 v1 σ = some o) : (isO Sh 12 v0 = true ∧ Cn mt_X12_rule 2 [(2, v0), (0, v1)] Sh σ (some (0, o.1)) Sh o.2) := ⟨(ite_ok h).1, Cn_of mk_X12_rule.1.2.2.1 (Nat.le_of_ble_eq_true rfl) (fun sc => L_X12_rule_b0 (ite_ok h).2)⟩
theorem d_X12_far_0 : decode mt_X12_far.2.1 0 = .ok (.aload_n 0, 1) := by decide +kernel
theorem d_X12_far_1 : decode mt_X12_far.2.1 1 = .ok (.iconst 0, 1) := by decide +kernel
theorem d_X12_far_2 : decode mt_X12_far.2.1 2 = .ok (.putfield 70, 3) := by decide +kernel
theorem d_X12_far_5 : decode mt_X12_far.2.1 5 = .ok (.aload_n 0, 1) := by decide +kernel
theorem d_X12_far_6 : decode mt_X12_far.2.1 6 = .ok (.iconst 0, 1) := by decide +kernel
theorem d_X12_far_7 : decode mt_X12_far.2.1 7 = .ok (.putfield 73, 3) := by decide +kernel
theorem d_X12_far_10 : decode mt_X12_far.2.1 10 = .ok (.aload_n 0, 1) := by decide +kernel
theorem d_X12_far_11 : decode mt_X12_far.2.1 11 = .ok (.iload_n 1, 1) := by decide +kernel
theorem d_X12_far_12 : decode mt_X12_far.2.1 12 = .ok (.i2l, 1) := by decide +kernel
theorem d_X12_far_13 : decode mt_X12_far.2.1 13 = .ok (.invokevirtual 330, 3) := by decide +kernel
theorem d_X12_far_16 : decode mt_X12_far.2.1 16 = .ok (.ifCond .eq 21, 3) := by decide +kernel
theorem d_X12_far_19 : decode mt_X12_far.2.1 19 = .ok (.aload_n 0, 1) := by decide +kernel
theorem d_X12_far_20 : decode mt_X12_far.2.1 20 = .ok (.iload_n 2, 1) := by decide +kernel
theorem d_X12_far_21 : decode mt_X12_far.2.1 21 = .ok (.i2l, 1) := by decide +kernel
theorem d_X12_far_22 : decode mt_X12_far.2.1 22 = .ok (.invokevirtual 330, 3) := by decide +kernel
theorem d_X12_far_25 : decode mt_X12_far.2.1 25 = .ok (.ifCond .eq 12, 3) := by decide +kernel
theorem d_X12_far_28 : decode mt_X12_far.2.1 28 = .ok (.aload_n 0, 1) := by decide +kernel
theorem d_X12_far_29 : decode mt_X12_far.2.1 29 = .ok (.iload_n 1, 1) := by decide +kernel
theorem d_X12_far_30 : decode mt_X12_far.2.1 30 = .ok (.iload_n 2, 1) := by decide +kernel
theorem d_X12_far_31 : decode mt_X12_far.2.1 31 = .ok (.invokevirtual 313, 3) := by decide +kernel
theorem d_X12_far_34 : decode mt_X12_far.2.1 34 = .ok (.goto 8, 3) := by decide +kernel
theorem d_X12_far_37 : decode mt_X12_far.2.1 37 = .ok (.aload_n 0, 1) := by decide +kernel
theorem d_X12_far_38 : decode mt_X12_far.2.1 38 = .ok (.iconst 2, 1) := by decide +kernel
theorem d_X12_far_39 : decode mt_X12_far.2.1 39 = .ok (.invokevirtual 318, 3) := by decide +kernel
theorem d_X12_far_42 : decode mt_X12_far.2.1 42 = .ok (.ireturn, 1) := by decide +kernel
noncomputable def f_X12_far_b37 (v0 : Int) (σ : Mem) : Option (Int × Mem) :=
  (f_X12_refuse v0 2 σ).bind fun r9 =>
  some (r9.1, r9.2)
theorem L_X12_far_b37 {sc : Nat × (Nat → Int32)} {o : Int × Mem} {v0 : Int} {σ : Mem} (h : f_X12_far_b37 v0 σ = some o) : E sc (Fm Sh (some (0, o.1)) Sh o.2) mt_X12_far 3 Sh Sh 37 [(2, v0), (9, 0), (9, 0)] [] Sh σ := by
  unfold f_X12_far_b37 at h
  refine E_aload_n d_X12_far_37 rfl (by decide) ?_
  refine E_iconst d_X12_far_38 (c32 rfl) ?_
  refine bd h (fun r9 q10 h => ?_)
  refine E_cV (as := [(0, 2)]) (st := []) (a := v0) d_X12_far_39 mk_X12_refuse nl_X12_318 (by omega) ⟨rfl, rfl, Nat.le_of_ble_eq_true rfl⟩ okX12 rfl (L_X12_refuse q10) ?_
  cases h
  exact E_iret d_X12_far_42 rfl
noncomputable def f_X12_far_b0 (v0 v1 v2 : Int) (σ : Mem) : Option (Int × Mem) :=
  (pf Sh σ 12 v0 1 0).bind fun σ1 =>
  (pf Sh σ1 12 v0 0 0).bind fun σ2 =>
  (f_X12_isPlaceAt v0 v1 σ2).bind fun r3 =>
  if r3 = 0 then
    f_X12_far_b37 v0 σ2
  else
    (f_X12_isPlaceAt v0 v2 σ2).bind fun r5 =>
    if r5 = 0 then
      f_X12_far_b37 v0 σ2
    else
      (f_X12_farOf v0 v1 v2 σ2).bind fun r7 =>
      some (r7, σ2)
theorem L_X12_far_b0 {sc : Nat × (Nat → Int32)} {o : Int × Mem} {v0 v1 v2 : Int} {σ : Mem} (h : f_X12_far_b0 v0 v1 v2 σ = some o) : E sc (Fm Sh (some (0, o.1)) Sh o.2) mt_X12_far 3 Sh Sh 0 [(2, v0), (0, v1), (0, v2)] [] Sh σ := by
  unfold f_X12_far_b0 at h
  refine E_aload_n d_X12_far_0 rfl (by decide) ?_
  refine E_iconst d_X12_far_1 (c32 rfl) ?_
  refine E_put d_X12_far_2 okX12 fl_X12_70 ⟨by decide, rfl⟩ (Or.inl ⟨rfl, rfl⟩) (Or.inl rfl) h (fun σ1 h => ?_)
  refine E_aload_n d_X12_far_5 rfl (by decide) ?_
  refine E_iconst d_X12_far_6 (c32 rfl) ?_
  refine E_put d_X12_far_7 okX12 fl_X12_73 ⟨by decide, rfl⟩ (Or.inl ⟨rfl, rfl⟩) (Or.inl rfl) h (fun σ2 h => ?_)
  refine E_aload_n d_X12_far_10 rfl (by decide) ?_
  refine E_iload_n d_X12_far_11 rfl ?_
  refine E_i2l d_X12_far_12 ?_
  refine bd h (fun r3 q4 h => ?_)
  refine E_cV (as := [(1, v1)]) (st := []) (a := v0) d_X12_far_13 mk_X12_isPlaceAt nl_X12_330 (by omega) ⟨rfl, rfl, Nat.le_of_ble_eq_true rfl⟩ okX12 rfl (L_X12_isPlaceAt q4) ?_
  refine E_if_eq (tgt := 37) d_X12_far_16 (by decide) h (fun _ h => ?_) (fun _ h => ?_)
  · exact E_weak (ls' := [(2, v0), (9, 0), (9, 0)]) ⟨Or.inr rfl, Or.inl rfl, Or.inl rfl, trivial⟩ (L_X12_far_b37 h)
  · refine E_aload_n d_X12_far_19 rfl (by decide) ?_
    refine E_iload_n d_X12_far_20 rfl ?_
    refine E_i2l d_X12_far_21 ?_
    refine bd h (fun r5 q6 h => ?_)
    refine E_cV (as := [(1, v2)]) (st := []) (a := v0) d_X12_far_22 mk_X12_isPlaceAt nl_X12_330 (by omega) ⟨rfl, rfl, Nat.le_of_ble_eq_true rfl⟩ okX12 rfl (L_X12_isPlaceAt q6) ?_
    refine E_if_eq (tgt := 37) d_X12_far_25 (by decide) h (fun _ h => ?_) (fun _ h => ?_)
    · exact E_weak (ls' := [(2, v0), (9, 0), (9, 0)]) ⟨Or.inr rfl, Or.inl rfl, Or.inl rfl, trivial⟩ (L_X12_far_b37 h)
    · refine E_aload_n d_X12_far_28 rfl (by decide) ?_
      refine E_iload_n d_X12_far_29 rfl ?_
      refine E_iload_n d_X12_far_30 rfl ?_
      refine bd h (fun r7 q8 h => ?_)
      refine E_cV (as := [(0, v1), (0, v2)]) (st := []) (a := v0) d_X12_far_31 mk_X12_farOf nl_X12_313 (by omega) ⟨rfl, rfl, Nat.le_of_ble_eq_true rfl⟩ okX12 rfl (L_X12_farOf q8) ?_
      refine E_goto (tgt := 42) d_X12_far_34 (by decide) ?_
      cases h
      exact E_iret d_X12_far_42 rfl
noncomputable def f_X12_far (v0 v1 v2 : Int) (σ : Mem) : Option (Int × Mem) := if isO Sh 12 v0 = true then f_X12_far_b0 v0 v1 v2 σ else none
theorem L_X12_far {o : Int × Mem} {v0 v1 v2 : Int} {σ : Mem} (h : f_X12_far v0 v1 v2 σ = some o) : (isO Sh 12 v0 = true ∧ Cn mt_X12_far 3 [(2, v0), (0, v1), (0, v2)] Sh σ (some (0, o.1)) Sh o.2) := ⟨(ite_ok h).1, Cn_of mk_X12_far.1.2.2.1 (Nat.le_of_ble_eq_true rfl) (fun sc => L_X12_far_b0 (ite_ok h).2)⟩
theorem d_X12_mercy_0 : decode mt_X12_mercy.2.1 0 = .ok (.aload_n 0, 1) := by decide +kernel
theorem d_X12_mercy_1 : decode mt_X12_mercy.2.1 1 = .ok (.iconst 0, 1) := by decide +kernel
theorem d_X12_mercy_2 : decode mt_X12_mercy.2.1 2 = .ok (.putfield 70, 3) := by decide +kernel
theorem d_X12_mercy_5 : decode mt_X12_mercy.2.1 5 = .ok (.aload_n 0, 1) := by decide +kernel
theorem d_X12_mercy_6 : decode mt_X12_mercy.2.1 6 = .ok (.iconst 0, 1) := by decide +kernel
theorem d_X12_mercy_7 : decode mt_X12_mercy.2.1 7 = .ok (.putfield 73, 3) := by decide +kernel
theorem d_X12_mercy_10 : decode mt_X12_mercy.2.1 10 = .ok (.aload_n 0, 1) := by decide +kernel
theorem d_X12_mercy_11 : decode mt_X12_mercy.2.1 11 = .ok (.iload_n 1, 1) := by decide +kernel
theorem d_X12_mercy_12 : decode mt_X12_mercy.2.1 12 = .ok (.i2l, 1) := by decide +kernel
theorem d_X12_mercy_13 : decode mt_X12_mercy.2.1 13 = .ok (.invokevirtual 330, 3) := by decide +kernel
theorem d_X12_mercy_16 : decode mt_X12_mercy.2.1 16 = .ok (.ifCond .eq 12, 3) := by decide +kernel
theorem d_X12_mercy_19 : decode mt_X12_mercy.2.1 19 = .ok (.aload_n 0, 1) := by decide +kernel
theorem d_X12_mercy_20 : decode mt_X12_mercy.2.1 20 = .ok (.iload_n 2, 1) := by decide +kernel
theorem d_X12_mercy_21 : decode mt_X12_mercy.2.1 21 = .ok (.i2l, 1) := by decide +kernel
theorem d_X12_mercy_22 : decode mt_X12_mercy.2.1 22 = .ok (.invokevirtual 330, 3) := by decide +kernel
theorem d_X12_mercy_25 : decode mt_X12_mercy.2.1 25 = .ok (.ifCond .ne 9, 3) := by decide +kernel
theorem d_X12_mercy_28 : decode mt_X12_mercy.2.1 28 = .ok (.aload_n 0, 1) := by decide +kernel
theorem d_X12_mercy_29 : decode mt_X12_mercy.2.1 29 = .ok (.iconst 2, 1) := by decide +kernel
theorem d_X12_mercy_30 : decode mt_X12_mercy.2.1 30 = .ok (.invokevirtual 318, 3) := by decide +kernel
theorem d_X12_mercy_33 : decode mt_X12_mercy.2.1 33 = .ok (.ireturn, 1) := by decide +kernel
theorem d_X12_mercy_34 : decode mt_X12_mercy.2.1 34 = .ok (.aload_n 0, 1) := by decide +kernel
theorem d_X12_mercy_35 : decode mt_X12_mercy.2.1 35 = .ok (.iload_n 1, 1) := by decide +kernel
theorem d_X12_mercy_36 : decode mt_X12_mercy.2.1 36 = .ok (.invokevirtual 305, 3) := by decide +kernel
theorem d_X12_mercy_39 : decode mt_X12_mercy.2.1 39 = .ok (.ifCond .eq 12, 3) := by decide +kernel
theorem d_X12_mercy_42 : decode mt_X12_mercy.2.1 42 = .ok (.aload_n 0, 1) := by decide +kernel
theorem d_X12_mercy_43 : decode mt_X12_mercy.2.1 43 = .ok (.iload_n 1, 1) := by decide +kernel
theorem d_X12_mercy_44 : decode mt_X12_mercy.2.1 44 = .ok (.iload_n 2, 1) := by decide +kernel
theorem d_X12_mercy_45 : decode mt_X12_mercy.2.1 45 = .ok (.invokevirtual 338, 3) := by decide +kernel
theorem d_X12_mercy_48 : decode mt_X12_mercy.2.1 48 = .ok (.goto 9, 3) := by decide +kernel
theorem d_X12_mercy_51 : decode mt_X12_mercy.2.1 51 = .ok (.aload_n 0, 1) := by decide +kernel
theorem d_X12_mercy_52 : decode mt_X12_mercy.2.1 52 = .ok (.bipush 8, 2) := by decide +kernel
theorem d_X12_mercy_54 : decode mt_X12_mercy.2.1 54 = .ok (.invokevirtual 318, 3) := by decide +kernel
theorem d_X12_mercy_57 : decode mt_X12_mercy.2.1 57 = .ok (.ireturn, 1) := by decide +kernel
noncomputable def f_X12_mercy_b28 (v0 : Int) (σ : Mem) : Option (Int × Mem) :=
  (f_X12_refuse v0 2 σ).bind fun r13 =>
  some (r13.1, r13.2)
theorem L_X12_mercy_b28 {sc : Nat × (Nat → Int32)} {o : Int × Mem} {v0 : Int} {σ : Mem} (h : f_X12_mercy_b28 v0 σ = some o) : E sc (Fm Sh (some (0, o.1)) Sh o.2) mt_X12_mercy 4 Sh Sh 28 [(2, v0), (9, 0), (9, 0)] [] Sh σ := by
  unfold f_X12_mercy_b28 at h
  refine E_aload_n d_X12_mercy_28 rfl (by decide) ?_
  refine E_iconst d_X12_mercy_29 (c32 rfl) ?_
  refine bd h (fun r13 q14 h => ?_)
  refine E_cV (as := [(0, 2)]) (st := []) (a := v0) d_X12_mercy_30 mk_X12_refuse nl_X12_318 (by omega) ⟨rfl, rfl, Nat.le_of_ble_eq_true rfl⟩ okX12 rfl (L_X12_refuse q14) ?_
  cases h
  exact E_iret d_X12_mercy_33 rfl
noncomputable def f_X12_mercy_b0 (v0 v1 v2 : Int) (σ : Mem) : Option (Int × Mem) :=
  (pf Sh σ 12 v0 1 0).bind fun σ1 =>
  (pf Sh σ1 12 v0 0 0).bind fun σ2 =>
  (f_X12_isPlaceAt v0 v1 σ2).bind fun r3 =>
  if r3 = 0 then
    f_X12_mercy_b28 v0 σ2
  else
    (f_X12_isPlaceAt v0 v2 σ2).bind fun r5 =>
    if r5 = 0 then
      f_X12_mercy_b28 v0 σ2
    else
      (f_X12_isStoneAt v0 v1 σ2).bind fun r7 =>
      if r7 = 0 then
        (f_X12_refuse v0 8 σ2).bind fun r9 =>
        some (r9.1, r9.2)
      else
        (f_X12_mercyOf v0 v1 v2 σ2).bind fun r11 =>
        some (r11, σ2)
theorem L_X12_mercy_b0 {sc : Nat × (Nat → Int32)} {o : Int × Mem} {v0 v1 v2 : Int} {σ : Mem} (h : f_X12_mercy_b0 v0 v1 v2 σ = some o) : E sc (Fm Sh (some (0, o.1)) Sh o.2) mt_X12_mercy 4 Sh Sh 0 [(2, v0), (0, v1), (0, v2)] [] Sh σ := by
  unfold f_X12_mercy_b0 at h
  refine E_aload_n d_X12_mercy_0 rfl (by decide) ?_
  refine E_iconst d_X12_mercy_1 (c32 rfl) ?_
  refine E_put d_X12_mercy_2 okX12 fl_X12_70 ⟨by decide, rfl⟩ (Or.inl ⟨rfl, rfl⟩) (Or.inl rfl) h (fun σ1 h => ?_)
  refine E_aload_n d_X12_mercy_5 rfl (by decide) ?_
  refine E_iconst d_X12_mercy_6 (c32 rfl) ?_
  refine E_put d_X12_mercy_7 okX12 fl_X12_73 ⟨by decide, rfl⟩ (Or.inl ⟨rfl, rfl⟩) (Or.inl rfl) h (fun σ2 h => ?_)
  refine E_aload_n d_X12_mercy_10 rfl (by decide) ?_
  refine E_iload_n d_X12_mercy_11 rfl ?_
  refine E_i2l d_X12_mercy_12 ?_
  refine bd h (fun r3 q4 h => ?_)
  refine E_cV (as := [(1, v1)]) (st := []) (a := v0) d_X12_mercy_13 mk_X12_isPlaceAt nl_X12_330 (by omega) ⟨rfl, rfl, Nat.le_of_ble_eq_true rfl⟩ okX12 rfl (L_X12_isPlaceAt q4) ?_
  refine E_if_eq (tgt := 28) d_X12_mercy_16 (by decide) h (fun _ h => ?_) (fun _ h => ?_)
  · exact E_weak (ls' := [(2, v0), (9, 0), (9, 0)]) ⟨Or.inr rfl, Or.inl rfl, Or.inl rfl, trivial⟩ (L_X12_mercy_b28 h)
  · refine E_aload_n d_X12_mercy_19 rfl (by decide) ?_
    refine E_iload_n d_X12_mercy_20 rfl ?_
    refine E_i2l d_X12_mercy_21 ?_
    refine bd h (fun r5 q6 h => ?_)
    refine E_cV (as := [(1, v2)]) (st := []) (a := v0) d_X12_mercy_22 mk_X12_isPlaceAt nl_X12_330 (by omega) ⟨rfl, rfl, Nat.le_of_ble_eq_true rfl⟩ okX12 rfl (L_X12_isPlaceAt q6) ?_
    refine E_if_ne (tgt := 34) d_X12_mercy_25 (by decide) h (fun _ h => ?_) (fun _ h => ?_)
    · exact E_weak (ls' := [(2, v0), (9, 0), (9, 0)]) ⟨Or.inr rfl, Or.inl rfl, Or.inl rfl, trivial⟩ (L_X12_mercy_b28 h)
    · refine E_aload_n d_X12_mercy_34 rfl (by decide) ?_
      refine E_iload_n d_X12_mercy_35 rfl ?_
      refine bd h (fun r7 q8 h => ?_)
      refine E_cV (as := [(0, v1)]) (st := []) (a := v0) d_X12_mercy_36 mk_X12_isStoneAt nl_X12_305 (by omega) ⟨rfl, rfl, Nat.le_of_ble_eq_true rfl⟩ okX12 rfl (L_X12_isStoneAt q8) ?_
      refine E_if_eq (tgt := 51) d_X12_mercy_39 (by decide) h (fun _ h => ?_) (fun _ h => ?_)
      · refine E_aload_n d_X12_mercy_51 rfl (by decide) ?_
        refine E_bipush d_X12_mercy_52 (c8 rfl) ?_
        refine bd h (fun r9 q10 h => ?_)
        refine E_cV (as := [(0, 8)]) (st := []) (a := v0) d_X12_mercy_54 mk_X12_refuse nl_X12_318 (by omega) ⟨rfl, rfl, Nat.le_of_ble_eq_true rfl⟩ okX12 rfl (L_X12_refuse q10) ?_
        cases h
        exact E_iret d_X12_mercy_57 rfl
      · refine E_aload_n d_X12_mercy_42 rfl (by decide) ?_
        refine E_iload_n d_X12_mercy_43 rfl ?_
        refine E_iload_n d_X12_mercy_44 rfl ?_
        refine bd h (fun r11 q12 h => ?_)
        refine E_cV (as := [(0, v1), (0, v2)]) (st := []) (a := v0) d_X12_mercy_45 mk_X12_mercyOf nl_X12_338 (by omega) ⟨rfl, rfl, Nat.le_of_ble_eq_true rfl⟩ okX12 rfl (L_X12_mercyOf q12) ?_
        refine E_goto (tgt := 57) d_X12_mercy_48 (by decide) ?_
        cases h
        exact E_iret d_X12_mercy_57 rfl
noncomputable def f_X12_mercy (v0 v1 v2 : Int) (σ : Mem) : Option (Int × Mem) := if isO Sh 12 v0 = true then f_X12_mercy_b0 v0 v1 v2 σ else none
theorem L_X12_mercy {o : Int × Mem} {v0 v1 v2 : Int} {σ : Mem} (h : f_X12_mercy v0 v1 v2 σ = some o) : (isO Sh 12 v0 = true ∧ Cn mt_X12_mercy 4 [(2, v0), (0, v1), (0, v2)] Sh σ (some (0, o.1)) Sh o.2) := ⟨(ite_ok h).1, Cn_of mk_X12_mercy.1.2.2.1 (Nat.le_of_ble_eq_true rfl) (fun sc => L_X12_mercy_b0 (ite_ok h).2)⟩
theorem d_X12_turned_0 : decode mt_X12_turned.2.1 0 = .ok (.aload_n 0, 1) := by decide +kernel
theorem d_X12_turned_1 : decode mt_X12_turned.2.1 1 = .ok (.iconst 0, 1) := by decide +kernel
theorem d_X12_turned_2 : decode mt_X12_turned.2.1 2 = .ok (.putfield 70, 3) := by decide +kernel
theorem d_X12_turned_5 : decode mt_X12_turned.2.1 5 = .ok (.aload_n 0, 1) := by decide +kernel
theorem d_X12_turned_6 : decode mt_X12_turned.2.1 6 = .ok (.aload_n 0, 1) := by decide +kernel
theorem d_X12_turned_7 : decode mt_X12_turned.2.1 7 = .ok (.iload_n 1, 1) := by decide +kernel
theorem d_X12_turned_8 : decode mt_X12_turned.2.1 8 = .ok (.iload_n 2, 1) := by decide +kernel
theorem d_X12_turned_9 : decode mt_X12_turned.2.1 9 = .ok (.invokevirtual 363, 3) := by decide +kernel
theorem d_X12_turned_12 : decode mt_X12_turned.2.1 12 = .ok (.putfield 73, 3) := by decide +kernel
theorem d_X12_turned_15 : decode mt_X12_turned.2.1 15 = .ok (.aload_n 0, 1) := by decide +kernel
theorem d_X12_turned_16 : decode mt_X12_turned.2.1 16 = .ok (.getfield 73, 3) := by decide +kernel
theorem d_X12_turned_19 : decode mt_X12_turned.2.1 19 = .ok (.ifCond .le 7, 3) := by decide +kernel
theorem d_X12_turned_22 : decode mt_X12_turned.2.1 22 = .ok (.iconst (-1), 1) := by decide +kernel
theorem d_X12_turned_23 : decode mt_X12_turned.2.1 23 = .ok (.goto 9, 3) := by decide +kernel
theorem d_X12_turned_26 : decode mt_X12_turned.2.1 26 = .ok (.aload_n 0, 1) := by decide +kernel
theorem d_X12_turned_27 : decode mt_X12_turned.2.1 27 = .ok (.iload_n 1, 1) := by decide +kernel
theorem d_X12_turned_28 : decode mt_X12_turned.2.1 28 = .ok (.iload_n 2, 1) := by decide +kernel
theorem d_X12_turned_29 : decode mt_X12_turned.2.1 29 = .ok (.invokevirtual 351, 3) := by decide +kernel
theorem d_X12_turned_32 : decode mt_X12_turned.2.1 32 = .ok (.ireturn, 1) := by decide +kernel
noncomputable def f_X12_turned_b0 (v0 v1 v2 : Int) (σ : Mem) : Option (Int × Mem) :=
  (pf Sh σ 12 v0 1 0).bind fun σ1 =>
  (f_X12_whyNoTrial v0 v1 v2 σ1).bind fun r2 =>
  (pf Sh σ1 12 v0 0 r2).bind fun σ4 =>
  (gf Sh σ4 12 v0 0).bind fun x5 =>
  if x5 ≤ 0 then
    (f_X12_turnedFrom v0 v1 v2 σ4).bind fun r6 =>
    some (r6, σ4)
  else
    some ((-1), σ4)
theorem L_X12_turned_b0 {sc : Nat × (Nat → Int32)} {o : Int × Mem} {v0 v1 v2 : Int} {σ : Mem} (h : f_X12_turned_b0 v0 v1 v2 σ = some o) : E sc (Fm Sh (some (0, o.1)) Sh o.2) mt_X12_turned 5 Sh Sh 0 [(2, v0), (0, v1), (0, v2)] [] Sh σ := by
  unfold f_X12_turned_b0 at h
  refine E_aload_n d_X12_turned_0 rfl (by decide) ?_
  refine E_iconst d_X12_turned_1 (c32 rfl) ?_
  refine E_put d_X12_turned_2 okX12 fl_X12_70 ⟨by decide, rfl⟩ (Or.inl ⟨rfl, rfl⟩) (Or.inl rfl) h (fun σ1 h => ?_)
  refine E_aload_n d_X12_turned_5 rfl (by decide) ?_
  refine E_aload_n d_X12_turned_6 rfl (by decide) ?_
  refine E_iload_n d_X12_turned_7 rfl ?_
  refine E_iload_n d_X12_turned_8 rfl ?_
  refine bd h (fun r2 q3 h => ?_)
  refine E_cV (as := [(0, v1), (0, v2)]) (st := [(2, v0)]) (a := v0) d_X12_turned_9 mk_X12_whyNoTrial nl_X12_363 (by omega) ⟨rfl, rfl, Nat.le_of_ble_eq_true rfl⟩ okX12 rfl (L_X12_whyNoTrial q3) ?_
  refine E_put d_X12_turned_12 okX12 fl_X12_73 ⟨by decide, rfl⟩ (Or.inl ⟨rfl, rfl⟩) (Or.inl rfl) h (fun σ4 h => ?_)
  refine E_aload_n d_X12_turned_15 rfl (by decide) ?_
  refine E_get d_X12_turned_16 okX12 fl_X12_73 ⟨by decide, rfl⟩ h (fun x5 h => ?_)
  refine E_if_le (tgt := 26) d_X12_turned_19 (by decide) h (fun _ h => ?_) (fun _ h => ?_)
  · refine E_aload_n d_X12_turned_26 rfl (by decide) ?_
    refine E_iload_n d_X12_turned_27 rfl ?_
    refine E_iload_n d_X12_turned_28 rfl ?_
    refine bd h (fun r6 q7 h => ?_)
    refine E_cV (as := [(0, v1), (0, v2)]) (st := []) (a := v0) d_X12_turned_29 mk_X12_turnedFrom nl_X12_351 (by omega) ⟨rfl, rfl, Nat.le_of_ble_eq_true rfl⟩ okX12 rfl (L_X12_turnedFrom q7) ?_
    cases h
    exact E_iret d_X12_turned_32 rfl
  · refine E_iconst d_X12_turned_22 (c32 rfl) ?_
    refine E_goto (tgt := 32) d_X12_turned_23 (by decide) ?_
    cases h
    exact E_iret d_X12_turned_32 rfl
noncomputable def f_X12_turned (v0 v1 v2 : Int) (σ : Mem) : Option (Int × Mem) := if isO Sh 12 v0 = true then f_X12_turned_b0 v0 v1 v2 σ else none
theorem L_X12_turned {o : Int × Mem} {v0 v1 v2 : Int} {σ : Mem} (h : f_X12_turned v0 v1 v2 σ = some o) : (isO Sh 12 v0 = true ∧ Cn mt_X12_turned 5 [(2, v0), (0, v1), (0, v2)] Sh σ (some (0, o.1)) Sh o.2) := ⟨(ite_ok h).1, Cn_of mk_X12_turned.1.2.2.1 (Nat.le_of_ble_eq_true rfl) (fun sc => L_X12_turned_b0 (ite_ok h).2)⟩
theorem d_X12_verdict_0 : decode mt_X12_verdict.2.1 0 = .ok (.aload_n 0, 1) := by decide +kernel
theorem d_X12_verdict_1 : decode mt_X12_verdict.2.1 1 = .ok (.iconst 0, 1) := by decide +kernel
theorem d_X12_verdict_2 : decode mt_X12_verdict.2.1 2 = .ok (.putfield 70, 3) := by decide +kernel
theorem d_X12_verdict_5 : decode mt_X12_verdict.2.1 5 = .ok (.aload_n 0, 1) := by decide +kernel
theorem d_X12_verdict_6 : decode mt_X12_verdict.2.1 6 = .ok (.aload_n 0, 1) := by decide +kernel
theorem d_X12_verdict_7 : decode mt_X12_verdict.2.1 7 = .ok (.iload_n 1, 1) := by decide +kernel
theorem d_X12_verdict_8 : decode mt_X12_verdict.2.1 8 = .ok (.iload_n 2, 1) := by decide +kernel
theorem d_X12_verdict_9 : decode mt_X12_verdict.2.1 9 = .ok (.invokevirtual 363, 3) := by decide +kernel
theorem d_X12_verdict_12 : decode mt_X12_verdict.2.1 12 = .ok (.putfield 73, 3) := by decide +kernel
theorem d_X12_verdict_15 : decode mt_X12_verdict.2.1 15 = .ok (.aload_n 0, 1) := by decide +kernel
theorem d_X12_verdict_16 : decode mt_X12_verdict.2.1 16 = .ok (.getfield 73, 3) := by decide +kernel
theorem d_X12_verdict_19 : decode mt_X12_verdict.2.1 19 = .ok (.ifCond .le 7, 3) := by decide +kernel
theorem d_X12_verdict_22 : decode mt_X12_verdict.2.1 22 = .ok (.iconst (-1), 1) := by decide +kernel
theorem d_X12_verdict_23 : decode mt_X12_verdict.2.1 23 = .ok (.goto 17, 3) := by decide +kernel
theorem d_X12_verdict_26 : decode mt_X12_verdict.2.1 26 = .ok (.aload_n 0, 1) := by decide +kernel
theorem d_X12_verdict_27 : decode mt_X12_verdict.2.1 27 = .ok (.iload_n 1, 1) := by decide +kernel
theorem d_X12_verdict_28 : decode mt_X12_verdict.2.1 28 = .ok (.iload_n 2, 1) := by decide +kernel
theorem d_X12_verdict_29 : decode mt_X12_verdict.2.1 29 = .ok (.invokevirtual 357, 3) := by decide +kernel
theorem d_X12_verdict_32 : decode mt_X12_verdict.2.1 32 = .ok (.ifCond .eq 7, 3) := by decide +kernel
theorem d_X12_verdict_35 : decode mt_X12_verdict.2.1 35 = .ok (.iconst 1, 1) := by decide +kernel
theorem d_X12_verdict_36 : decode mt_X12_verdict.2.1 36 = .ok (.goto 4, 3) := by decide +kernel
theorem d_X12_verdict_39 : decode mt_X12_verdict.2.1 39 = .ok (.iconst 0, 1) := by decide +kernel
theorem d_X12_verdict_40 : decode mt_X12_verdict.2.1 40 = .ok (.ireturn, 1) := by decide +kernel
noncomputable def f_X12_verdict_b0 (v0 v1 v2 : Int) (σ : Mem) : Option (Int × Mem) :=
  (pf Sh σ 12 v0 1 0).bind fun σ1 =>
  (f_X12_whyNoTrial v0 v1 v2 σ1).bind fun r2 =>
  (pf Sh σ1 12 v0 0 r2).bind fun σ4 =>
  (gf Sh σ4 12 v0 0).bind fun x5 =>
  if x5 ≤ 0 then
    (f_X12_isCondemned v0 v1 v2 σ4).bind fun r6 =>
    if r6 = 0 then
      some (0, σ4)
    else
      some (1, σ4)
  else
    some ((-1), σ4)
theorem L_X12_verdict_b0 {sc : Nat × (Nat → Int32)} {o : Int × Mem} {v0 v1 v2 : Int} {σ : Mem} (h : f_X12_verdict_b0 v0 v1 v2 σ = some o) : E sc (Fm Sh (some (0, o.1)) Sh o.2) mt_X12_verdict 6 Sh Sh 0 [(2, v0), (0, v1), (0, v2)] [] Sh σ := by
  unfold f_X12_verdict_b0 at h
  refine E_aload_n d_X12_verdict_0 rfl (by decide) ?_
  refine E_iconst d_X12_verdict_1 (c32 rfl) ?_
  refine E_put d_X12_verdict_2 okX12 fl_X12_70 ⟨by decide, rfl⟩ (Or.inl ⟨rfl, rfl⟩) (Or.inl rfl) h (fun σ1 h => ?_)
  refine E_aload_n d_X12_verdict_5 rfl (by decide) ?_
  refine E_aload_n d_X12_verdict_6 rfl (by decide) ?_
  refine E_iload_n d_X12_verdict_7 rfl ?_
  refine E_iload_n d_X12_verdict_8 rfl ?_
  refine bd h (fun r2 q3 h => ?_)
  refine E_cV (as := [(0, v1), (0, v2)]) (st := [(2, v0)]) (a := v0) d_X12_verdict_9 mk_X12_whyNoTrial nl_X12_363 (by omega) ⟨rfl, rfl, Nat.le_of_ble_eq_true rfl⟩ okX12 rfl (L_X12_whyNoTrial q3) ?_
  refine E_put d_X12_verdict_12 okX12 fl_X12_73 ⟨by decide, rfl⟩ (Or.inl ⟨rfl, rfl⟩) (Or.inl rfl) h (fun σ4 h => ?_)
  refine E_aload_n d_X12_verdict_15 rfl (by decide) ?_
  refine E_get d_X12_verdict_16 okX12 fl_X12_73 ⟨by decide, rfl⟩ h (fun x5 h => ?_)
  refine E_if_le (tgt := 26) d_X12_verdict_19 (by decide) h (fun _ h => ?_) (fun _ h => ?_)
  · refine E_aload_n d_X12_verdict_26 rfl (by decide) ?_
    refine E_iload_n d_X12_verdict_27 rfl ?_
    refine E_iload_n d_X12_verdict_28 rfl ?_
    refine bd h (fun r6 q7 h => ?_)
    refine E_cV (as := [(0, v1), (0, v2)]) (st := []) (a := v0) d_X12_verdict_29 mk_X12_isCondemned nl_X12_357 (by omega) ⟨rfl, rfl, Nat.le_of_ble_eq_true rfl⟩ okX12 rfl (L_X12_isCondemned q7) ?_
    refine E_if_eq (tgt := 39) d_X12_verdict_32 (by decide) h (fun _ h => ?_) (fun _ h => ?_)
    · refine E_iconst d_X12_verdict_39 (c32 rfl) ?_
      cases h
      exact E_iret d_X12_verdict_40 rfl
    · refine E_iconst d_X12_verdict_35 (c32 rfl) ?_
      refine E_goto (tgt := 40) d_X12_verdict_36 (by decide) ?_
      cases h
      exact E_iret d_X12_verdict_40 rfl
  · refine E_iconst d_X12_verdict_22 (c32 rfl) ?_
    refine E_goto (tgt := 40) d_X12_verdict_23 (by decide) ?_
    cases h
    exact E_iret d_X12_verdict_40 rfl
noncomputable def f_X12_verdict (v0 v1 v2 : Int) (σ : Mem) : Option (Int × Mem) := if isO Sh 12 v0 = true then f_X12_verdict_b0 v0 v1 v2 σ else none
theorem L_X12_verdict {o : Int × Mem} {v0 v1 v2 : Int} {σ : Mem} (h : f_X12_verdict v0 v1 v2 σ = some o) : (isO Sh 12 v0 = true ∧ Cn mt_X12_verdict 6 [(2, v0), (0, v1), (0, v2)] Sh σ (some (0, o.1)) Sh o.2) := ⟨(ite_ok h).1, Cn_of mk_X12_verdict.1.2.2.1 (Nat.le_of_ble_eq_true rfl) (fun sc => L_X12_verdict_b0 (ite_ok h).2)⟩
theorem d_X12_placeBy_0 : decode mt_X12_placeBy.2.1 0 = .ok (.aload_n 0, 1) := by decide +kernel
theorem d_X12_placeBy_1 : decode mt_X12_placeBy.2.1 1 = .ok (.iconst 0, 1) := by decide +kernel
theorem d_X12_placeBy_2 : decode mt_X12_placeBy.2.1 2 = .ok (.putfield 70, 3) := by decide +kernel
theorem d_X12_placeBy_5 : decode mt_X12_placeBy.2.1 5 = .ok (.aload_n 0, 1) := by decide +kernel
theorem d_X12_placeBy_6 : decode mt_X12_placeBy.2.1 6 = .ok (.iconst 0, 1) := by decide +kernel
theorem d_X12_placeBy_7 : decode mt_X12_placeBy.2.1 7 = .ok (.putfield 73, 3) := by decide +kernel
theorem d_X12_placeBy_10 : decode mt_X12_placeBy.2.1 10 = .ok (.iload_n 1, 1) := by decide +kernel
theorem d_X12_placeBy_11 : decode mt_X12_placeBy.2.1 11 = .ok (.i2l, 1) := by decide +kernel
theorem d_X12_placeBy_12 : decode mt_X12_placeBy.2.1 12 = .ok (.lconst 0, 1) := by decide +kernel
theorem d_X12_placeBy_13 : decode mt_X12_placeBy.2.1 13 = .ok (.ldc2_w 370, 3) := by decide +kernel
theorem d_X12_placeBy_16 : decode mt_X12_placeBy.2.1 16 = .ok (.invokestatic 104, 3) := by decide +kernel
theorem d_X12_placeBy_19 : decode mt_X12_placeBy.2.1 19 = .ok (.ifCond .ne 9, 3) := by decide +kernel
theorem d_X12_placeBy_22 : decode mt_X12_placeBy.2.1 22 = .ok (.aload_n 0, 1) := by decide +kernel
theorem d_X12_placeBy_23 : decode mt_X12_placeBy.2.1 23 = .ok (.iconst 5, 1) := by decide +kernel
theorem d_X12_placeBy_24 : decode mt_X12_placeBy.2.1 24 = .ok (.invokevirtual 318, 3) := by decide +kernel
theorem d_X12_placeBy_27 : decode mt_X12_placeBy.2.1 27 = .ok (.ireturn, 1) := by decide +kernel
theorem d_X12_placeBy_28 : decode mt_X12_placeBy.2.1 28 = .ok (.iconst (-1), 1) := by decide +kernel
theorem d_X12_placeBy_29 : decode mt_X12_placeBy.2.1 29 = .ok (.istore_n 3, 1) := by decide +kernel
theorem d_X12_placeBy_30 : decode mt_X12_placeBy.2.1 30 = .ok (.iconst 0, 1) := by decide +kernel
theorem d_X12_placeBy_31 : decode mt_X12_placeBy.2.1 31 = .ok (.istore 4, 2) := by decide +kernel
theorem d_X12_placeBy_33 : decode mt_X12_placeBy.2.1 33 = .ok (.iconst 0, 1) := by decide +kernel
theorem d_X12_placeBy_34 : decode mt_X12_placeBy.2.1 34 = .ok (.istore 5, 2) := by decide +kernel
theorem d_X12_placeBy_36 : decode mt_X12_placeBy.2.1 36 = .ok (.iload 5, 2) := by decide +kernel
theorem d_X12_placeBy_38 : decode mt_X12_placeBy.2.1 38 = .ok (.aload_n 0, 1) := by decide +kernel
theorem d_X12_placeBy_39 : decode mt_X12_placeBy.2.1 39 = .ok (.getfield 35, 3) := by decide +kernel
theorem d_X12_placeBy_42 : decode mt_X12_placeBy.2.1 42 = .ok (.iconst 0, 1) := by decide +kernel
theorem d_X12_placeBy_43 : decode mt_X12_placeBy.2.1 43 = .ok (.iaload, 1) := by decide +kernel
theorem d_X12_placeBy_44 : decode mt_X12_placeBy.2.1 44 = .ok (.if_icmp .ge 65, 3) := by decide +kernel
theorem d_X12_placeBy_47 : decode mt_X12_placeBy.2.1 47 = .ok (.aload_n 0, 1) := by decide +kernel
theorem d_X12_placeBy_48 : decode mt_X12_placeBy.2.1 48 = .ok (.iload_n 1, 1) := by decide +kernel
theorem d_X12_placeBy_49 : decode mt_X12_placeBy.2.1 49 = .ok (.iload 5, 2) := by decide +kernel
theorem d_X12_placeBy_51 : decode mt_X12_placeBy.2.1 51 = .ok (.invokevirtual 351, 3) := by decide +kernel
theorem d_X12_placeBy_54 : decode mt_X12_placeBy.2.1 54 = .ok (.invokestatic 324, 3) := by decide +kernel
theorem d_X12_placeBy_57 : decode mt_X12_placeBy.2.1 57 = .ok (.istore 6, 2) := by decide +kernel
theorem d_X12_placeBy_59 : decode mt_X12_placeBy.2.1 59 = .ok (.aload_n 0, 1) := by decide +kernel
theorem d_X12_placeBy_60 : decode mt_X12_placeBy.2.1 60 = .ok (.iload 5, 2) := by decide +kernel
theorem d_X12_placeBy_62 : decode mt_X12_placeBy.2.1 62 = .ok (.invokevirtual 305, 3) := by decide +kernel
theorem d_X12_placeBy_65 : decode mt_X12_placeBy.2.1 65 = .ok (.ifCond .eq 38, 3) := by decide +kernel
theorem d_X12_placeBy_68 : decode mt_X12_placeBy.2.1 68 = .ok (.iload_n 3, 1) := by decide +kernel
theorem d_X12_placeBy_69 : decode mt_X12_placeBy.2.1 69 = .ok (.ifCond .lt 27, 3) := by decide +kernel
theorem d_X12_placeBy_72 : decode mt_X12_placeBy.2.1 72 = .ok (.iload_n 2, 1) := by decide +kernel
theorem d_X12_placeBy_73 : decode mt_X12_placeBy.2.1 73 = .ok (.ifCond .eq 13, 3) := by decide +kernel
theorem d_X12_placeBy_76 : decode mt_X12_placeBy.2.1 76 = .ok (.iload 6, 2) := by decide +kernel
theorem d_X12_placeBy_78 : decode mt_X12_placeBy.2.1 78 = .ok (.iload 4, 2) := by decide +kernel
theorem d_X12_placeBy_80 : decode mt_X12_placeBy.2.1 80 = .ok (.if_icmp .gt 16, 3) := by decide +kernel
theorem d_X12_placeBy_83 : decode mt_X12_placeBy.2.1 83 = .ok (.goto 20, 3) := by decide +kernel
theorem d_X12_placeBy_86 : decode mt_X12_placeBy.2.1 86 = .ok (.iload 6, 2) := by decide +kernel
theorem d_X12_placeBy_88 : decode mt_X12_placeBy.2.1 88 = .ok (.iload 4, 2) := by decide +kernel
theorem d_X12_placeBy_90 : decode mt_X12_placeBy.2.1 90 = .ok (.if_icmp .lt 6, 3) := by decide +kernel
theorem d_X12_placeBy_93 : decode mt_X12_placeBy.2.1 93 = .ok (.goto 10, 3) := by decide +kernel
theorem d_X12_placeBy_96 : decode mt_X12_placeBy.2.1 96 = .ok (.iload 5, 2) := by decide +kernel
theorem d_X12_placeBy_98 : decode mt_X12_placeBy.2.1 98 = .ok (.istore_n 3, 1) := by decide +kernel
theorem d_X12_placeBy_99 : decode mt_X12_placeBy.2.1 99 = .ok (.iload 6, 2) := by decide +kernel
theorem d_X12_placeBy_101 : decode mt_X12_placeBy.2.1 101 = .ok (.istore 4, 2) := by decide +kernel
theorem d_X12_placeBy_103 : decode mt_X12_placeBy.2.1 103 = .ok (.iinc 5 1, 3) := by decide +kernel
theorem d_X12_placeBy_106 : decode mt_X12_placeBy.2.1 106 = .ok (.goto (-70), 3) := by decide +kernel
theorem d_X12_placeBy_109 : decode mt_X12_placeBy.2.1 109 = .ok (.iload_n 3, 1) := by decide +kernel
theorem d_X12_placeBy_110 : decode mt_X12_placeBy.2.1 110 = .ok (.ifCond .ge 12, 3) := by decide +kernel
theorem d_X12_placeBy_113 : decode mt_X12_placeBy.2.1 113 = .ok (.aload_n 0, 1) := by decide +kernel
theorem d_X12_placeBy_114 : decode mt_X12_placeBy.2.1 114 = .ok (.bipush 8, 2) := by decide +kernel
theorem d_X12_placeBy_116 : decode mt_X12_placeBy.2.1 116 = .ok (.invokevirtual 318, 3) := by decide +kernel
theorem d_X12_placeBy_119 : decode mt_X12_placeBy.2.1 119 = .ok (.goto 4, 3) := by decide +kernel
theorem d_X12_placeBy_122 : decode mt_X12_placeBy.2.1 122 = .ok (.iload_n 3, 1) := by decide +kernel
theorem d_X12_placeBy_123 : decode mt_X12_placeBy.2.1 123 = .ok (.ireturn, 1) := by decide +kernel
noncomputable def f_X12_placeBy_b103 (k36 : (Int → Int → Int → Int → Int → Int → Mem → Option (Int × Mem))) (v0 v1 v2 v3 v4 v5 : Int) (σ : Mem) : Option (Int × Mem) :=
  k36 v0 v1 v2 v3 v4 (w32 (v5 + 1)) σ
theorem L_X12_placeBy_b103 {sc : Nat × (Nat → Int32)} {o : Int × Mem} {k36 : (Int → Int → Int → Int → Int → Int → Mem → Option (Int × Mem))} (hk36 : ∀ {v0 v1 v2 v3 v4 v5 : Int} {σ : Mem}, k36 v0 v1 v2 v3 v4 v5 σ = some o → E sc (Fm Sh (some (0, o.1)) Sh o.2) mt_X12_placeBy 5 Sh Sh 36 [(2, v0), (0, v1), (0, v2), (0, v3), (0, v4), (0, v5), (9, 0)] [] Sh σ) {v0 v1 v2 v3 v4 v5 : Int} {σ : Mem} (h : f_X12_placeBy_b103 k36 v0 v1 v2 v3 v4 v5 σ = some o) : E sc (Fm Sh (some (0, o.1)) Sh o.2) mt_X12_placeBy 5 Sh Sh 103 [(2, v0), (0, v1), (0, v2), (0, v3), (0, v4), (0, v5), (9, 0)] [] Sh σ := by
  unfold f_X12_placeBy_b103 at h
  refine E_iinc d_X12_placeBy_103 (ls' := [(2, v0), (0, v1), (0, v2), (0, v3), (0, v4), (0, w32 (v5 + 1)), (9, 0)]) rfl ⟨by decide, rfl⟩ ?_
  refine E_goto (tgt := 36) d_X12_placeBy_106 (by decide) ?_
  exact (hk36 h)
noncomputable def f_X12_placeBy_b96 (k36 : (Int → Int → Int → Int → Int → Int → Mem → Option (Int × Mem))) (v0 v1 v2 v5 v6 : Int) (σ : Mem) : Option (Int × Mem) :=
  f_X12_placeBy_b103 k36 v0 v1 v2 v5 v6 v5 σ
theorem L_X12_placeBy_b96 {sc : Nat × (Nat → Int32)} {o : Int × Mem} {k36 : (Int → Int → Int → Int → Int → Int → Mem → Option (Int × Mem))} (hk36 : ∀ {v0 v1 v2 v3 v4 v5 : Int} {σ : Mem}, k36 v0 v1 v2 v3 v4 v5 σ = some o → E sc (Fm Sh (some (0, o.1)) Sh o.2) mt_X12_placeBy 5 Sh Sh 36 [(2, v0), (0, v1), (0, v2), (0, v3), (0, v4), (0, v5), (9, 0)] [] Sh σ) {v0 v1 v2 v5 v6 : Int} {σ : Mem} (h : f_X12_placeBy_b96 k36 v0 v1 v2 v5 v6 σ = some o) : E sc (Fm Sh (some (0, o.1)) Sh o.2) mt_X12_placeBy 5 Sh Sh 96 [(2, v0), (0, v1), (0, v2), (9, 0), (9, 0), (0, v5), (0, v6)] [] Sh σ := by
  unfold f_X12_placeBy_b96 at h
  refine E_iload d_X12_placeBy_96 rfl ?_
  refine E_istore_n d_X12_placeBy_98 (ls' := [(2, v0), (0, v1), (0, v2), (0, v5), (9, 0), (0, v5), (0, v6)]) ⟨by decide, rfl⟩ ?_
  refine E_iload d_X12_placeBy_99 rfl ?_
  refine E_istore d_X12_placeBy_101 (ls' := [(2, v0), (0, v1), (0, v2), (0, v5), (0, v6), (0, v5), (0, v6)]) ⟨by decide, rfl⟩ ?_
  exact E_weak (ls' := [(2, v0), (0, v1), (0, v2), (0, v5), (0, v6), (0, v5), (9, 0)]) ⟨Or.inr rfl, Or.inr rfl, Or.inr rfl, Or.inr rfl, Or.inr rfl, Or.inr rfl, Or.inl rfl, trivial⟩ (L_X12_placeBy_b103 hk36 h)
noncomputable def f_X12_placeBy_b36 (k36 : (Int → Int → Int → Int → Int → Int → Mem → Option (Int × Mem))) (v0 v1 v2 v3 v4 v5 : Int) (σ : Mem) : Option (Int × Mem) :=
  (gf Sh σ 12 v0 20).bind fun x7 =>
  (al Sh σ 20 x7 0).bind fun x8 =>
  if x8 ≤ v5 then
    if 0 ≤ v3 then
      some (v3, σ)
    else
      (f_X12_refuse v0 8 σ).bind fun r9 =>
      some (r9.1, r9.2)
  else
    (f_X12_turnedFrom v0 v1 v5 σ).bind fun r11 =>
    (f_X12_sizeOf r11 σ).bind fun r13 =>
    (f_X12_isStoneAt v0 v5 σ).bind fun r15 =>
    if r15 = 0 then
      f_X12_placeBy_b103 k36 v0 v1 v2 v3 v4 v5 σ
    else
      if v3 < 0 then
        f_X12_placeBy_b96 k36 v0 v1 v2 v5 r13 σ
      else
        if v2 = 0 then
          if r13 < v4 then
            f_X12_placeBy_b96 k36 v0 v1 v2 v5 r13 σ
          else
            f_X12_placeBy_b103 k36 v0 v1 v2 v3 v4 v5 σ
        else
          if v4 < r13 then
            f_X12_placeBy_b96 k36 v0 v1 v2 v5 r13 σ
          else
            f_X12_placeBy_b103 k36 v0 v1 v2 v3 v4 v5 σ
theorem L_X12_placeBy_b36 {sc : Nat × (Nat → Int32)} {o : Int × Mem} {k36 : (Int → Int → Int → Int → Int → Int → Mem → Option (Int × Mem))} (hk36 : ∀ {v0 v1 v2 v3 v4 v5 : Int} {σ : Mem}, k36 v0 v1 v2 v3 v4 v5 σ = some o → E sc (Fm Sh (some (0, o.1)) Sh o.2) mt_X12_placeBy 5 Sh Sh 36 [(2, v0), (0, v1), (0, v2), (0, v3), (0, v4), (0, v5), (9, 0)] [] Sh σ) {v0 v1 v2 v3 v4 v5 : Int} {σ : Mem} (h : f_X12_placeBy_b36 k36 v0 v1 v2 v3 v4 v5 σ = some o) : E sc (Fm Sh (some (0, o.1)) Sh o.2) mt_X12_placeBy 5 Sh Sh 36 [(2, v0), (0, v1), (0, v2), (0, v3), (0, v4), (0, v5), (9, 0)] [] Sh σ := by
  unfold f_X12_placeBy_b36 at h
  refine E_iload d_X12_placeBy_36 rfl ?_
  refine E_aload_n d_X12_placeBy_38 rfl (by decide) ?_
  refine E_get d_X12_placeBy_39 okX12 fl_X12_35 ⟨by decide, rfl⟩ h (fun x7 h => ?_)
  refine E_iconst d_X12_placeBy_42 (c32 rfl) ?_
  refine E_iaload d_X12_placeBy_43 h (fun x8 h => ?_)
  refine E_icmp_ge (tgt := 109) d_X12_placeBy_44 (by decide) h (fun _ h => ?_) (fun _ h => ?_)
  · refine E_iload_n d_X12_placeBy_109 rfl ?_
    refine E_if_ge (tgt := 122) d_X12_placeBy_110 (by decide) h (fun _ h => ?_) (fun _ h => ?_)
    · refine E_iload_n d_X12_placeBy_122 rfl ?_
      cases h
      exact E_iret d_X12_placeBy_123 rfl
    · refine E_aload_n d_X12_placeBy_113 rfl (by decide) ?_
      refine E_bipush d_X12_placeBy_114 (c8 rfl) ?_
      refine bd h (fun r9 q10 h => ?_)
      refine E_cV (as := [(0, 8)]) (st := []) (a := v0) d_X12_placeBy_116 mk_X12_refuse nl_X12_318 (by omega) ⟨rfl, rfl, Nat.le_of_ble_eq_true rfl⟩ okX12 rfl (L_X12_refuse q10) ?_
      refine E_goto (tgt := 123) d_X12_placeBy_119 (by decide) ?_
      cases h
      exact E_iret d_X12_placeBy_123 rfl
  · refine E_aload_n d_X12_placeBy_47 rfl (by decide) ?_
    refine E_iload_n d_X12_placeBy_48 rfl ?_
    refine E_iload d_X12_placeBy_49 rfl ?_
    refine bd h (fun r11 q12 h => ?_)
    refine E_cV (as := [(0, v1), (0, v5)]) (st := []) (a := v0) d_X12_placeBy_51 mk_X12_turnedFrom nl_X12_351 (by omega) ⟨rfl, rfl, Nat.le_of_ble_eq_true rfl⟩ okX12 rfl (L_X12_turnedFrom q12) ?_
    refine bd h (fun r13 q14 h => ?_)
    refine E_cS (as := [(0, r11)]) (st := []) d_X12_placeBy_54 mk_X12_sizeOf nl_X12_324 (by omega) ⟨rfl, rfl, Nat.le_of_ble_eq_true rfl⟩ (L_X12_sizeOf q14) ?_
    refine E_istore d_X12_placeBy_57 (ls' := [(2, v0), (0, v1), (0, v2), (0, v3), (0, v4), (0, v5), (0, r13)]) ⟨by decide, rfl⟩ ?_
    refine E_aload_n d_X12_placeBy_59 rfl (by decide) ?_
    refine E_iload d_X12_placeBy_60 rfl ?_
    refine bd h (fun r15 q16 h => ?_)
    refine E_cV (as := [(0, v5)]) (st := []) (a := v0) d_X12_placeBy_62 mk_X12_isStoneAt nl_X12_305 (by omega) ⟨rfl, rfl, Nat.le_of_ble_eq_true rfl⟩ okX12 rfl (L_X12_isStoneAt q16) ?_
    refine E_if_eq (tgt := 103) d_X12_placeBy_65 (by decide) h (fun _ h => ?_) (fun _ h => ?_)
    · exact E_weak (ls' := [(2, v0), (0, v1), (0, v2), (0, v3), (0, v4), (0, v5), (9, 0)]) ⟨Or.inr rfl, Or.inr rfl, Or.inr rfl, Or.inr rfl, Or.inr rfl, Or.inr rfl, Or.inl rfl, trivial⟩ (L_X12_placeBy_b103 hk36 h)
    · refine E_iload_n d_X12_placeBy_68 rfl ?_
      refine E_if_lt (tgt := 96) d_X12_placeBy_69 (by decide) h (fun _ h => ?_) (fun _ h => ?_)
      · exact E_weak (ls' := [(2, v0), (0, v1), (0, v2), (9, 0), (9, 0), (0, v5), (0, r13)]) ⟨Or.inr rfl, Or.inr rfl, Or.inr rfl, Or.inl rfl, Or.inl rfl, Or.inr rfl, Or.inr rfl, trivial⟩ (L_X12_placeBy_b96 hk36 h)
      · refine E_iload_n d_X12_placeBy_72 rfl ?_
        refine E_if_eq (tgt := 86) d_X12_placeBy_73 (by decide) h (fun _ h => ?_) (fun _ h => ?_)
        · refine E_iload d_X12_placeBy_86 rfl ?_
          refine E_iload d_X12_placeBy_88 rfl ?_
          refine E_icmp_lt (tgt := 96) d_X12_placeBy_90 (by decide) h (fun _ h => ?_) (fun _ h => ?_)
          · exact E_weak (ls' := [(2, v0), (0, v1), (0, v2), (9, 0), (9, 0), (0, v5), (0, r13)]) ⟨Or.inr rfl, Or.inr rfl, Or.inr rfl, Or.inl rfl, Or.inl rfl, Or.inr rfl, Or.inr rfl, trivial⟩ (L_X12_placeBy_b96 hk36 h)
          · refine E_goto (tgt := 103) d_X12_placeBy_93 (by decide) ?_
            exact E_weak (ls' := [(2, v0), (0, v1), (0, v2), (0, v3), (0, v4), (0, v5), (9, 0)]) ⟨Or.inr rfl, Or.inr rfl, Or.inr rfl, Or.inr rfl, Or.inr rfl, Or.inr rfl, Or.inl rfl, trivial⟩ (L_X12_placeBy_b103 hk36 h)
        · refine E_iload d_X12_placeBy_76 rfl ?_
          refine E_iload d_X12_placeBy_78 rfl ?_
          refine E_icmp_gt (tgt := 96) d_X12_placeBy_80 (by decide) h (fun _ h => ?_) (fun _ h => ?_)
          · exact E_weak (ls' := [(2, v0), (0, v1), (0, v2), (9, 0), (9, 0), (0, v5), (0, r13)]) ⟨Or.inr rfl, Or.inr rfl, Or.inr rfl, Or.inl rfl, Or.inl rfl, Or.inr rfl, Or.inr rfl, trivial⟩ (L_X12_placeBy_b96 hk36 h)
          · refine E_goto (tgt := 103) d_X12_placeBy_83 (by decide) ?_
            exact E_weak (ls' := [(2, v0), (0, v1), (0, v2), (0, v3), (0, v4), (0, v5), (9, 0)]) ⟨Or.inr rfl, Or.inr rfl, Or.inr rfl, Or.inr rfl, Or.inr rfl, Or.inr rfl, Or.inl rfl, trivial⟩ (L_X12_placeBy_b103 hk36 h)
noncomputable def f_X12_placeBy_h36 (n : Nat) : Int → Int → Int → Int → Int → Int → Mem → Option (Int × Mem) := Nat.rec (motive := fun _ => Int → Int → Int → Int → Int → Int → Mem → Option (Int × Mem)) (fun _ _ _ _ _ _ _ => none) (fun _ ih => f_X12_placeBy_b36 (ih)) n
theorem L_X12_placeBy_h36 {sc : Nat × (Nat → Int32)} {o : Int × Mem} : ∀ (n : Nat) {v0 v1 v2 v3 v4 v5 : Int} {σ : Mem}, f_X12_placeBy_h36 n v0 v1 v2 v3 v4 v5 σ = some o → E sc (Fm Sh (some (0, o.1)) Sh o.2) mt_X12_placeBy 5 Sh Sh 36 [(2, v0), (0, v1), (0, v2), (0, v3), (0, v4), (0, v5), (9, 0)] [] Sh σ := by
  intro n
  induction n with
  | zero => intro v0 v1 v2 v3 v4 v5 σ h; cases h
  | succ n ih => intro v0 v1 v2 v3 v4 v5 σ h; exact L_X12_placeBy_b36 (@ih) h
noncomputable def f_X12_placeBy_b0 (v0 v1 v2 : Int) (σ : Mem) : Option (Int × Mem) :=
  (pf Sh σ 12 v0 1 0).bind fun σ1 =>
  (pf Sh σ1 12 v0 0 0).bind fun σ2 =>
  (f_X12_isIn v1 0 99 σ2).bind fun r3 =>
  if r3 = 0 then
    (f_X12_refuse v0 5 σ2).bind fun r5 =>
    some (r5.1, r5.2)
  else
    f_X12_placeBy_h36 FU v0 v1 v2 (-1) 0 0 σ2
theorem L_X12_placeBy_b0 {sc : Nat × (Nat → Int32)} {o : Int × Mem} {v0 v1 v2 : Int} {σ : Mem} (h : f_X12_placeBy_b0 v0 v1 v2 σ = some o) : E sc (Fm Sh (some (0, o.1)) Sh o.2) mt_X12_placeBy 5 Sh Sh 0 [(2, v0), (0, v1), (0, v2), (9, 0), (9, 0), (9, 0), (9, 0)] [] Sh σ := by
  unfold f_X12_placeBy_b0 at h
  refine E_aload_n d_X12_placeBy_0 rfl (by decide) ?_
  refine E_iconst d_X12_placeBy_1 (c32 rfl) ?_
  refine E_put d_X12_placeBy_2 okX12 fl_X12_70 ⟨by decide, rfl⟩ (Or.inl ⟨rfl, rfl⟩) (Or.inl rfl) h (fun σ1 h => ?_)
  refine E_aload_n d_X12_placeBy_5 rfl (by decide) ?_
  refine E_iconst d_X12_placeBy_6 (c32 rfl) ?_
  refine E_put d_X12_placeBy_7 okX12 fl_X12_73 ⟨by decide, rfl⟩ (Or.inl ⟨rfl, rfl⟩) (Or.inl rfl) h (fun σ2 h => ?_)
  refine E_iload_n d_X12_placeBy_10 rfl ?_
  refine E_i2l d_X12_placeBy_11 ?_
  refine E_lconst d_X12_placeBy_12 cl0 ?_
  refine E_ldc2 d_X12_placeBy_13 kw_X12_370 ?_
  refine bd h (fun r3 q4 h => ?_)
  refine E_cS (as := [(1, v1), (1, 0), (1, 99)]) (st := []) d_X12_placeBy_16 mk_X12_isIn nl_X12_104 (by omega) ⟨rfl, rfl, Nat.le_of_ble_eq_true rfl⟩ (L_X12_isIn q4) ?_
  refine E_if_ne (tgt := 28) d_X12_placeBy_19 (by decide) h (fun _ h => ?_) (fun _ h => ?_)
  · refine E_aload_n d_X12_placeBy_22 rfl (by decide) ?_
    refine E_iconst d_X12_placeBy_23 (c32 rfl) ?_
    refine bd h (fun r5 q6 h => ?_)
    refine E_cV (as := [(0, 5)]) (st := []) (a := v0) d_X12_placeBy_24 mk_X12_refuse nl_X12_318 (by omega) ⟨rfl, rfl, Nat.le_of_ble_eq_true rfl⟩ okX12 rfl (L_X12_refuse q6) ?_
    cases h
    exact E_iret d_X12_placeBy_27 rfl
  · refine E_iconst d_X12_placeBy_28 (c32 rfl) ?_
    refine E_istore_n d_X12_placeBy_29 (ls' := [(2, v0), (0, v1), (0, v2), (0, (-1)), (9, 0), (9, 0), (9, 0)]) ⟨by decide, rfl⟩ ?_
    refine E_iconst d_X12_placeBy_30 (c32 rfl) ?_
    refine E_istore d_X12_placeBy_31 (ls' := [(2, v0), (0, v1), (0, v2), (0, (-1)), (0, 0), (9, 0), (9, 0)]) ⟨by decide, rfl⟩ ?_
    refine E_iconst d_X12_placeBy_33 (c32 rfl) ?_
    refine E_istore d_X12_placeBy_34 (ls' := [(2, v0), (0, v1), (0, v2), (0, (-1)), (0, 0), (0, 0), (9, 0)]) ⟨by decide, rfl⟩ ?_
    exact (L_X12_placeBy_h36 FU h)
noncomputable def f_X12_placeBy (v0 v1 v2 : Int) (σ : Mem) : Option (Int × Mem) := if isO Sh 12 v0 = true then f_X12_placeBy_b0 v0 v1 v2 σ else none
theorem L_X12_placeBy {o : Int × Mem} {v0 v1 v2 : Int} {σ : Mem} (h : f_X12_placeBy v0 v1 v2 σ = some o) : (isO Sh 12 v0 = true ∧ Cn mt_X12_placeBy 5 [(2, v0), (0, v1), (0, v2)] Sh σ (some (0, o.1)) Sh o.2) := ⟨(ite_ok h).1, Cn_of mk_X12_placeBy.1.2.2.1 (Nat.le_of_ble_eq_true rfl) (fun sc => L_X12_placeBy_b0 (ite_ok h).2)⟩
theorem d_X12_stand_0 : decode mt_X12_stand.2.1 0 = .ok (.aload_n 0, 1) := by decide +kernel
theorem d_X12_stand_1 : decode mt_X12_stand.2.1 1 = .ok (.iload_n 1, 1) := by decide +kernel
theorem d_X12_stand_2 : decode mt_X12_stand.2.1 2 = .ok (.iconst 0, 1) := by decide +kernel
theorem d_X12_stand_3 : decode mt_X12_stand.2.1 3 = .ok (.invokevirtual 385, 3) := by decide +kernel
theorem d_X12_stand_6 : decode mt_X12_stand.2.1 6 = .ok (.ireturn, 1) := by decide +kernel
noncomputable def f_X12_stand_b0 (v0 v1 : Int) (σ : Mem) : Option (Int × Mem) :=
  (f_X12_placeBy v0 v1 0 σ).bind fun r1 =>
  some (r1.1, r1.2)
theorem L_X12_stand_b0 {sc : Nat × (Nat → Int32)} {o : Int × Mem} {v0 v1 : Int} {σ : Mem} (h : f_X12_stand_b0 v0 v1 σ = some o) : E sc (Fm Sh (some (0, o.1)) Sh o.2) mt_X12_stand 6 Sh Sh 0 [(2, v0), (0, v1)] [] Sh σ := by
  unfold f_X12_stand_b0 at h
  refine E_aload_n d_X12_stand_0 rfl (by decide) ?_
  refine E_iload_n d_X12_stand_1 rfl ?_
  refine E_iconst d_X12_stand_2 (c32 rfl) ?_
  refine bd h (fun r1 q2 h => ?_)
  refine E_cV (as := [(0, v1), (0, 0)]) (st := []) (a := v0) d_X12_stand_3 mk_X12_placeBy nl_X12_385 (by omega) ⟨rfl, rfl, Nat.le_of_ble_eq_true rfl⟩ okX12 rfl (L_X12_placeBy q2) ?_
  cases h
  exact E_iret d_X12_stand_6 rfl
noncomputable def f_X12_stand (v0 v1 : Int) (σ : Mem) : Option (Int × Mem) := if isO Sh 12 v0 = true then f_X12_stand_b0 v0 v1 σ else none
theorem L_X12_stand {o : Int × Mem} {v0 v1 : Int} {σ : Mem} (h : f_X12_stand v0 v1 σ = some o) : (isO Sh 12 v0 = true ∧ Cn mt_X12_stand 6 [(2, v0), (0, v1)] Sh σ (some (0, o.1)) Sh o.2) := ⟨(ite_ok h).1, Cn_of mk_X12_stand.1.2.2.1 (Nat.le_of_ble_eq_true rfl) (fun sc => L_X12_stand_b0 (ite_ok h).2)⟩
theorem d_X12_fall_0 : decode mt_X12_fall.2.1 0 = .ok (.aload_n 0, 1) := by decide +kernel
theorem d_X12_fall_1 : decode mt_X12_fall.2.1 1 = .ok (.iload_n 1, 1) := by decide +kernel
theorem d_X12_fall_2 : decode mt_X12_fall.2.1 2 = .ok (.iconst 1, 1) := by decide +kernel
theorem d_X12_fall_3 : decode mt_X12_fall.2.1 3 = .ok (.invokevirtual 385, 3) := by decide +kernel
theorem d_X12_fall_6 : decode mt_X12_fall.2.1 6 = .ok (.ireturn, 1) := by decide +kernel
noncomputable def f_X12_fall_b0 (v0 v1 : Int) (σ : Mem) : Option (Int × Mem) :=
  (f_X12_placeBy v0 v1 1 σ).bind fun r1 =>
  some (r1.1, r1.2)
theorem L_X12_fall_b0 {sc : Nat × (Nat → Int32)} {o : Int × Mem} {v0 v1 : Int} {σ : Mem} (h : f_X12_fall_b0 v0 v1 σ = some o) : E sc (Fm Sh (some (0, o.1)) Sh o.2) mt_X12_fall 6 Sh Sh 0 [(2, v0), (0, v1)] [] Sh σ := by
  unfold f_X12_fall_b0 at h
  refine E_aload_n d_X12_fall_0 rfl (by decide) ?_
  refine E_iload_n d_X12_fall_1 rfl ?_
  refine E_iconst d_X12_fall_2 (c32 rfl) ?_
  refine bd h (fun r1 q2 h => ?_)
  refine E_cV (as := [(0, v1), (0, 1)]) (st := []) (a := v0) d_X12_fall_3 mk_X12_placeBy nl_X12_385 (by omega) ⟨rfl, rfl, Nat.le_of_ble_eq_true rfl⟩ okX12 rfl (L_X12_placeBy q2) ?_
  cases h
  exact E_iret d_X12_fall_6 rfl
noncomputable def f_X12_fall (v0 v1 : Int) (σ : Mem) : Option (Int × Mem) := if isO Sh 12 v0 = true then f_X12_fall_b0 v0 v1 σ else none
theorem L_X12_fall {o : Int × Mem} {v0 v1 : Int} {σ : Mem} (h : f_X12_fall v0 v1 σ = some o) : (isO Sh 12 v0 = true ∧ Cn mt_X12_fall 6 [(2, v0), (0, v1)] Sh σ (some (0, o.1)) Sh o.2) := ⟨(ite_ok h).1, Cn_of mk_X12_fall.1.2.2.1 (Nat.le_of_ble_eq_true rfl) (fun sc => L_X12_fall_b0 (ite_ok h).2)⟩
theorem d_X12_least_0 : decode mt_X12_least.2.1 0 = .ok (.aload_n 0, 1) := by decide +kernel
theorem d_X12_least_1 : decode mt_X12_least.2.1 1 = .ok (.iconst 0, 1) := by decide +kernel
theorem d_X12_least_2 : decode mt_X12_least.2.1 2 = .ok (.putfield 70, 3) := by decide +kernel
theorem d_X12_least_5 : decode mt_X12_least.2.1 5 = .ok (.aload_n 0, 1) := by decide +kernel
theorem d_X12_least_6 : decode mt_X12_least.2.1 6 = .ok (.iconst 0, 1) := by decide +kernel
theorem d_X12_least_7 : decode mt_X12_least.2.1 7 = .ok (.putfield 73, 3) := by decide +kernel
theorem d_X12_least_10 : decode mt_X12_least.2.1 10 = .ok (.aload_n 0, 1) := by decide +kernel
theorem d_X12_least_11 : decode mt_X12_least.2.1 11 = .ok (.iload_n 1, 1) := by decide +kernel
theorem d_X12_least_12 : decode mt_X12_least.2.1 12 = .ok (.i2l, 1) := by decide +kernel
theorem d_X12_least_13 : decode mt_X12_least.2.1 13 = .ok (.invokevirtual 330, 3) := by decide +kernel
theorem d_X12_least_16 : decode mt_X12_least.2.1 16 = .ok (.ifCond .ne 9, 3) := by decide +kernel
theorem d_X12_least_19 : decode mt_X12_least.2.1 19 = .ok (.aload_n 0, 1) := by decide +kernel
theorem d_X12_least_20 : decode mt_X12_least.2.1 20 = .ok (.iconst 2, 1) := by decide +kernel
theorem d_X12_least_21 : decode mt_X12_least.2.1 21 = .ok (.invokevirtual 318, 3) := by decide +kernel
theorem d_X12_least_24 : decode mt_X12_least.2.1 24 = .ok (.ireturn, 1) := by decide +kernel
theorem d_X12_least_25 : decode mt_X12_least.2.1 25 = .ok (.iconst 0, 1) := by decide +kernel
theorem d_X12_least_26 : decode mt_X12_least.2.1 26 = .ok (.istore_n 2, 1) := by decide +kernel
theorem d_X12_least_27 : decode mt_X12_least.2.1 27 = .ok (.iload_n 2, 1) := by decide +kernel
theorem d_X12_least_28 : decode mt_X12_least.2.1 28 = .ok (.bipush 99, 2) := by decide +kernel
theorem d_X12_least_30 : decode mt_X12_least.2.1 30 = .ok (.if_icmp .gt 20, 3) := by decide +kernel
theorem d_X12_least_33 : decode mt_X12_least.2.1 33 = .ok (.aload_n 0, 1) := by decide +kernel
theorem d_X12_least_34 : decode mt_X12_least.2.1 34 = .ok (.iload_n 2, 1) := by decide +kernel
theorem d_X12_least_35 : decode mt_X12_least.2.1 35 = .ok (.iload_n 1, 1) := by decide +kernel
theorem d_X12_least_36 : decode mt_X12_least.2.1 36 = .ok (.invokevirtual 357, 3) := by decide +kernel
theorem d_X12_least_39 : decode mt_X12_least.2.1 39 = .ok (.ifCond .eq 5, 3) := by decide +kernel
theorem d_X12_least_42 : decode mt_X12_least.2.1 42 = .ok (.iload_n 2, 1) := by decide +kernel
theorem d_X12_least_43 : decode mt_X12_least.2.1 43 = .ok (.ireturn, 1) := by decide +kernel
theorem d_X12_least_44 : decode mt_X12_least.2.1 44 = .ok (.iinc 2 1, 3) := by decide +kernel
theorem d_X12_least_47 : decode mt_X12_least.2.1 47 = .ok (.goto (-20), 3) := by decide +kernel
theorem d_X12_least_50 : decode mt_X12_least.2.1 50 = .ok (.aload_n 0, 1) := by decide +kernel
theorem d_X12_least_51 : decode mt_X12_least.2.1 51 = .ok (.bipush 8, 2) := by decide +kernel
theorem d_X12_least_53 : decode mt_X12_least.2.1 53 = .ok (.invokevirtual 318, 3) := by decide +kernel
theorem d_X12_least_56 : decode mt_X12_least.2.1 56 = .ok (.ireturn, 1) := by decide +kernel
noncomputable def f_X12_least_b27 (k27 : (Int → Int → Int → Mem → Option (Int × Mem))) (v0 v1 v2 : Int) (σ : Mem) : Option (Int × Mem) :=
  if 99 < v2 then
    (f_X12_refuse v0 8 σ).bind fun r7 =>
    some (r7.1, r7.2)
  else
    (f_X12_isCondemned v0 v2 v1 σ).bind fun r9 =>
    if r9 = 0 then
      k27 v0 v1 (w32 (v2 + 1)) σ
    else
      some (v2, σ)
theorem L_X12_least_b27 {sc : Nat × (Nat → Int32)} {o : Int × Mem} {k27 : (Int → Int → Int → Mem → Option (Int × Mem))} (hk27 : ∀ {v0 v1 v2 : Int} {σ : Mem}, k27 v0 v1 v2 σ = some o → E sc (Fm Sh (some (0, o.1)) Sh o.2) mt_X12_least 6 Sh Sh 27 [(2, v0), (0, v1), (0, v2)] [] Sh σ) {v0 v1 v2 : Int} {σ : Mem} (h : f_X12_least_b27 k27 v0 v1 v2 σ = some o) : E sc (Fm Sh (some (0, o.1)) Sh o.2) mt_X12_least 6 Sh Sh 27 [(2, v0), (0, v1), (0, v2)] [] Sh σ := by
  unfold f_X12_least_b27 at h
  refine E_iload_n d_X12_least_27 rfl ?_
  refine E_bipush d_X12_least_28 (c8 rfl) ?_
  refine E_icmp_gt (tgt := 50) d_X12_least_30 (by decide) h (fun _ h => ?_) (fun _ h => ?_)
  · refine E_aload_n d_X12_least_50 rfl (by decide) ?_
    refine E_bipush d_X12_least_51 (c8 rfl) ?_
    refine bd h (fun r7 q8 h => ?_)
    refine E_cV (as := [(0, 8)]) (st := []) (a := v0) d_X12_least_53 mk_X12_refuse nl_X12_318 (by omega) ⟨rfl, rfl, Nat.le_of_ble_eq_true rfl⟩ okX12 rfl (L_X12_refuse q8) ?_
    cases h
    exact E_iret d_X12_least_56 rfl
  · refine E_aload_n d_X12_least_33 rfl (by decide) ?_
    refine E_iload_n d_X12_least_34 rfl ?_
    refine E_iload_n d_X12_least_35 rfl ?_
    refine bd h (fun r9 q10 h => ?_)
    refine E_cV (as := [(0, v2), (0, v1)]) (st := []) (a := v0) d_X12_least_36 mk_X12_isCondemned nl_X12_357 (by omega) ⟨rfl, rfl, Nat.le_of_ble_eq_true rfl⟩ okX12 rfl (L_X12_isCondemned q10) ?_
    refine E_if_eq (tgt := 44) d_X12_least_39 (by decide) h (fun _ h => ?_) (fun _ h => ?_)
    · refine E_iinc d_X12_least_44 (ls' := [(2, v0), (0, v1), (0, w32 (v2 + 1))]) rfl ⟨by decide, rfl⟩ ?_
      refine E_goto (tgt := 27) d_X12_least_47 (by decide) ?_
      exact (hk27 h)
    · refine E_iload_n d_X12_least_42 rfl ?_
      cases h
      exact E_iret d_X12_least_43 rfl
noncomputable def f_X12_least_h27 (n : Nat) : Int → Int → Int → Mem → Option (Int × Mem) := Nat.rec (motive := fun _ => Int → Int → Int → Mem → Option (Int × Mem)) (fun _ _ _ _ => none) (fun _ ih => f_X12_least_b27 (ih)) n
theorem L_X12_least_h27 {sc : Nat × (Nat → Int32)} {o : Int × Mem} : ∀ (n : Nat) {v0 v1 v2 : Int} {σ : Mem}, f_X12_least_h27 n v0 v1 v2 σ = some o → E sc (Fm Sh (some (0, o.1)) Sh o.2) mt_X12_least 6 Sh Sh 27 [(2, v0), (0, v1), (0, v2)] [] Sh σ := by
  intro n
  induction n with
  | zero => intro v0 v1 v2 σ h; cases h
  | succ n ih => intro v0 v1 v2 σ h; exact L_X12_least_b27 (@ih) h
noncomputable def f_X12_least_b0 (v0 v1 : Int) (σ : Mem) : Option (Int × Mem) :=
  (pf Sh σ 12 v0 1 0).bind fun σ1 =>
  (pf Sh σ1 12 v0 0 0).bind fun σ2 =>
  (f_X12_isPlaceAt v0 v1 σ2).bind fun r3 =>
  if r3 = 0 then
    (f_X12_refuse v0 2 σ2).bind fun r5 =>
    some (r5.1, r5.2)
  else
    f_X12_least_h27 FU v0 v1 0 σ2
theorem L_X12_least_b0 {sc : Nat × (Nat → Int32)} {o : Int × Mem} {v0 v1 : Int} {σ : Mem} (h : f_X12_least_b0 v0 v1 σ = some o) : E sc (Fm Sh (some (0, o.1)) Sh o.2) mt_X12_least 6 Sh Sh 0 [(2, v0), (0, v1), (9, 0)] [] Sh σ := by
  unfold f_X12_least_b0 at h
  refine E_aload_n d_X12_least_0 rfl (by decide) ?_
  refine E_iconst d_X12_least_1 (c32 rfl) ?_
  refine E_put d_X12_least_2 okX12 fl_X12_70 ⟨by decide, rfl⟩ (Or.inl ⟨rfl, rfl⟩) (Or.inl rfl) h (fun σ1 h => ?_)
  refine E_aload_n d_X12_least_5 rfl (by decide) ?_
  refine E_iconst d_X12_least_6 (c32 rfl) ?_
  refine E_put d_X12_least_7 okX12 fl_X12_73 ⟨by decide, rfl⟩ (Or.inl ⟨rfl, rfl⟩) (Or.inl rfl) h (fun σ2 h => ?_)
  refine E_aload_n d_X12_least_10 rfl (by decide) ?_
  refine E_iload_n d_X12_least_11 rfl ?_
  refine E_i2l d_X12_least_12 ?_
  refine bd h (fun r3 q4 h => ?_)
  refine E_cV (as := [(1, v1)]) (st := []) (a := v0) d_X12_least_13 mk_X12_isPlaceAt nl_X12_330 (by omega) ⟨rfl, rfl, Nat.le_of_ble_eq_true rfl⟩ okX12 rfl (L_X12_isPlaceAt q4) ?_
  refine E_if_ne (tgt := 25) d_X12_least_16 (by decide) h (fun _ h => ?_) (fun _ h => ?_)
  · refine E_aload_n d_X12_least_19 rfl (by decide) ?_
    refine E_iconst d_X12_least_20 (c32 rfl) ?_
    refine bd h (fun r5 q6 h => ?_)
    refine E_cV (as := [(0, 2)]) (st := []) (a := v0) d_X12_least_21 mk_X12_refuse nl_X12_318 (by omega) ⟨rfl, rfl, Nat.le_of_ble_eq_true rfl⟩ okX12 rfl (L_X12_refuse q6) ?_
    cases h
    exact E_iret d_X12_least_24 rfl
  · refine E_iconst d_X12_least_25 (c32 rfl) ?_
    refine E_istore_n d_X12_least_26 (ls' := [(2, v0), (0, v1), (0, 0)]) ⟨by decide, rfl⟩ ?_
    exact (L_X12_least_h27 FU h)
noncomputable def f_X12_least (v0 v1 : Int) (σ : Mem) : Option (Int × Mem) := if isO Sh 12 v0 = true then f_X12_least_b0 v0 v1 σ else none
theorem L_X12_least {o : Int × Mem} {v0 v1 : Int} {σ : Mem} (h : f_X12_least v0 v1 σ = some o) : (isO Sh 12 v0 = true ∧ Cn mt_X12_least 6 [(2, v0), (0, v1)] Sh σ (some (0, o.1)) Sh o.2) := ⟨(ite_ok h).1, Cn_of mk_X12_least.1.2.2.1 (Nat.le_of_ble_eq_true rfl) (fun sc => L_X12_least_b0 (ite_ok h).2)⟩
theorem d_X12_freeIn_0 : decode mt_X12_freeIn.2.1 0 = .ok (.aload_n 0, 1) := by decide +kernel
theorem d_X12_freeIn_1 : decode mt_X12_freeIn.2.1 1 = .ok (.iconst 0, 1) := by decide +kernel
theorem d_X12_freeIn_2 : decode mt_X12_freeIn.2.1 2 = .ok (.putfield 70, 3) := by decide +kernel
theorem d_X12_freeIn_5 : decode mt_X12_freeIn.2.1 5 = .ok (.aload_n 0, 1) := by decide +kernel
theorem d_X12_freeIn_6 : decode mt_X12_freeIn.2.1 6 = .ok (.aload_n 0, 1) := by decide +kernel
theorem d_X12_freeIn_7 : decode mt_X12_freeIn.2.1 7 = .ok (.iload_n 1, 1) := by decide +kernel
theorem d_X12_freeIn_8 : decode mt_X12_freeIn.2.1 8 = .ok (.iload_n 2, 1) := by decide +kernel
theorem d_X12_freeIn_9 : decode mt_X12_freeIn.2.1 9 = .ok (.invokevirtual 363, 3) := by decide +kernel
theorem d_X12_freeIn_12 : decode mt_X12_freeIn.2.1 12 = .ok (.putfield 73, 3) := by decide +kernel
theorem d_X12_freeIn_15 : decode mt_X12_freeIn.2.1 15 = .ok (.aload_n 0, 1) := by decide +kernel
theorem d_X12_freeIn_16 : decode mt_X12_freeIn.2.1 16 = .ok (.getfield 73, 3) := by decide +kernel
theorem d_X12_freeIn_19 : decode mt_X12_freeIn.2.1 19 = .ok (.ifCond .le 5, 3) := by decide +kernel
theorem d_X12_freeIn_22 : decode mt_X12_freeIn.2.1 22 = .ok (.iconst (-1), 1) := by decide +kernel
theorem d_X12_freeIn_23 : decode mt_X12_freeIn.2.1 23 = .ok (.ireturn, 1) := by decide +kernel
theorem d_X12_freeIn_24 : decode mt_X12_freeIn.2.1 24 = .ok (.iconst (-1), 1) := by decide +kernel
theorem d_X12_freeIn_25 : decode mt_X12_freeIn.2.1 25 = .ok (.istore_n 3, 1) := by decide +kernel
theorem d_X12_freeIn_26 : decode mt_X12_freeIn.2.1 26 = .ok (.aload_n 0, 1) := by decide +kernel
theorem d_X12_freeIn_27 : decode mt_X12_freeIn.2.1 27 = .ok (.getfield 35, 3) := by decide +kernel
theorem d_X12_freeIn_30 : decode mt_X12_freeIn.2.1 30 = .ok (.iconst 3, 1) := by decide +kernel
theorem d_X12_freeIn_31 : decode mt_X12_freeIn.2.1 31 = .ok (.iaload, 1) := by decide +kernel
theorem d_X12_freeIn_32 : decode mt_X12_freeIn.2.1 32 = .ok (.istore 4, 2) := by decide +kernel
theorem d_X12_freeIn_34 : decode mt_X12_freeIn.2.1 34 = .ok (.iconst 0, 1) := by decide +kernel
theorem d_X12_freeIn_35 : decode mt_X12_freeIn.2.1 35 = .ok (.istore 5, 2) := by decide +kernel
theorem d_X12_freeIn_37 : decode mt_X12_freeIn.2.1 37 = .ok (.iload 5, 2) := by decide +kernel
theorem d_X12_freeIn_39 : decode mt_X12_freeIn.2.1 39 = .ok (.bipush 10, 2) := by decide +kernel
theorem d_X12_freeIn_41 : decode mt_X12_freeIn.2.1 41 = .ok (.if_icmp .ge 26, 3) := by decide +kernel
theorem d_X12_freeIn_44 : decode mt_X12_freeIn.2.1 44 = .ok (.aload_n 0, 1) := by decide +kernel
theorem d_X12_freeIn_45 : decode mt_X12_freeIn.2.1 45 = .ok (.getfield 44, 3) := by decide +kernel
theorem d_X12_freeIn_48 : decode mt_X12_freeIn.2.1 48 = .ok (.iload 5, 2) := by decide +kernel
theorem d_X12_freeIn_50 : decode mt_X12_freeIn.2.1 50 = .ok (.aload_n 0, 1) := by decide +kernel
theorem d_X12_freeIn_51 : decode mt_X12_freeIn.2.1 51 = .ok (.getfield 35, 3) := by decide +kernel
theorem d_X12_freeIn_54 : decode mt_X12_freeIn.2.1 54 = .ok (.bipush 27, 2) := by decide +kernel
theorem d_X12_freeIn_56 : decode mt_X12_freeIn.2.1 56 = .ok (.iload 5, 2) := by decide +kernel
theorem d_X12_freeIn_58 : decode mt_X12_freeIn.2.1 58 = .ok (.iadd, 1) := by decide +kernel
theorem d_X12_freeIn_59 : decode mt_X12_freeIn.2.1 59 = .ok (.iaload, 1) := by decide +kernel
theorem d_X12_freeIn_60 : decode mt_X12_freeIn.2.1 60 = .ok (.iastore, 1) := by decide +kernel
theorem d_X12_freeIn_61 : decode mt_X12_freeIn.2.1 61 = .ok (.iinc 5 1, 3) := by decide +kernel
theorem d_X12_freeIn_64 : decode mt_X12_freeIn.2.1 64 = .ok (.goto (-27), 3) := by decide +kernel
theorem d_X12_freeIn_67 : decode mt_X12_freeIn.2.1 67 = .ok (.iconst 0, 1) := by decide +kernel
theorem d_X12_freeIn_68 : decode mt_X12_freeIn.2.1 68 = .ok (.istore 5, 2) := by decide +kernel
theorem d_X12_freeIn_70 : decode mt_X12_freeIn.2.1 70 = .ok (.iload 5, 2) := by decide +kernel
theorem d_X12_freeIn_72 : decode mt_X12_freeIn.2.1 72 = .ok (.bipush 9, 2) := by decide +kernel
theorem d_X12_freeIn_74 : decode mt_X12_freeIn.2.1 74 = .ok (.if_icmp .gt 29, 3) := by decide +kernel
theorem d_X12_freeIn_77 : decode mt_X12_freeIn.2.1 77 = .ok (.iload_n 3, 1) := by decide +kernel
theorem d_X12_freeIn_78 : decode mt_X12_freeIn.2.1 78 = .ok (.ifCond .ge 25, 3) := by decide +kernel
theorem d_X12_freeIn_81 : decode mt_X12_freeIn.2.1 81 = .ok (.aload_n 0, 1) := by decide +kernel
theorem d_X12_freeIn_82 : decode mt_X12_freeIn.2.1 82 = .ok (.iload_n 1, 1) := by decide +kernel
theorem d_X12_freeIn_83 : decode mt_X12_freeIn.2.1 83 = .ok (.iload_n 2, 1) := by decide +kernel
theorem d_X12_freeIn_84 : decode mt_X12_freeIn.2.1 84 = .ok (.invokevirtual 357, 3) := by decide +kernel
theorem d_X12_freeIn_87 : decode mt_X12_freeIn.2.1 87 = .ok (.ifCond .ne 6, 3) := by decide +kernel
theorem d_X12_freeIn_90 : decode mt_X12_freeIn.2.1 90 = .ok (.iload 5, 2) := by decide +kernel
theorem d_X12_freeIn_92 : decode mt_X12_freeIn.2.1 92 = .ok (.istore_n 3, 1) := by decide +kernel
theorem d_X12_freeIn_93 : decode mt_X12_freeIn.2.1 93 = .ok (.aload_n 0, 1) := by decide +kernel
theorem d_X12_freeIn_94 : decode mt_X12_freeIn.2.1 94 = .ok (.invokevirtual 372, 3) := by decide +kernel
theorem d_X12_freeIn_97 : decode mt_X12_freeIn.2.1 97 = .ok (.iinc 5 1, 3) := by decide +kernel
theorem d_X12_freeIn_100 : decode mt_X12_freeIn.2.1 100 = .ok (.goto (-30), 3) := by decide +kernel
theorem d_X12_freeIn_103 : decode mt_X12_freeIn.2.1 103 = .ok (.iconst 0, 1) := by decide +kernel
theorem d_X12_freeIn_104 : decode mt_X12_freeIn.2.1 104 = .ok (.istore 5, 2) := by decide +kernel
theorem d_X12_freeIn_106 : decode mt_X12_freeIn.2.1 106 = .ok (.iload 5, 2) := by decide +kernel
theorem d_X12_freeIn_108 : decode mt_X12_freeIn.2.1 108 = .ok (.bipush 10, 2) := by decide +kernel
theorem d_X12_freeIn_110 : decode mt_X12_freeIn.2.1 110 = .ok (.if_icmp .ge 26, 3) := by decide +kernel
theorem d_X12_freeIn_113 : decode mt_X12_freeIn.2.1 113 = .ok (.aload_n 0, 1) := by decide +kernel
theorem d_X12_freeIn_114 : decode mt_X12_freeIn.2.1 114 = .ok (.getfield 35, 3) := by decide +kernel
theorem d_X12_freeIn_117 : decode mt_X12_freeIn.2.1 117 = .ok (.bipush 27, 2) := by decide +kernel
theorem d_X12_freeIn_119 : decode mt_X12_freeIn.2.1 119 = .ok (.iload 5, 2) := by decide +kernel
theorem d_X12_freeIn_121 : decode mt_X12_freeIn.2.1 121 = .ok (.iadd, 1) := by decide +kernel
theorem d_X12_freeIn_122 : decode mt_X12_freeIn.2.1 122 = .ok (.aload_n 0, 1) := by decide +kernel
theorem d_X12_freeIn_123 : decode mt_X12_freeIn.2.1 123 = .ok (.getfield 44, 3) := by decide +kernel
theorem d_X12_freeIn_126 : decode mt_X12_freeIn.2.1 126 = .ok (.iload 5, 2) := by decide +kernel
theorem d_X12_freeIn_128 : decode mt_X12_freeIn.2.1 128 = .ok (.iaload, 1) := by decide +kernel
theorem d_X12_freeIn_129 : decode mt_X12_freeIn.2.1 129 = .ok (.iastore, 1) := by decide +kernel
theorem d_X12_freeIn_130 : decode mt_X12_freeIn.2.1 130 = .ok (.iinc 5 1, 3) := by decide +kernel
theorem d_X12_freeIn_133 : decode mt_X12_freeIn.2.1 133 = .ok (.goto (-27), 3) := by decide +kernel
theorem d_X12_freeIn_136 : decode mt_X12_freeIn.2.1 136 = .ok (.aload_n 0, 1) := by decide +kernel
theorem d_X12_freeIn_137 : decode mt_X12_freeIn.2.1 137 = .ok (.getfield 35, 3) := by decide +kernel
theorem d_X12_freeIn_140 : decode mt_X12_freeIn.2.1 140 = .ok (.iconst 3, 1) := by decide +kernel
theorem d_X12_freeIn_141 : decode mt_X12_freeIn.2.1 141 = .ok (.iload 4, 2) := by decide +kernel
theorem d_X12_freeIn_143 : decode mt_X12_freeIn.2.1 143 = .ok (.iastore, 1) := by decide +kernel
theorem d_X12_freeIn_144 : decode mt_X12_freeIn.2.1 144 = .ok (.iload_n 3, 1) := by decide +kernel
theorem d_X12_freeIn_145 : decode mt_X12_freeIn.2.1 145 = .ok (.ifCond .ge 12, 3) := by decide +kernel
theorem d_X12_freeIn_148 : decode mt_X12_freeIn.2.1 148 = .ok (.aload_n 0, 1) := by decide +kernel
theorem d_X12_freeIn_149 : decode mt_X12_freeIn.2.1 149 = .ok (.bipush 8, 2) := by decide +kernel
theorem d_X12_freeIn_151 : decode mt_X12_freeIn.2.1 151 = .ok (.invokevirtual 318, 3) := by decide +kernel
theorem d_X12_freeIn_154 : decode mt_X12_freeIn.2.1 154 = .ok (.goto 4, 3) := by decide +kernel
theorem d_X12_freeIn_157 : decode mt_X12_freeIn.2.1 157 = .ok (.iload_n 3, 1) := by decide +kernel
theorem d_X12_freeIn_158 : decode mt_X12_freeIn.2.1 158 = .ok (.ireturn, 1) := by decide +kernel
noncomputable def f_X12_freeIn_b93 (k70 : (Int → Int → Int → Int → Int → Int → Mem → Option (Int × Mem))) (v0 v1 v2 v3 v4 v5 : Int) (σ : Mem) : Option (Int × Mem) :=
  (f_X12_ages v0 σ).bind fun r14 =>
  k70 v0 v1 v2 v3 v4 (w32 (v5 + 1)) r14
theorem L_X12_freeIn_b93 {sc : Nat × (Nat → Int32)} {o : Int × Mem} {k70 : (Int → Int → Int → Int → Int → Int → Mem → Option (Int × Mem))} (hk70 : ∀ {v0 v1 v2 v3 v4 v5 : Int} {σ : Mem}, k70 v0 v1 v2 v3 v4 v5 σ = some o → E sc (Fm Sh (some (0, o.1)) Sh o.2) mt_X12_freeIn 6 Sh Sh 70 [(2, v0), (0, v1), (0, v2), (0, v3), (0, v4), (0, v5)] [] Sh σ) {v0 v1 v2 v3 v4 v5 : Int} {σ : Mem} (h : f_X12_freeIn_b93 k70 v0 v1 v2 v3 v4 v5 σ = some o) : E sc (Fm Sh (some (0, o.1)) Sh o.2) mt_X12_freeIn 6 Sh Sh 93 [(2, v0), (0, v1), (0, v2), (0, v3), (0, v4), (0, v5)] [] Sh σ := by
  unfold f_X12_freeIn_b93 at h
  refine E_aload_n d_X12_freeIn_93 rfl (by decide) ?_
  refine bd h (fun r14 q15 h => ?_)
  refine E_cVv (as := []) (st := []) (a := v0) d_X12_freeIn_94 mk_X12_ages nl_X12_372 (by omega) ⟨rfl, rfl, Nat.le_of_ble_eq_true rfl⟩ okX12 rfl (L_X12_ages q15) ?_
  refine E_iinc d_X12_freeIn_97 (ls' := [(2, v0), (0, v1), (0, v2), (0, v3), (0, v4), (0, w32 (v5 + 1))]) rfl ⟨by decide, rfl⟩ ?_
  refine E_goto (tgt := 70) d_X12_freeIn_100 (by decide) ?_
  exact (hk70 h)
noncomputable def f_X12_freeIn_b106 (k106 : (Int → Int → Int → Int → Mem → Option (Int × Mem))) (v0 v3 v4 v5 : Int) (σ : Mem) : Option (Int × Mem) :=
  if 10 ≤ v5 then
    (gf Sh σ 12 v0 20).bind fun x16 =>
    (st_ Sh σ 20 x16 3 v4).bind fun σ17 =>
    if 0 ≤ v3 then
      some (v3, σ17)
    else
      (f_X12_refuse v0 8 σ17).bind fun r18 =>
      some (r18.1, r18.2)
  else
    (gf Sh σ 12 v0 20).bind fun x20 =>
    (gf Sh σ 12 v0 26).bind fun x21 =>
    (al Sh σ 20 x21 v5).bind fun x22 =>
    (st_ Sh σ 20 x20 (w32 (27 + v5)) x22).bind fun σ23 =>
    k106 v0 v3 v4 (w32 (v5 + 1)) σ23
theorem L_X12_freeIn_b106 {sc : Nat × (Nat → Int32)} {o : Int × Mem} {k106 : (Int → Int → Int → Int → Mem → Option (Int × Mem))} (hk106 : ∀ {v0 v3 v4 v5 : Int} {σ : Mem}, k106 v0 v3 v4 v5 σ = some o → E sc (Fm Sh (some (0, o.1)) Sh o.2) mt_X12_freeIn 6 Sh Sh 106 [(2, v0), (9, 0), (9, 0), (0, v3), (0, v4), (0, v5)] [] Sh σ) {v0 v3 v4 v5 : Int} {σ : Mem} (h : f_X12_freeIn_b106 k106 v0 v3 v4 v5 σ = some o) : E sc (Fm Sh (some (0, o.1)) Sh o.2) mt_X12_freeIn 6 Sh Sh 106 [(2, v0), (9, 0), (9, 0), (0, v3), (0, v4), (0, v5)] [] Sh σ := by
  unfold f_X12_freeIn_b106 at h
  refine E_iload d_X12_freeIn_106 rfl ?_
  refine E_bipush d_X12_freeIn_108 (c8 rfl) ?_
  refine E_icmp_ge (tgt := 136) d_X12_freeIn_110 (by decide) h (fun _ h => ?_) (fun _ h => ?_)
  · refine E_aload_n d_X12_freeIn_136 rfl (by decide) ?_
    refine E_get d_X12_freeIn_137 okX12 fl_X12_35 ⟨by decide, rfl⟩ h (fun x16 h => ?_)
    refine E_iconst d_X12_freeIn_140 (c32 rfl) ?_
    refine E_iload d_X12_freeIn_141 rfl ?_
    refine E_iastore d_X12_freeIn_143 h (fun σ17 h => ?_)
    refine E_iload_n d_X12_freeIn_144 rfl ?_
    refine E_if_ge (tgt := 157) d_X12_freeIn_145 (by decide) h (fun _ h => ?_) (fun _ h => ?_)
    · refine E_iload_n d_X12_freeIn_157 rfl ?_
      cases h
      exact E_iret d_X12_freeIn_158 rfl
    · refine E_aload_n d_X12_freeIn_148 rfl (by decide) ?_
      refine E_bipush d_X12_freeIn_149 (c8 rfl) ?_
      refine bd h (fun r18 q19 h => ?_)
      refine E_cV (as := [(0, 8)]) (st := []) (a := v0) d_X12_freeIn_151 mk_X12_refuse nl_X12_318 (by omega) ⟨rfl, rfl, Nat.le_of_ble_eq_true rfl⟩ okX12 rfl (L_X12_refuse q19) ?_
      refine E_goto (tgt := 158) d_X12_freeIn_154 (by decide) ?_
      cases h
      exact E_iret d_X12_freeIn_158 rfl
  · refine E_aload_n d_X12_freeIn_113 rfl (by decide) ?_
    refine E_get d_X12_freeIn_114 okX12 fl_X12_35 ⟨by decide, rfl⟩ h (fun x20 h => ?_)
    refine E_bipush d_X12_freeIn_117 (c8 rfl) ?_
    refine E_iload d_X12_freeIn_119 rfl ?_
    refine E_iadd d_X12_freeIn_121 ?_
    refine E_aload_n d_X12_freeIn_122 rfl (by decide) ?_
    refine E_get d_X12_freeIn_123 okX12 fl_X12_44 ⟨by decide, rfl⟩ h (fun x21 h => ?_)
    refine E_iload d_X12_freeIn_126 rfl ?_
    refine E_iaload d_X12_freeIn_128 h (fun x22 h => ?_)
    refine E_iastore d_X12_freeIn_129 h (fun σ23 h => ?_)
    refine E_iinc d_X12_freeIn_130 (ls' := [(2, v0), (9, 0), (9, 0), (0, v3), (0, v4), (0, w32 (v5 + 1))]) rfl ⟨by decide, rfl⟩ ?_
    refine E_goto (tgt := 106) d_X12_freeIn_133 (by decide) ?_
    exact (hk106 h)
noncomputable def f_X12_freeIn_h106 (n : Nat) : Int → Int → Int → Int → Mem → Option (Int × Mem) := Nat.rec (motive := fun _ => Int → Int → Int → Int → Mem → Option (Int × Mem)) (fun _ _ _ _ _ => none) (fun _ ih => f_X12_freeIn_b106 (ih)) n
theorem L_X12_freeIn_h106 {sc : Nat × (Nat → Int32)} {o : Int × Mem} : ∀ (n : Nat) {v0 v3 v4 v5 : Int} {σ : Mem}, f_X12_freeIn_h106 n v0 v3 v4 v5 σ = some o → E sc (Fm Sh (some (0, o.1)) Sh o.2) mt_X12_freeIn 6 Sh Sh 106 [(2, v0), (9, 0), (9, 0), (0, v3), (0, v4), (0, v5)] [] Sh σ := by
  intro n
  induction n with
  | zero => intro v0 v3 v4 v5 σ h; cases h
  | succ n ih => intro v0 v3 v4 v5 σ h; exact L_X12_freeIn_b106 (@ih) h
noncomputable def f_X12_freeIn_b103 (v0 v3 v4 : Int) (σ : Mem) : Option (Int × Mem) :=
  f_X12_freeIn_h106 FU v0 v3 v4 0 σ
theorem L_X12_freeIn_b103 {sc : Nat × (Nat → Int32)} {o : Int × Mem} {v0 v3 v4 : Int} {σ : Mem} (h : f_X12_freeIn_b103 v0 v3 v4 σ = some o) : E sc (Fm Sh (some (0, o.1)) Sh o.2) mt_X12_freeIn 6 Sh Sh 103 [(2, v0), (9, 0), (9, 0), (0, v3), (0, v4), (9, 0)] [] Sh σ := by
  unfold f_X12_freeIn_b103 at h
  refine E_iconst d_X12_freeIn_103 (c32 rfl) ?_
  refine E_istore d_X12_freeIn_104 (ls' := [(2, v0), (9, 0), (9, 0), (0, v3), (0, v4), (0, 0)]) ⟨by decide, rfl⟩ ?_
  exact (L_X12_freeIn_h106 FU h)
noncomputable def f_X12_freeIn_b70 (k70 : (Int → Int → Int → Int → Int → Int → Mem → Option (Int × Mem))) (v0 v1 v2 v3 v4 v5 : Int) (σ : Mem) : Option (Int × Mem) :=
  if 9 < v5 then
    f_X12_freeIn_b103 v0 v3 v4 σ
  else
    if 0 ≤ v3 then
      f_X12_freeIn_b103 v0 v3 v4 σ
    else
      (f_X12_isCondemned v0 v1 v2 σ).bind fun r12 =>
      if r12 = 0 then
        f_X12_freeIn_b93 k70 v0 v1 v2 v5 v4 v5 σ
      else
        f_X12_freeIn_b93 k70 v0 v1 v2 v3 v4 v5 σ
theorem L_X12_freeIn_b70 {sc : Nat × (Nat → Int32)} {o : Int × Mem} {k70 : (Int → Int → Int → Int → Int → Int → Mem → Option (Int × Mem))} (hk70 : ∀ {v0 v1 v2 v3 v4 v5 : Int} {σ : Mem}, k70 v0 v1 v2 v3 v4 v5 σ = some o → E sc (Fm Sh (some (0, o.1)) Sh o.2) mt_X12_freeIn 6 Sh Sh 70 [(2, v0), (0, v1), (0, v2), (0, v3), (0, v4), (0, v5)] [] Sh σ) {v0 v1 v2 v3 v4 v5 : Int} {σ : Mem} (h : f_X12_freeIn_b70 k70 v0 v1 v2 v3 v4 v5 σ = some o) : E sc (Fm Sh (some (0, o.1)) Sh o.2) mt_X12_freeIn 6 Sh Sh 70 [(2, v0), (0, v1), (0, v2), (0, v3), (0, v4), (0, v5)] [] Sh σ := by
  unfold f_X12_freeIn_b70 at h
  refine E_iload d_X12_freeIn_70 rfl ?_
  refine E_bipush d_X12_freeIn_72 (c8 rfl) ?_
  refine E_icmp_gt (tgt := 103) d_X12_freeIn_74 (by decide) h (fun _ h => ?_) (fun _ h => ?_)
  · exact E_weak (ls' := [(2, v0), (9, 0), (9, 0), (0, v3), (0, v4), (9, 0)]) ⟨Or.inr rfl, Or.inl rfl, Or.inl rfl, Or.inr rfl, Or.inr rfl, Or.inl rfl, trivial⟩ (L_X12_freeIn_b103 h)
  · refine E_iload_n d_X12_freeIn_77 rfl ?_
    refine E_if_ge (tgt := 103) d_X12_freeIn_78 (by decide) h (fun _ h => ?_) (fun _ h => ?_)
    · exact E_weak (ls' := [(2, v0), (9, 0), (9, 0), (0, v3), (0, v4), (9, 0)]) ⟨Or.inr rfl, Or.inl rfl, Or.inl rfl, Or.inr rfl, Or.inr rfl, Or.inl rfl, trivial⟩ (L_X12_freeIn_b103 h)
    · refine E_aload_n d_X12_freeIn_81 rfl (by decide) ?_
      refine E_iload_n d_X12_freeIn_82 rfl ?_
      refine E_iload_n d_X12_freeIn_83 rfl ?_
      refine bd h (fun r12 q13 h => ?_)
      refine E_cV (as := [(0, v1), (0, v2)]) (st := []) (a := v0) d_X12_freeIn_84 mk_X12_isCondemned nl_X12_357 (by omega) ⟨rfl, rfl, Nat.le_of_ble_eq_true rfl⟩ okX12 rfl (L_X12_isCondemned q13) ?_
      refine E_if_ne (tgt := 93) d_X12_freeIn_87 (by decide) h (fun _ h => ?_) (fun _ h => ?_)
      · refine E_iload d_X12_freeIn_90 rfl ?_
        refine E_istore_n d_X12_freeIn_92 (ls' := [(2, v0), (0, v1), (0, v2), (0, v5), (0, v4), (0, v5)]) ⟨by decide, rfl⟩ ?_
        exact (L_X12_freeIn_b93 hk70 h)
      · exact (L_X12_freeIn_b93 hk70 h)
noncomputable def f_X12_freeIn_h70 (n : Nat) : Int → Int → Int → Int → Int → Int → Mem → Option (Int × Mem) := Nat.rec (motive := fun _ => Int → Int → Int → Int → Int → Int → Mem → Option (Int × Mem)) (fun _ _ _ _ _ _ _ => none) (fun _ ih => f_X12_freeIn_b70 (ih)) n
theorem L_X12_freeIn_h70 {sc : Nat × (Nat → Int32)} {o : Int × Mem} : ∀ (n : Nat) {v0 v1 v2 v3 v4 v5 : Int} {σ : Mem}, f_X12_freeIn_h70 n v0 v1 v2 v3 v4 v5 σ = some o → E sc (Fm Sh (some (0, o.1)) Sh o.2) mt_X12_freeIn 6 Sh Sh 70 [(2, v0), (0, v1), (0, v2), (0, v3), (0, v4), (0, v5)] [] Sh σ := by
  intro n
  induction n with
  | zero => intro v0 v1 v2 v3 v4 v5 σ h; cases h
  | succ n ih => intro v0 v1 v2 v3 v4 v5 σ h; exact L_X12_freeIn_b70 (@ih) h
noncomputable def f_X12_freeIn_b37 (k37 : (Int → Int → Int → Int → Int → Int → Mem → Option (Int × Mem))) (v0 v1 v2 v3 v4 v5 : Int) (σ : Mem) : Option (Int × Mem) :=
  if 10 ≤ v5 then
    f_X12_freeIn_h70 FU v0 v1 v2 v3 v4 0 σ
  else
    (gf Sh σ 12 v0 26).bind fun x8 =>
    (gf Sh σ 12 v0 20).bind fun x9 =>
    (al Sh σ 20 x9 (w32 (27 + v5))).bind fun x10 =>
    (st_ Sh σ 20 x8 v5 x10).bind fun σ11 =>
    k37 v0 v1 v2 v3 v4 (w32 (v5 + 1)) σ11
theorem L_X12_freeIn_b37 {sc : Nat × (Nat → Int32)} {o : Int × Mem} {k37 : (Int → Int → Int → Int → Int → Int → Mem → Option (Int × Mem))} (hk37 : ∀ {v0 v1 v2 v3 v4 v5 : Int} {σ : Mem}, k37 v0 v1 v2 v3 v4 v5 σ = some o → E sc (Fm Sh (some (0, o.1)) Sh o.2) mt_X12_freeIn 6 Sh Sh 37 [(2, v0), (0, v1), (0, v2), (0, v3), (0, v4), (0, v5)] [] Sh σ) {v0 v1 v2 v3 v4 v5 : Int} {σ : Mem} (h : f_X12_freeIn_b37 k37 v0 v1 v2 v3 v4 v5 σ = some o) : E sc (Fm Sh (some (0, o.1)) Sh o.2) mt_X12_freeIn 6 Sh Sh 37 [(2, v0), (0, v1), (0, v2), (0, v3), (0, v4), (0, v5)] [] Sh σ := by
  unfold f_X12_freeIn_b37 at h
  refine E_iload d_X12_freeIn_37 rfl ?_
  refine E_bipush d_X12_freeIn_39 (c8 rfl) ?_
  refine E_icmp_ge (tgt := 67) d_X12_freeIn_41 (by decide) h (fun _ h => ?_) (fun _ h => ?_)
  · refine E_iconst d_X12_freeIn_67 (c32 rfl) ?_
    refine E_istore d_X12_freeIn_68 (ls' := [(2, v0), (0, v1), (0, v2), (0, v3), (0, v4), (0, 0)]) ⟨by decide, rfl⟩ ?_
    exact (L_X12_freeIn_h70 FU h)
  · refine E_aload_n d_X12_freeIn_44 rfl (by decide) ?_
    refine E_get d_X12_freeIn_45 okX12 fl_X12_44 ⟨by decide, rfl⟩ h (fun x8 h => ?_)
    refine E_iload d_X12_freeIn_48 rfl ?_
    refine E_aload_n d_X12_freeIn_50 rfl (by decide) ?_
    refine E_get d_X12_freeIn_51 okX12 fl_X12_35 ⟨by decide, rfl⟩ h (fun x9 h => ?_)
    refine E_bipush d_X12_freeIn_54 (c8 rfl) ?_
    refine E_iload d_X12_freeIn_56 rfl ?_
    refine E_iadd d_X12_freeIn_58 ?_
    refine E_iaload d_X12_freeIn_59 h (fun x10 h => ?_)
    refine E_iastore d_X12_freeIn_60 h (fun σ11 h => ?_)
    refine E_iinc d_X12_freeIn_61 (ls' := [(2, v0), (0, v1), (0, v2), (0, v3), (0, v4), (0, w32 (v5 + 1))]) rfl ⟨by decide, rfl⟩ ?_
    refine E_goto (tgt := 37) d_X12_freeIn_64 (by decide) ?_
    exact (hk37 h)
noncomputable def f_X12_freeIn_h37 (n : Nat) : Int → Int → Int → Int → Int → Int → Mem → Option (Int × Mem) := Nat.rec (motive := fun _ => Int → Int → Int → Int → Int → Int → Mem → Option (Int × Mem)) (fun _ _ _ _ _ _ _ => none) (fun _ ih => f_X12_freeIn_b37 (ih)) n
theorem L_X12_freeIn_h37 {sc : Nat × (Nat → Int32)} {o : Int × Mem} : ∀ (n : Nat) {v0 v1 v2 v3 v4 v5 : Int} {σ : Mem}, f_X12_freeIn_h37 n v0 v1 v2 v3 v4 v5 σ = some o → E sc (Fm Sh (some (0, o.1)) Sh o.2) mt_X12_freeIn 6 Sh Sh 37 [(2, v0), (0, v1), (0, v2), (0, v3), (0, v4), (0, v5)] [] Sh σ := by
  intro n
  induction n with
  | zero => intro v0 v1 v2 v3 v4 v5 σ h; cases h
  | succ n ih => intro v0 v1 v2 v3 v4 v5 σ h; exact L_X12_freeIn_b37 (@ih) h
noncomputable def f_X12_freeIn_b0 (v0 v1 v2 : Int) (σ : Mem) : Option (Int × Mem) :=
  (pf Sh σ 12 v0 1 0).bind fun σ1 =>
  (f_X12_whyNoTrial v0 v1 v2 σ1).bind fun r2 =>
  (pf Sh σ1 12 v0 0 r2).bind fun σ4 =>
  (gf Sh σ4 12 v0 0).bind fun x5 =>
  if x5 ≤ 0 then
    (gf Sh σ4 12 v0 20).bind fun x6 =>
    (al Sh σ4 20 x6 3).bind fun x7 =>
    f_X12_freeIn_h37 FU v0 v1 v2 (-1) x7 0 σ4
  else
    some ((-1), σ4)
theorem L_X12_freeIn_b0 {sc : Nat × (Nat → Int32)} {o : Int × Mem} {v0 v1 v2 : Int} {σ : Mem} (h : f_X12_freeIn_b0 v0 v1 v2 σ = some o) : E sc (Fm Sh (some (0, o.1)) Sh o.2) mt_X12_freeIn 6 Sh Sh 0 [(2, v0), (0, v1), (0, v2), (9, 0), (9, 0), (9, 0)] [] Sh σ := by
  unfold f_X12_freeIn_b0 at h
  refine E_aload_n d_X12_freeIn_0 rfl (by decide) ?_
  refine E_iconst d_X12_freeIn_1 (c32 rfl) ?_
  refine E_put d_X12_freeIn_2 okX12 fl_X12_70 ⟨by decide, rfl⟩ (Or.inl ⟨rfl, rfl⟩) (Or.inl rfl) h (fun σ1 h => ?_)
  refine E_aload_n d_X12_freeIn_5 rfl (by decide) ?_
  refine E_aload_n d_X12_freeIn_6 rfl (by decide) ?_
  refine E_iload_n d_X12_freeIn_7 rfl ?_
  refine E_iload_n d_X12_freeIn_8 rfl ?_
  refine bd h (fun r2 q3 h => ?_)
  refine E_cV (as := [(0, v1), (0, v2)]) (st := [(2, v0)]) (a := v0) d_X12_freeIn_9 mk_X12_whyNoTrial nl_X12_363 (by omega) ⟨rfl, rfl, Nat.le_of_ble_eq_true rfl⟩ okX12 rfl (L_X12_whyNoTrial q3) ?_
  refine E_put d_X12_freeIn_12 okX12 fl_X12_73 ⟨by decide, rfl⟩ (Or.inl ⟨rfl, rfl⟩) (Or.inl rfl) h (fun σ4 h => ?_)
  refine E_aload_n d_X12_freeIn_15 rfl (by decide) ?_
  refine E_get d_X12_freeIn_16 okX12 fl_X12_73 ⟨by decide, rfl⟩ h (fun x5 h => ?_)
  refine E_if_le (tgt := 24) d_X12_freeIn_19 (by decide) h (fun _ h => ?_) (fun _ h => ?_)
  · refine E_iconst d_X12_freeIn_24 (c32 rfl) ?_
    refine E_istore_n d_X12_freeIn_25 (ls' := [(2, v0), (0, v1), (0, v2), (0, (-1)), (9, 0), (9, 0)]) ⟨by decide, rfl⟩ ?_
    refine E_aload_n d_X12_freeIn_26 rfl (by decide) ?_
    refine E_get d_X12_freeIn_27 okX12 fl_X12_35 ⟨by decide, rfl⟩ h (fun x6 h => ?_)
    refine E_iconst d_X12_freeIn_30 (c32 rfl) ?_
    refine E_iaload d_X12_freeIn_31 h (fun x7 h => ?_)
    refine E_istore d_X12_freeIn_32 (ls' := [(2, v0), (0, v1), (0, v2), (0, (-1)), (0, x7), (9, 0)]) ⟨by decide, rfl⟩ ?_
    refine E_iconst d_X12_freeIn_34 (c32 rfl) ?_
    refine E_istore d_X12_freeIn_35 (ls' := [(2, v0), (0, v1), (0, v2), (0, (-1)), (0, x7), (0, 0)]) ⟨by decide, rfl⟩ ?_
    exact (L_X12_freeIn_h37 FU h)
  · refine E_iconst d_X12_freeIn_22 (c32 rfl) ?_
    cases h
    exact E_iret d_X12_freeIn_23 rfl
noncomputable def f_X12_freeIn (v0 v1 v2 : Int) (σ : Mem) : Option (Int × Mem) := if isO Sh 12 v0 = true then f_X12_freeIn_b0 v0 v1 v2 σ else none
theorem L_X12_freeIn {o : Int × Mem} {v0 v1 v2 : Int} {σ : Mem} (h : f_X12_freeIn v0 v1 v2 σ = some o) : (isO Sh 12 v0 = true ∧ Cn mt_X12_freeIn 6 [(2, v0), (0, v1), (0, v2)] Sh σ (some (0, o.1)) Sh o.2) := ⟨(ite_ok h).1, Cn_of mk_X12_freeIn.1.2.2.1 (Nat.le_of_ble_eq_true rfl) (fun sc => L_X12_freeIn_b0 (ite_ok h).2)⟩
theorem d_X12_numberOf_0 : decode mt_X12_numberOf.2.1 0 = .ok (.aload_n 0, 1) := by decide +kernel
theorem d_X12_numberOf_1 : decode mt_X12_numberOf.2.1 1 = .ok (.getfield 20, 3) := by decide +kernel
theorem d_X12_numberOf_4 : decode mt_X12_numberOf.2.1 4 = .ok (.bipush 60, 2) := by decide +kernel
theorem d_X12_numberOf_6 : decode mt_X12_numberOf.2.1 6 = .ok (.iload_n 1, 1) := by decide +kernel
theorem d_X12_numberOf_7 : decode mt_X12_numberOf.2.1 7 = .ok (.imul, 1) := by decide +kernel
theorem d_X12_numberOf_8 : decode mt_X12_numberOf.2.1 8 = .ok (.iload_n 2, 1) := by decide +kernel
theorem d_X12_numberOf_9 : decode mt_X12_numberOf.2.1 9 = .ok (.iadd, 1) := by decide +kernel
theorem d_X12_numberOf_10 : decode mt_X12_numberOf.2.1 10 = .ok (.laload, 1) := by decide +kernel
theorem d_X12_numberOf_11 : decode mt_X12_numberOf.2.1 11 = .ok (.lreturn, 1) := by decide +kernel
noncomputable def f_X12_numberOf_b0 (v0 v1 v2 : Int) (σ : Mem) : Option (Int) :=
  (gf Sh σ 12 v0 6).bind fun x1 =>
  (al Sh σ 21 x1 (w32 (w32 (60 * v1) + v2))).bind fun x2 =>
  some (x2)
theorem L_X12_numberOf_b0 {sc : Nat × (Nat → Int32)} {o : Int} {σ : Mem} {v0 v1 v2 : Int} (h : f_X12_numberOf_b0 v0 v1 v2 σ = some o) : E sc (Fm Sh (some (1, o)) Sh σ) mt_X12_numberOf 1 Sh Sh 0 [(2, v0), (0, v1), (0, v2)] [] Sh σ := by
  unfold f_X12_numberOf_b0 at h
  refine E_aload_n d_X12_numberOf_0 rfl (by decide) ?_
  refine E_get d_X12_numberOf_1 okX12 fl_X12_20 ⟨by decide, rfl⟩ h (fun x1 h => ?_)
  refine E_bipush d_X12_numberOf_4 (c8 rfl) ?_
  refine E_iload_n d_X12_numberOf_6 rfl ?_
  refine E_imul d_X12_numberOf_7 ?_
  refine E_iload_n d_X12_numberOf_8 rfl ?_
  refine E_iadd d_X12_numberOf_9 ?_
  refine E_laload d_X12_numberOf_10 h (fun x2 h => ?_)
  cases h
  exact E_lret d_X12_numberOf_11 rfl
noncomputable def f_X12_numberOf (v0 v1 v2 : Int) (σ : Mem) : Option (Int) := if isO Sh 12 v0 = true then f_X12_numberOf_b0 v0 v1 v2 σ else none
theorem L_X12_numberOf {o : Int} {v0 v1 v2 : Int} {σ : Mem} (h : f_X12_numberOf v0 v1 v2 σ = some o) : (isO Sh 12 v0 = true ∧ Cn mt_X12_numberOf 1 [(2, v0), (0, v1), (0, v2)] Sh σ (some (1, o)) Sh σ) := ⟨(ite_ok h).1, Cn_of mk_X12_numberOf.1.2.2.1 (Nat.le_of_ble_eq_true rfl) (fun sc => L_X12_numberOf_b0 (ite_ok h).2)⟩
theorem d_X12_whyNoFits_0 : decode mt_X12_whyNoFits.2.1 0 = .ok (.aload_n 0, 1) := by decide +kernel
theorem d_X12_whyNoFits_1 : decode mt_X12_whyNoFits.2.1 1 = .ok (.iload_n 1, 1) := by decide +kernel
theorem d_X12_whyNoFits_2 : decode mt_X12_whyNoFits.2.1 2 = .ok (.invokevirtual 344, 3) := by decide +kernel
theorem d_X12_whyNoFits_5 : decode mt_X12_whyNoFits.2.1 5 = .ok (.ifCond .ne 5, 3) := by decide +kernel
theorem d_X12_whyNoFits_8 : decode mt_X12_whyNoFits.2.1 8 = .ok (.iconst 1, 1) := by decide +kernel
theorem d_X12_whyNoFits_9 : decode mt_X12_whyNoFits.2.1 9 = .ok (.ireturn, 1) := by decide +kernel
theorem d_X12_whyNoFits_10 : decode mt_X12_whyNoFits.2.1 10 = .ok (.aload_n 0, 1) := by decide +kernel
theorem d_X12_whyNoFits_11 : decode mt_X12_whyNoFits.2.1 11 = .ok (.getfield 17, 3) := by decide +kernel
theorem d_X12_whyNoFits_14 : decode mt_X12_whyNoFits.2.1 14 = .ok (.iload_n 1, 1) := by decide +kernel
theorem d_X12_whyNoFits_15 : decode mt_X12_whyNoFits.2.1 15 = .ok (.iaload, 1) := by decide +kernel
theorem d_X12_whyNoFits_16 : decode mt_X12_whyNoFits.2.1 16 = .ok (.ifCond .ge 5, 3) := by decide +kernel
theorem d_X12_whyNoFits_19 : decode mt_X12_whyNoFits.2.1 19 = .ok (.iconst 3, 1) := by decide +kernel
theorem d_X12_whyNoFits_20 : decode mt_X12_whyNoFits.2.1 20 = .ok (.ireturn, 1) := by decide +kernel
theorem d_X12_whyNoFits_21 : decode mt_X12_whyNoFits.2.1 21 = .ok (.aload_n 0, 1) := by decide +kernel
theorem d_X12_whyNoFits_22 : decode mt_X12_whyNoFits.2.1 22 = .ok (.getfield 17, 3) := by decide +kernel
theorem d_X12_whyNoFits_25 : decode mt_X12_whyNoFits.2.1 25 = .ok (.iload_n 1, 1) := by decide +kernel
theorem d_X12_whyNoFits_26 : decode mt_X12_whyNoFits.2.1 26 = .ok (.iaload, 1) := by decide +kernel
theorem d_X12_whyNoFits_27 : decode mt_X12_whyNoFits.2.1 27 = .ok (.i2l, 1) := by decide +kernel
theorem d_X12_whyNoFits_28 : decode mt_X12_whyNoFits.2.1 28 = .ok (.ldc2_w 102, 3) := by decide +kernel
theorem d_X12_whyNoFits_31 : decode mt_X12_whyNoFits.2.1 31 = .ok (.iload_n 2, 1) := by decide +kernel
theorem d_X12_whyNoFits_32 : decode mt_X12_whyNoFits.2.1 32 = .ok (.i2l, 1) := by decide +kernel
theorem d_X12_whyNoFits_33 : decode mt_X12_whyNoFits.2.1 33 = .ok (.lmul, 1) := by decide +kernel
theorem d_X12_whyNoFits_34 : decode mt_X12_whyNoFits.2.1 34 = .ok (.lcmp, 1) := by decide +kernel
theorem d_X12_whyNoFits_35 : decode mt_X12_whyNoFits.2.1 35 = .ok (.ifCond .ge 5, 3) := by decide +kernel
theorem d_X12_whyNoFits_38 : decode mt_X12_whyNoFits.2.1 38 = .ok (.iconst 4, 1) := by decide +kernel
theorem d_X12_whyNoFits_39 : decode mt_X12_whyNoFits.2.1 39 = .ok (.ireturn, 1) := by decide +kernel
theorem d_X12_whyNoFits_40 : decode mt_X12_whyNoFits.2.1 40 = .ok (.iload_n 2, 1) := by decide +kernel
theorem d_X12_whyNoFits_41 : decode mt_X12_whyNoFits.2.1 41 = .ok (.i2l, 1) := by decide +kernel
theorem d_X12_whyNoFits_42 : decode mt_X12_whyNoFits.2.1 42 = .ok (.lconst 0, 1) := by decide +kernel
theorem d_X12_whyNoFits_43 : decode mt_X12_whyNoFits.2.1 43 = .ok (.ldc2_w 389, 3) := by decide +kernel
theorem d_X12_whyNoFits_46 : decode mt_X12_whyNoFits.2.1 46 = .ok (.invokestatic 104, 3) := by decide +kernel
theorem d_X12_whyNoFits_49 : decode mt_X12_whyNoFits.2.1 49 = .ok (.ifCond .ne 5, 3) := by decide +kernel
theorem d_X12_whyNoFits_52 : decode mt_X12_whyNoFits.2.1 52 = .ok (.iconst 5, 1) := by decide +kernel
theorem d_X12_whyNoFits_53 : decode mt_X12_whyNoFits.2.1 53 = .ok (.ireturn, 1) := by decide +kernel
theorem d_X12_whyNoFits_54 : decode mt_X12_whyNoFits.2.1 54 = .ok (.iconst 0, 1) := by decide +kernel
theorem d_X12_whyNoFits_55 : decode mt_X12_whyNoFits.2.1 55 = .ok (.istore_n 3, 1) := by decide +kernel
theorem d_X12_whyNoFits_56 : decode mt_X12_whyNoFits.2.1 56 = .ok (.iload_n 3, 1) := by decide +kernel
theorem d_X12_whyNoFits_57 : decode mt_X12_whyNoFits.2.1 57 = .ok (.iload_n 2, 1) := by decide +kernel
theorem d_X12_whyNoFits_58 : decode mt_X12_whyNoFits.2.1 58 = .ok (.if_icmp .ge 81, 3) := by decide +kernel
theorem d_X12_whyNoFits_61 : decode mt_X12_whyNoFits.2.1 61 = .ok (.aload_n 0, 1) := by decide +kernel
theorem d_X12_whyNoFits_62 : decode mt_X12_whyNoFits.2.1 62 = .ok (.aload_n 0, 1) := by decide +kernel
theorem d_X12_whyNoFits_63 : decode mt_X12_whyNoFits.2.1 63 = .ok (.iload_n 1, 1) := by decide +kernel
theorem d_X12_whyNoFits_64 : decode mt_X12_whyNoFits.2.1 64 = .ok (.iconst 3, 1) := by decide +kernel
theorem d_X12_whyNoFits_65 : decode mt_X12_whyNoFits.2.1 65 = .ok (.iload_n 3, 1) := by decide +kernel
theorem d_X12_whyNoFits_66 : decode mt_X12_whyNoFits.2.1 66 = .ok (.imul, 1) := by decide +kernel
theorem d_X12_whyNoFits_67 : decode mt_X12_whyNoFits.2.1 67 = .ok (.invokevirtual 391, 3) := by decide +kernel
theorem d_X12_whyNoFits_70 : decode mt_X12_whyNoFits.2.1 70 = .ok (.invokevirtual 330, 3) := by decide +kernel
theorem d_X12_whyNoFits_73 : decode mt_X12_whyNoFits.2.1 73 = .ok (.ifCond .eq 38, 3) := by decide +kernel
theorem d_X12_whyNoFits_76 : decode mt_X12_whyNoFits.2.1 76 = .ok (.aload_n 0, 1) := by decide +kernel
theorem d_X12_whyNoFits_77 : decode mt_X12_whyNoFits.2.1 77 = .ok (.aload_n 0, 1) := by decide +kernel
theorem d_X12_whyNoFits_78 : decode mt_X12_whyNoFits.2.1 78 = .ok (.iload_n 1, 1) := by decide +kernel
theorem d_X12_whyNoFits_79 : decode mt_X12_whyNoFits.2.1 79 = .ok (.iconst 3, 1) := by decide +kernel
theorem d_X12_whyNoFits_80 : decode mt_X12_whyNoFits.2.1 80 = .ok (.iload_n 3, 1) := by decide +kernel
theorem d_X12_whyNoFits_81 : decode mt_X12_whyNoFits.2.1 81 = .ok (.imul, 1) := by decide +kernel
theorem d_X12_whyNoFits_82 : decode mt_X12_whyNoFits.2.1 82 = .ok (.iconst 1, 1) := by decide +kernel
theorem d_X12_whyNoFits_83 : decode mt_X12_whyNoFits.2.1 83 = .ok (.iadd, 1) := by decide +kernel
theorem d_X12_whyNoFits_84 : decode mt_X12_whyNoFits.2.1 84 = .ok (.invokevirtual 391, 3) := by decide +kernel
theorem d_X12_whyNoFits_87 : decode mt_X12_whyNoFits.2.1 87 = .ok (.invokevirtual 330, 3) := by decide +kernel
theorem d_X12_whyNoFits_90 : decode mt_X12_whyNoFits.2.1 90 = .ok (.ifCond .eq 21, 3) := by decide +kernel
theorem d_X12_whyNoFits_93 : decode mt_X12_whyNoFits.2.1 93 = .ok (.aload_n 0, 1) := by decide +kernel
theorem d_X12_whyNoFits_94 : decode mt_X12_whyNoFits.2.1 94 = .ok (.iload_n 1, 1) := by decide +kernel
theorem d_X12_whyNoFits_95 : decode mt_X12_whyNoFits.2.1 95 = .ok (.iconst 3, 1) := by decide +kernel
theorem d_X12_whyNoFits_96 : decode mt_X12_whyNoFits.2.1 96 = .ok (.iload_n 3, 1) := by decide +kernel
theorem d_X12_whyNoFits_97 : decode mt_X12_whyNoFits.2.1 97 = .ok (.imul, 1) := by decide +kernel
theorem d_X12_whyNoFits_98 : decode mt_X12_whyNoFits.2.1 98 = .ok (.iconst 2, 1) := by decide +kernel
theorem d_X12_whyNoFits_99 : decode mt_X12_whyNoFits.2.1 99 = .ok (.iadd, 1) := by decide +kernel
theorem d_X12_whyNoFits_100 : decode mt_X12_whyNoFits.2.1 100 = .ok (.invokevirtual 391, 3) := by decide +kernel
theorem d_X12_whyNoFits_103 : decode mt_X12_whyNoFits.2.1 103 = .ok (.lconst 0, 1) := by decide +kernel
theorem d_X12_whyNoFits_104 : decode mt_X12_whyNoFits.2.1 104 = .ok (.lconst 1, 1) := by decide +kernel
theorem d_X12_whyNoFits_105 : decode mt_X12_whyNoFits.2.1 105 = .ok (.invokestatic 104, 3) := by decide +kernel
theorem d_X12_whyNoFits_108 : decode mt_X12_whyNoFits.2.1 108 = .ok (.ifCond .ne 5, 3) := by decide +kernel
theorem d_X12_whyNoFits_111 : decode mt_X12_whyNoFits.2.1 111 = .ok (.iconst 5, 1) := by decide +kernel
theorem d_X12_whyNoFits_112 : decode mt_X12_whyNoFits.2.1 112 = .ok (.ireturn, 1) := by decide +kernel
theorem d_X12_whyNoFits_113 : decode mt_X12_whyNoFits.2.1 113 = .ok (.aload_n 0, 1) := by decide +kernel
theorem d_X12_whyNoFits_114 : decode mt_X12_whyNoFits.2.1 114 = .ok (.aload_n 0, 1) := by decide +kernel
theorem d_X12_whyNoFits_115 : decode mt_X12_whyNoFits.2.1 115 = .ok (.iload_n 1, 1) := by decide +kernel
theorem d_X12_whyNoFits_116 : decode mt_X12_whyNoFits.2.1 116 = .ok (.iconst 3, 1) := by decide +kernel
theorem d_X12_whyNoFits_117 : decode mt_X12_whyNoFits.2.1 117 = .ok (.iload_n 3, 1) := by decide +kernel
theorem d_X12_whyNoFits_118 : decode mt_X12_whyNoFits.2.1 118 = .ok (.imul, 1) := by decide +kernel
theorem d_X12_whyNoFits_119 : decode mt_X12_whyNoFits.2.1 119 = .ok (.iconst 1, 1) := by decide +kernel
theorem d_X12_whyNoFits_120 : decode mt_X12_whyNoFits.2.1 120 = .ok (.iadd, 1) := by decide +kernel
theorem d_X12_whyNoFits_121 : decode mt_X12_whyNoFits.2.1 121 = .ok (.invokevirtual 391, 3) := by decide +kernel
theorem d_X12_whyNoFits_124 : decode mt_X12_whyNoFits.2.1 124 = .ok (.l2i, 1) := by decide +kernel
theorem d_X12_whyNoFits_125 : decode mt_X12_whyNoFits.2.1 125 = .ok (.invokevirtual 305, 3) := by decide +kernel
theorem d_X12_whyNoFits_128 : decode mt_X12_whyNoFits.2.1 128 = .ok (.ifCond .ne 5, 3) := by decide +kernel
theorem d_X12_whyNoFits_131 : decode mt_X12_whyNoFits.2.1 131 = .ok (.iconst 5, 1) := by decide +kernel
theorem d_X12_whyNoFits_132 : decode mt_X12_whyNoFits.2.1 132 = .ok (.ireturn, 1) := by decide +kernel
theorem d_X12_whyNoFits_133 : decode mt_X12_whyNoFits.2.1 133 = .ok (.iinc 3 1, 3) := by decide +kernel
theorem d_X12_whyNoFits_136 : decode mt_X12_whyNoFits.2.1 136 = .ok (.goto (-80), 3) := by decide +kernel
theorem d_X12_whyNoFits_139 : decode mt_X12_whyNoFits.2.1 139 = .ok (.iconst 0, 1) := by decide +kernel
theorem d_X12_whyNoFits_140 : decode mt_X12_whyNoFits.2.1 140 = .ok (.ireturn, 1) := by decide +kernel
noncomputable def f_X12_whyNoFits_b56 (k56 : (Int → Int → Int → Int → Mem → Option (Int))) (v0 v1 v2 v3 : Int) (σ : Mem) : Option (Int) :=
  if v2 ≤ v3 then
    some (0)
  else
    (f_X12_numberOf v0 v1 (w32 (3 * v3)) σ).bind fun r9 =>
    (f_X12_isPlaceAt v0 r9 σ).bind fun r11 =>
    if r11 = 0 then
      some (5)
    else
      (f_X12_numberOf v0 v1 (w32 (w32 (3 * v3) + 1)) σ).bind fun r13 =>
      (f_X12_isPlaceAt v0 r13 σ).bind fun r15 =>
      if r15 = 0 then
        some (5)
      else
        (f_X12_numberOf v0 v1 (w32 (w32 (3 * v3) + 2)) σ).bind fun r17 =>
        (f_X12_isIn r17 0 1 σ).bind fun r19 =>
        if r19 = 0 then
          some (5)
        else
          (f_X12_numberOf v0 v1 (w32 (w32 (3 * v3) + 1)) σ).bind fun r21 =>
          (f_X12_isStoneAt v0 (w32 r21) σ).bind fun r23 =>
          if r23 = 0 then
            some (5)
          else
            k56 v0 v1 v2 (w32 (v3 + 1)) σ
theorem L_X12_whyNoFits_b56 {sc : Nat × (Nat → Int32)} {o : Int} {σ : Mem} {k56 : (Int → Int → Int → Int → Mem → Option (Int))} (hk56 : ∀ {v0 v1 v2 v3 : Int}, k56 v0 v1 v2 v3 σ = some o → E sc (Fm Sh (some (0, o)) Sh σ) mt_X12_whyNoFits 3 Sh Sh 56 [(2, v0), (0, v1), (0, v2), (0, v3)] [] Sh σ) {v0 v1 v2 v3 : Int} (h : f_X12_whyNoFits_b56 k56 v0 v1 v2 v3 σ = some o) : E sc (Fm Sh (some (0, o)) Sh σ) mt_X12_whyNoFits 3 Sh Sh 56 [(2, v0), (0, v1), (0, v2), (0, v3)] [] Sh σ := by
  unfold f_X12_whyNoFits_b56 at h
  refine E_iload_n d_X12_whyNoFits_56 rfl ?_
  refine E_iload_n d_X12_whyNoFits_57 rfl ?_
  refine E_icmp_ge (tgt := 139) d_X12_whyNoFits_58 (by decide) h (fun _ h => ?_) (fun _ h => ?_)
  · refine E_iconst d_X12_whyNoFits_139 (c32 rfl) ?_
    cases h
    exact E_iret d_X12_whyNoFits_140 rfl
  · refine E_aload_n d_X12_whyNoFits_61 rfl (by decide) ?_
    refine E_aload_n d_X12_whyNoFits_62 rfl (by decide) ?_
    refine E_iload_n d_X12_whyNoFits_63 rfl ?_
    refine E_iconst d_X12_whyNoFits_64 (c32 rfl) ?_
    refine E_iload_n d_X12_whyNoFits_65 rfl ?_
    refine E_imul d_X12_whyNoFits_66 ?_
    refine bd h (fun r9 q10 h => ?_)
    refine E_cV (as := [(0, v1), (0, w32 (3 * v3))]) (st := [(2, v0)]) (a := v0) d_X12_whyNoFits_67 mk_X12_numberOf nl_X12_391 (by omega) ⟨rfl, rfl, Nat.le_of_ble_eq_true rfl⟩ okX12 rfl (L_X12_numberOf q10) ?_
    refine bd h (fun r11 q12 h => ?_)
    refine E_cV (as := [(1, r9)]) (st := []) (a := v0) d_X12_whyNoFits_70 mk_X12_isPlaceAt nl_X12_330 (by omega) ⟨rfl, rfl, Nat.le_of_ble_eq_true rfl⟩ okX12 rfl (L_X12_isPlaceAt q12) ?_
    refine E_if_eq (tgt := 111) d_X12_whyNoFits_73 (by decide) h (fun _ h => ?_) (fun _ h => ?_)
    · refine E_iconst d_X12_whyNoFits_111 (c32 rfl) ?_
      cases h
      exact E_iret d_X12_whyNoFits_112 rfl
    · refine E_aload_n d_X12_whyNoFits_76 rfl (by decide) ?_
      refine E_aload_n d_X12_whyNoFits_77 rfl (by decide) ?_
      refine E_iload_n d_X12_whyNoFits_78 rfl ?_
      refine E_iconst d_X12_whyNoFits_79 (c32 rfl) ?_
      refine E_iload_n d_X12_whyNoFits_80 rfl ?_
      refine E_imul d_X12_whyNoFits_81 ?_
      refine E_iconst d_X12_whyNoFits_82 (c32 rfl) ?_
      refine E_iadd d_X12_whyNoFits_83 ?_
      refine bd h (fun r13 q14 h => ?_)
      refine E_cV (as := [(0, v1), (0, w32 (w32 (3 * v3) + 1))]) (st := [(2, v0)]) (a := v0) d_X12_whyNoFits_84 mk_X12_numberOf nl_X12_391 (by omega) ⟨rfl, rfl, Nat.le_of_ble_eq_true rfl⟩ okX12 rfl (L_X12_numberOf q14) ?_
      refine bd h (fun r15 q16 h => ?_)
      refine E_cV (as := [(1, r13)]) (st := []) (a := v0) d_X12_whyNoFits_87 mk_X12_isPlaceAt nl_X12_330 (by omega) ⟨rfl, rfl, Nat.le_of_ble_eq_true rfl⟩ okX12 rfl (L_X12_isPlaceAt q16) ?_
      refine E_if_eq (tgt := 111) d_X12_whyNoFits_90 (by decide) h (fun _ h => ?_) (fun _ h => ?_)
      · refine E_iconst d_X12_whyNoFits_111 (c32 rfl) ?_
        cases h
        exact E_iret d_X12_whyNoFits_112 rfl
      · refine E_aload_n d_X12_whyNoFits_93 rfl (by decide) ?_
        refine E_iload_n d_X12_whyNoFits_94 rfl ?_
        refine E_iconst d_X12_whyNoFits_95 (c32 rfl) ?_
        refine E_iload_n d_X12_whyNoFits_96 rfl ?_
        refine E_imul d_X12_whyNoFits_97 ?_
        refine E_iconst d_X12_whyNoFits_98 (c32 rfl) ?_
        refine E_iadd d_X12_whyNoFits_99 ?_
        refine bd h (fun r17 q18 h => ?_)
        refine E_cV (as := [(0, v1), (0, w32 (w32 (3 * v3) + 2))]) (st := []) (a := v0) d_X12_whyNoFits_100 mk_X12_numberOf nl_X12_391 (by omega) ⟨rfl, rfl, Nat.le_of_ble_eq_true rfl⟩ okX12 rfl (L_X12_numberOf q18) ?_
        refine E_lconst d_X12_whyNoFits_103 cl0 ?_
        refine E_lconst d_X12_whyNoFits_104 cl1 ?_
        refine bd h (fun r19 q20 h => ?_)
        refine E_cS (as := [(1, r17), (1, 0), (1, 1)]) (st := []) d_X12_whyNoFits_105 mk_X12_isIn nl_X12_104 (by omega) ⟨rfl, rfl, Nat.le_of_ble_eq_true rfl⟩ (L_X12_isIn q20) ?_
        refine E_if_ne (tgt := 113) d_X12_whyNoFits_108 (by decide) h (fun _ h => ?_) (fun _ h => ?_)
        · refine E_iconst d_X12_whyNoFits_111 (c32 rfl) ?_
          cases h
          exact E_iret d_X12_whyNoFits_112 rfl
        · refine E_aload_n d_X12_whyNoFits_113 rfl (by decide) ?_
          refine E_aload_n d_X12_whyNoFits_114 rfl (by decide) ?_
          refine E_iload_n d_X12_whyNoFits_115 rfl ?_
          refine E_iconst d_X12_whyNoFits_116 (c32 rfl) ?_
          refine E_iload_n d_X12_whyNoFits_117 rfl ?_
          refine E_imul d_X12_whyNoFits_118 ?_
          refine E_iconst d_X12_whyNoFits_119 (c32 rfl) ?_
          refine E_iadd d_X12_whyNoFits_120 ?_
          refine bd h (fun r21 q22 h => ?_)
          refine E_cV (as := [(0, v1), (0, w32 (w32 (3 * v3) + 1))]) (st := [(2, v0)]) (a := v0) d_X12_whyNoFits_121 mk_X12_numberOf nl_X12_391 (by omega) ⟨rfl, rfl, Nat.le_of_ble_eq_true rfl⟩ okX12 rfl (L_X12_numberOf q22) ?_
          refine E_l2i d_X12_whyNoFits_124 ?_
          refine bd h (fun r23 q24 h => ?_)
          refine E_cV (as := [(0, w32 r21)]) (st := []) (a := v0) d_X12_whyNoFits_125 mk_X12_isStoneAt nl_X12_305 (by omega) ⟨rfl, rfl, Nat.le_of_ble_eq_true rfl⟩ okX12 rfl (L_X12_isStoneAt q24) ?_
          refine E_if_ne (tgt := 133) d_X12_whyNoFits_128 (by decide) h (fun _ h => ?_) (fun _ h => ?_)
          · refine E_iconst d_X12_whyNoFits_131 (c32 rfl) ?_
            cases h
            exact E_iret d_X12_whyNoFits_132 rfl
          · refine E_iinc d_X12_whyNoFits_133 (ls' := [(2, v0), (0, v1), (0, v2), (0, w32 (v3 + 1))]) rfl ⟨by decide, rfl⟩ ?_
            refine E_goto (tgt := 56) d_X12_whyNoFits_136 (by decide) ?_
            exact (hk56 h)
noncomputable def f_X12_whyNoFits_h56 (n : Nat) : Int → Int → Int → Int → Mem → Option (Int) := Nat.rec (motive := fun _ => Int → Int → Int → Int → Mem → Option (Int)) (fun _ _ _ _ _ => none) (fun _ ih => f_X12_whyNoFits_b56 (ih)) n
theorem L_X12_whyNoFits_h56 {sc : Nat × (Nat → Int32)} {o : Int} {σ : Mem} : ∀ (n : Nat) {v0 v1 v2 v3 : Int}, f_X12_whyNoFits_h56 n v0 v1 v2 v3 σ = some o → E sc (Fm Sh (some (0, o)) Sh σ) mt_X12_whyNoFits 3 Sh Sh 56 [(2, v0), (0, v1), (0, v2), (0, v3)] [] Sh σ := by
  intro n
  induction n with
  | zero => intro v0 v1 v2 v3 h; cases h
  | succ n ih => intro v0 v1 v2 v3 h; exact L_X12_whyNoFits_b56 (@ih) h
noncomputable def f_X12_whyNoFits_b0 (v0 v1 v2 : Int) (σ : Mem) : Option (Int) :=
  (f_X12_isTray v0 v1 σ).bind fun r1 =>
  if r1 = 0 then
    some (1)
  else
    (gf Sh σ 12 v0 5).bind fun x3 =>
    (al Sh σ 20 x3 v1).bind fun x4 =>
    if 0 ≤ x4 then
      (gf Sh σ 12 v0 5).bind fun x5 =>
      (al Sh σ 20 x5 v1).bind fun x6 =>
      if 0 ≤ lcmp x6 (w64 (3 * v2)) then
        (f_X12_isIn v2 0 20 σ).bind fun r7 =>
        if r7 = 0 then
          some (5)
        else
          f_X12_whyNoFits_h56 FU v0 v1 v2 0 σ
      else
        some (4)
    else
      some (3)
theorem L_X12_whyNoFits_b0 {sc : Nat × (Nat → Int32)} {o : Int} {σ : Mem} {v0 v1 v2 : Int} (h : f_X12_whyNoFits_b0 v0 v1 v2 σ = some o) : E sc (Fm Sh (some (0, o)) Sh σ) mt_X12_whyNoFits 3 Sh Sh 0 [(2, v0), (0, v1), (0, v2), (9, 0)] [] Sh σ := by
  unfold f_X12_whyNoFits_b0 at h
  refine E_aload_n d_X12_whyNoFits_0 rfl (by decide) ?_
  refine E_iload_n d_X12_whyNoFits_1 rfl ?_
  refine bd h (fun r1 q2 h => ?_)
  refine E_cV (as := [(0, v1)]) (st := []) (a := v0) d_X12_whyNoFits_2 mk_X12_isTray nl_X12_344 (by omega) ⟨rfl, rfl, Nat.le_of_ble_eq_true rfl⟩ okX12 rfl (L_X12_isTray q2) ?_
  refine E_if_ne (tgt := 10) d_X12_whyNoFits_5 (by decide) h (fun _ h => ?_) (fun _ h => ?_)
  · refine E_iconst d_X12_whyNoFits_8 (c32 rfl) ?_
    cases h
    exact E_iret d_X12_whyNoFits_9 rfl
  · refine E_aload_n d_X12_whyNoFits_10 rfl (by decide) ?_
    refine E_get d_X12_whyNoFits_11 okX12 fl_X12_17 ⟨by decide, rfl⟩ h (fun x3 h => ?_)
    refine E_iload_n d_X12_whyNoFits_14 rfl ?_
    refine E_iaload d_X12_whyNoFits_15 h (fun x4 h => ?_)
    refine E_if_ge (tgt := 21) d_X12_whyNoFits_16 (by decide) h (fun _ h => ?_) (fun _ h => ?_)
    · refine E_aload_n d_X12_whyNoFits_21 rfl (by decide) ?_
      refine E_get d_X12_whyNoFits_22 okX12 fl_X12_17 ⟨by decide, rfl⟩ h (fun x5 h => ?_)
      refine E_iload_n d_X12_whyNoFits_25 rfl ?_
      refine E_iaload d_X12_whyNoFits_26 h (fun x6 h => ?_)
      refine E_i2l d_X12_whyNoFits_27 ?_
      refine E_ldc2 d_X12_whyNoFits_28 kw_X12_102 ?_
      refine E_iload_n d_X12_whyNoFits_31 rfl ?_
      refine E_i2l d_X12_whyNoFits_32 ?_
      refine E_lmul d_X12_whyNoFits_33 ?_
      refine E_lcmp d_X12_whyNoFits_34 ?_
      refine E_if_ge (tgt := 40) d_X12_whyNoFits_35 (by decide) h (fun _ h => ?_) (fun _ h => ?_)
      · refine E_iload_n d_X12_whyNoFits_40 rfl ?_
        refine E_i2l d_X12_whyNoFits_41 ?_
        refine E_lconst d_X12_whyNoFits_42 cl0 ?_
        refine E_ldc2 d_X12_whyNoFits_43 kw_X12_389 ?_
        refine bd h (fun r7 q8 h => ?_)
        refine E_cS (as := [(1, v2), (1, 0), (1, 20)]) (st := []) d_X12_whyNoFits_46 mk_X12_isIn nl_X12_104 (by omega) ⟨rfl, rfl, Nat.le_of_ble_eq_true rfl⟩ (L_X12_isIn q8) ?_
        refine E_if_ne (tgt := 54) d_X12_whyNoFits_49 (by decide) h (fun _ h => ?_) (fun _ h => ?_)
        · refine E_iconst d_X12_whyNoFits_52 (c32 rfl) ?_
          cases h
          exact E_iret d_X12_whyNoFits_53 rfl
        · refine E_iconst d_X12_whyNoFits_54 (c32 rfl) ?_
          refine E_istore_n d_X12_whyNoFits_55 (ls' := [(2, v0), (0, v1), (0, v2), (0, 0)]) ⟨by decide, rfl⟩ ?_
          exact (L_X12_whyNoFits_h56 FU h)
      · refine E_iconst d_X12_whyNoFits_38 (c32 rfl) ?_
        cases h
        exact E_iret d_X12_whyNoFits_39 rfl
    · refine E_iconst d_X12_whyNoFits_19 (c32 rfl) ?_
      cases h
      exact E_iret d_X12_whyNoFits_20 rfl
noncomputable def f_X12_whyNoFits (v0 v1 v2 : Int) (σ : Mem) : Option (Int) := if isO Sh 12 v0 = true then f_X12_whyNoFits_b0 v0 v1 v2 σ else none
theorem L_X12_whyNoFits {o : Int} {v0 v1 v2 : Int} {σ : Mem} (h : f_X12_whyNoFits v0 v1 v2 σ = some o) : (isO Sh 12 v0 = true ∧ Cn mt_X12_whyNoFits 3 [(2, v0), (0, v1), (0, v2)] Sh σ (some (0, o)) Sh σ) := ⟨(ite_ok h).1, Cn_of mk_X12_whyNoFits.1.2.2.1 (Nat.le_of_ble_eq_true rfl) (fun sc => L_X12_whyNoFits_b0 (ite_ok h).2)⟩
theorem d_X12_turns_0 : decode mt_X12_turns.2.1 0 = .ok (.iload_n 1, 1) := by decide +kernel
theorem d_X12_turns_1 : decode mt_X12_turns.2.1 1 = .ok (.aload_n 0, 1) := by decide +kernel
theorem d_X12_turns_2 : decode mt_X12_turns.2.1 2 = .ok (.iload_n 3, 1) := by decide +kernel
theorem d_X12_turns_3 : decode mt_X12_turns.2.1 3 = .ok (.iload_n 2, 1) := by decide +kernel
theorem d_X12_turns_4 : decode mt_X12_turns.2.1 4 = .ok (.invokevirtual 338, 3) := by decide +kernel
theorem d_X12_turns_7 : decode mt_X12_turns.2.1 7 = .ok (.if_icmp .le 7, 3) := by decide +kernel
theorem d_X12_turns_10 : decode mt_X12_turns.2.1 10 = .ok (.iconst 1, 1) := by decide +kernel
theorem d_X12_turns_11 : decode mt_X12_turns.2.1 11 = .ok (.goto 4, 3) := by decide +kernel
theorem d_X12_turns_14 : decode mt_X12_turns.2.1 14 = .ok (.iconst 0, 1) := by decide +kernel
theorem d_X12_turns_15 : decode mt_X12_turns.2.1 15 = .ok (.ireturn, 1) := by decide +kernel
noncomputable def f_X12_turns_b0 (v0 v1 v2 v3 : Int) (σ : Mem) : Option (Int) :=
  (f_X12_mercyOf v0 v3 v2 σ).bind fun r1 =>
  if v1 ≤ r1 then
    some (0)
  else
    some (1)
theorem L_X12_turns_b0 {sc : Nat × (Nat → Int32)} {o : Int} {σ : Mem} {v0 v1 v2 v3 : Int} (h : f_X12_turns_b0 v0 v1 v2 v3 σ = some o) : E sc (Fm Sh (some (0, o)) Sh σ) mt_X12_turns 4 Sh Sh 0 [(2, v0), (0, v1), (0, v2), (0, v3)] [] Sh σ := by
  unfold f_X12_turns_b0 at h
  refine E_iload_n d_X12_turns_0 rfl ?_
  refine E_aload_n d_X12_turns_1 rfl (by decide) ?_
  refine E_iload_n d_X12_turns_2 rfl ?_
  refine E_iload_n d_X12_turns_3 rfl ?_
  refine bd h (fun r1 q2 h => ?_)
  refine E_cV (as := [(0, v3), (0, v2)]) (st := [(0, v1)]) (a := v0) d_X12_turns_4 mk_X12_mercyOf nl_X12_338 (by omega) ⟨rfl, rfl, Nat.le_of_ble_eq_true rfl⟩ okX12 rfl (L_X12_mercyOf q2) ?_
  refine E_icmp_le (tgt := 14) d_X12_turns_7 (by decide) h (fun _ h => ?_) (fun _ h => ?_)
  · refine E_iconst d_X12_turns_14 (c32 rfl) ?_
    cases h
    exact E_zret d_X12_turns_15 rfl (Or.inl rfl)
  · refine E_iconst d_X12_turns_10 (c32 rfl) ?_
    refine E_goto (tgt := 15) d_X12_turns_11 (by decide) ?_
    cases h
    exact E_zret d_X12_turns_15 rfl (Or.inr rfl)
noncomputable def f_X12_turns (v0 v1 v2 v3 : Int) (σ : Mem) : Option (Int) := if isO Sh 12 v0 = true then f_X12_turns_b0 v0 v1 v2 v3 σ else none
theorem L_X12_turns {o : Int} {v0 v1 v2 v3 : Int} {σ : Mem} (h : f_X12_turns v0 v1 v2 v3 σ = some o) : (isO Sh 12 v0 = true ∧ Cn mt_X12_turns 4 [(2, v0), (0, v1), (0, v2), (0, v3)] Sh σ (some (0, o)) Sh σ) := ⟨(ite_ok h).1, Cn_of mk_X12_turns.1.2.2.1 (Nat.le_of_ble_eq_true rfl) (fun sc => L_X12_turns_b0 (ite_ok h).2)⟩
theorem d_X12_laysFits_0 : decode mt_X12_laysFits.2.1 0 = .ok (.aload_n 0, 1) := by decide +kernel
theorem d_X12_laysFits_1 : decode mt_X12_laysFits.2.1 1 = .ok (.iconst 0, 1) := by decide +kernel
theorem d_X12_laysFits_2 : decode mt_X12_laysFits.2.1 2 = .ok (.putfield 395, 3) := by decide +kernel
theorem d_X12_laysFits_5 : decode mt_X12_laysFits.2.1 5 = .ok (.iconst 0, 1) := by decide +kernel
theorem d_X12_laysFits_6 : decode mt_X12_laysFits.2.1 6 = .ok (.istore_n 3, 1) := by decide +kernel
theorem d_X12_laysFits_7 : decode mt_X12_laysFits.2.1 7 = .ok (.iload_n 3, 1) := by decide +kernel
theorem d_X12_laysFits_8 : decode mt_X12_laysFits.2.1 8 = .ok (.bipush 60, 2) := by decide +kernel
theorem d_X12_laysFits_10 : decode mt_X12_laysFits.2.1 10 = .ok (.if_icmp .gt 125, 3) := by decide +kernel
theorem d_X12_laysFits_13 : decode mt_X12_laysFits.2.1 13 = .ok (.aload_n 0, 1) := by decide +kernel
theorem d_X12_laysFits_14 : decode mt_X12_laysFits.2.1 14 = .ok (.getfield 47, 3) := by decide +kernel
theorem d_X12_laysFits_17 : decode mt_X12_laysFits.2.1 17 = .ok (.iload_n 3, 1) := by decide +kernel
theorem d_X12_laysFits_18 : decode mt_X12_laysFits.2.1 18 = .ok (.iconst 1, 1) := by decide +kernel
theorem d_X12_laysFits_19 : decode mt_X12_laysFits.2.1 19 = .ok (.bastore, 1) := by decide +kernel
theorem d_X12_laysFits_20 : decode mt_X12_laysFits.2.1 20 = .ok (.iconst 0, 1) := by decide +kernel
theorem d_X12_laysFits_21 : decode mt_X12_laysFits.2.1 21 = .ok (.istore 4, 2) := by decide +kernel
theorem d_X12_laysFits_23 : decode mt_X12_laysFits.2.1 23 = .ok (.iload 4, 2) := by decide +kernel
theorem d_X12_laysFits_25 : decode mt_X12_laysFits.2.1 25 = .ok (.iload_n 2, 1) := by decide +kernel
theorem d_X12_laysFits_26 : decode mt_X12_laysFits.2.1 26 = .ok (.if_icmp .ge 80, 3) := by decide +kernel
theorem d_X12_laysFits_29 : decode mt_X12_laysFits.2.1 29 = .ok (.aload_n 0, 1) := by decide +kernel
theorem d_X12_laysFits_30 : decode mt_X12_laysFits.2.1 30 = .ok (.getfield 47, 3) := by decide +kernel
theorem d_X12_laysFits_33 : decode mt_X12_laysFits.2.1 33 = .ok (.iload_n 3, 1) := by decide +kernel
theorem d_X12_laysFits_34 : decode mt_X12_laysFits.2.1 34 = .ok (.aload_n 0, 1) := by decide +kernel
theorem d_X12_laysFits_35 : decode mt_X12_laysFits.2.1 35 = .ok (.getfield 47, 3) := by decide +kernel
theorem d_X12_laysFits_38 : decode mt_X12_laysFits.2.1 38 = .ok (.iload_n 3, 1) := by decide +kernel
theorem d_X12_laysFits_39 : decode mt_X12_laysFits.2.1 39 = .ok (.baload, 1) := by decide +kernel
theorem d_X12_laysFits_40 : decode mt_X12_laysFits.2.1 40 = .ok (.ifCond .eq 58, 3) := by decide +kernel
theorem d_X12_laysFits_43 : decode mt_X12_laysFits.2.1 43 = .ok (.aload_n 0, 1) := by decide +kernel
theorem d_X12_laysFits_44 : decode mt_X12_laysFits.2.1 44 = .ok (.iload_n 3, 1) := by decide +kernel
theorem d_X12_laysFits_45 : decode mt_X12_laysFits.2.1 45 = .ok (.aload_n 0, 1) := by decide +kernel
theorem d_X12_laysFits_46 : decode mt_X12_laysFits.2.1 46 = .ok (.iload_n 1, 1) := by decide +kernel
theorem d_X12_laysFits_47 : decode mt_X12_laysFits.2.1 47 = .ok (.iconst 3, 1) := by decide +kernel
theorem d_X12_laysFits_48 : decode mt_X12_laysFits.2.1 48 = .ok (.iload 4, 2) := by decide +kernel
theorem d_X12_laysFits_50 : decode mt_X12_laysFits.2.1 50 = .ok (.imul, 1) := by decide +kernel
theorem d_X12_laysFits_51 : decode mt_X12_laysFits.2.1 51 = .ok (.invokevirtual 391, 3) := by decide +kernel
theorem d_X12_laysFits_54 : decode mt_X12_laysFits.2.1 54 = .ok (.l2i, 1) := by decide +kernel
theorem d_X12_laysFits_55 : decode mt_X12_laysFits.2.1 55 = .ok (.aload_n 0, 1) := by decide +kernel
theorem d_X12_laysFits_56 : decode mt_X12_laysFits.2.1 56 = .ok (.iload_n 1, 1) := by decide +kernel
theorem d_X12_laysFits_57 : decode mt_X12_laysFits.2.1 57 = .ok (.iconst 3, 1) := by decide +kernel
theorem d_X12_laysFits_58 : decode mt_X12_laysFits.2.1 58 = .ok (.iload 4, 2) := by decide +kernel
theorem d_X12_laysFits_60 : decode mt_X12_laysFits.2.1 60 = .ok (.imul, 1) := by decide +kernel
theorem d_X12_laysFits_61 : decode mt_X12_laysFits.2.1 61 = .ok (.iconst 1, 1) := by decide +kernel
theorem d_X12_laysFits_62 : decode mt_X12_laysFits.2.1 62 = .ok (.iadd, 1) := by decide +kernel
theorem d_X12_laysFits_63 : decode mt_X12_laysFits.2.1 63 = .ok (.invokevirtual 391, 3) := by decide +kernel
theorem d_X12_laysFits_66 : decode mt_X12_laysFits.2.1 66 = .ok (.l2i, 1) := by decide +kernel
theorem d_X12_laysFits_67 : decode mt_X12_laysFits.2.1 67 = .ok (.invokevirtual 398, 3) := by decide +kernel
theorem d_X12_laysFits_70 : decode mt_X12_laysFits.2.1 70 = .ok (.aload_n 0, 1) := by decide +kernel
theorem d_X12_laysFits_71 : decode mt_X12_laysFits.2.1 71 = .ok (.iload_n 1, 1) := by decide +kernel
theorem d_X12_laysFits_72 : decode mt_X12_laysFits.2.1 72 = .ok (.iconst 3, 1) := by decide +kernel
theorem d_X12_laysFits_73 : decode mt_X12_laysFits.2.1 73 = .ok (.iload 4, 2) := by decide +kernel
theorem d_X12_laysFits_75 : decode mt_X12_laysFits.2.1 75 = .ok (.imul, 1) := by decide +kernel
theorem d_X12_laysFits_76 : decode mt_X12_laysFits.2.1 76 = .ok (.iconst 2, 1) := by decide +kernel
theorem d_X12_laysFits_77 : decode mt_X12_laysFits.2.1 77 = .ok (.iadd, 1) := by decide +kernel
theorem d_X12_laysFits_78 : decode mt_X12_laysFits.2.1 78 = .ok (.invokevirtual 391, 3) := by decide +kernel
theorem d_X12_laysFits_81 : decode mt_X12_laysFits.2.1 81 = .ok (.lconst 1, 1) := by decide +kernel
theorem d_X12_laysFits_82 : decode mt_X12_laysFits.2.1 82 = .ok (.lcmp, 1) := by decide +kernel
theorem d_X12_laysFits_83 : decode mt_X12_laysFits.2.1 83 = .ok (.ifCond .ne 7, 3) := by decide +kernel
theorem d_X12_laysFits_86 : decode mt_X12_laysFits.2.1 86 = .ok (.iconst 1, 1) := by decide +kernel
theorem d_X12_laysFits_87 : decode mt_X12_laysFits.2.1 87 = .ok (.goto 4, 3) := by decide +kernel
theorem d_X12_laysFits_90 : decode mt_X12_laysFits.2.1 90 = .ok (.iconst 0, 1) := by decide +kernel
theorem d_X12_laysFits_91 : decode mt_X12_laysFits.2.1 91 = .ok (.if_icmp .ne 7, 3) := by decide +kernel
theorem d_X12_laysFits_94 : decode mt_X12_laysFits.2.1 94 = .ok (.iconst 1, 1) := by decide +kernel
theorem d_X12_laysFits_95 : decode mt_X12_laysFits.2.1 95 = .ok (.goto 4, 3) := by decide +kernel
theorem d_X12_laysFits_98 : decode mt_X12_laysFits.2.1 98 = .ok (.iconst 0, 1) := by decide +kernel
theorem d_X12_laysFits_99 : decode mt_X12_laysFits.2.1 99 = .ok (.bastore, 1) := by decide +kernel
theorem d_X12_laysFits_100 : decode mt_X12_laysFits.2.1 100 = .ok (.iinc 4 1, 3) := by decide +kernel
theorem d_X12_laysFits_103 : decode mt_X12_laysFits.2.1 103 = .ok (.goto (-80), 3) := by decide +kernel
theorem d_X12_laysFits_106 : decode mt_X12_laysFits.2.1 106 = .ok (.aload_n 0, 1) := by decide +kernel
theorem d_X12_laysFits_107 : decode mt_X12_laysFits.2.1 107 = .ok (.dup, 1) := by decide +kernel
theorem d_X12_laysFits_108 : decode mt_X12_laysFits.2.1 108 = .ok (.getfield 395, 3) := by decide +kernel
theorem d_X12_laysFits_111 : decode mt_X12_laysFits.2.1 111 = .ok (.aload_n 0, 1) := by decide +kernel
theorem d_X12_laysFits_112 : decode mt_X12_laysFits.2.1 112 = .ok (.getfield 47, 3) := by decide +kernel
theorem d_X12_laysFits_115 : decode mt_X12_laysFits.2.1 115 = .ok (.iload_n 3, 1) := by decide +kernel
theorem d_X12_laysFits_116 : decode mt_X12_laysFits.2.1 116 = .ok (.baload, 1) := by decide +kernel
theorem d_X12_laysFits_117 : decode mt_X12_laysFits.2.1 117 = .ok (.ifCond .eq 7, 3) := by decide +kernel
theorem d_X12_laysFits_120 : decode mt_X12_laysFits.2.1 120 = .ok (.iconst 1, 1) := by decide +kernel
theorem d_X12_laysFits_121 : decode mt_X12_laysFits.2.1 121 = .ok (.goto 4, 3) := by decide +kernel
theorem d_X12_laysFits_124 : decode mt_X12_laysFits.2.1 124 = .ok (.iconst 0, 1) := by decide +kernel
theorem d_X12_laysFits_125 : decode mt_X12_laysFits.2.1 125 = .ok (.iadd, 1) := by decide +kernel
theorem d_X12_laysFits_126 : decode mt_X12_laysFits.2.1 126 = .ok (.putfield 395, 3) := by decide +kernel
theorem d_X12_laysFits_129 : decode mt_X12_laysFits.2.1 129 = .ok (.iinc 3 1, 3) := by decide +kernel
theorem d_X12_laysFits_132 : decode mt_X12_laysFits.2.1 132 = .ok (.goto (-125), 3) := by decide +kernel
theorem d_X12_laysFits_135 : decode mt_X12_laysFits.2.1 135 = .ok (.return_, 1) := by decide +kernel
noncomputable def f_X12_laysFits_b99 (k7 : (Int → Int → Int → Int → Mem → Option (Mem))) (k23 : (Int → Int → Int → Int → Int → Mem → Option (Mem))) (v0 v1 v2 v3 v4 s0 s1 s2 : Int) (σ : Mem) : Option (Mem) :=
  (st_ Sh σ 23 s2 s1 (b1 s0)).bind fun σ18 =>
  k23 v0 v1 v2 v3 (w32 (v4 + 1)) σ18
theorem L_X12_laysFits_b99 {sc : Nat × (Nat → Int32)} {o : Mem} {k7 : (Int → Int → Int → Int → Mem → Option (Mem))} {k23 : (Int → Int → Int → Int → Int → Mem → Option (Mem))} (hk7 : ∀ {v0 v1 v2 v3 : Int} {σ : Mem}, k7 v0 v1 v2 v3 σ = some o → E sc (Fm Sh none Sh o) mt_X12_laysFits 5 Sh Sh 7 [(2, v0), (0, v1), (0, v2), (0, v3), (9, 0)] [] Sh σ) (hk23 : ∀ {v0 v1 v2 v3 v4 : Int} {σ : Mem}, k23 v0 v1 v2 v3 v4 σ = some o → E sc (Fm Sh none Sh o) mt_X12_laysFits 5 Sh Sh 23 [(2, v0), (0, v1), (0, v2), (0, v3), (0, v4)] [] Sh σ) {v0 v1 v2 v3 v4 s0 s1 s2 : Int} {σ : Mem} (h : f_X12_laysFits_b99 k7 k23 v0 v1 v2 v3 v4 s0 s1 s2 σ = some o) : E sc (Fm Sh none Sh o) mt_X12_laysFits 5 Sh Sh 99 [(2, v0), (0, v1), (0, v2), (0, v3), (0, v4)] [(0, s0), (0, s1), (2, s2)] Sh σ := by
  unfold f_X12_laysFits_b99 at h
  refine E_zastore d_X12_laysFits_99 h (fun σ18 h => ?_)
  refine E_iinc d_X12_laysFits_100 (ls' := [(2, v0), (0, v1), (0, v2), (0, v3), (0, w32 (v4 + 1))]) rfl ⟨by decide, rfl⟩ ?_
  refine E_goto (tgt := 23) d_X12_laysFits_103 (by decide) ?_
  exact (hk23 h)
noncomputable def f_X12_laysFits_b98 (k7 : (Int → Int → Int → Int → Mem → Option (Mem))) (k23 : (Int → Int → Int → Int → Int → Mem → Option (Mem))) (v0 v1 v2 v3 v4 s0 s1 : Int) (σ : Mem) : Option (Mem) :=
  f_X12_laysFits_b99 k7 k23 v0 v1 v2 v3 v4 0 s0 s1 σ
theorem L_X12_laysFits_b98 {sc : Nat × (Nat → Int32)} {o : Mem} {k7 : (Int → Int → Int → Int → Mem → Option (Mem))} {k23 : (Int → Int → Int → Int → Int → Mem → Option (Mem))} (hk7 : ∀ {v0 v1 v2 v3 : Int} {σ : Mem}, k7 v0 v1 v2 v3 σ = some o → E sc (Fm Sh none Sh o) mt_X12_laysFits 5 Sh Sh 7 [(2, v0), (0, v1), (0, v2), (0, v3), (9, 0)] [] Sh σ) (hk23 : ∀ {v0 v1 v2 v3 v4 : Int} {σ : Mem}, k23 v0 v1 v2 v3 v4 σ = some o → E sc (Fm Sh none Sh o) mt_X12_laysFits 5 Sh Sh 23 [(2, v0), (0, v1), (0, v2), (0, v3), (0, v4)] [] Sh σ) {v0 v1 v2 v3 v4 s0 s1 : Int} {σ : Mem} (h : f_X12_laysFits_b98 k7 k23 v0 v1 v2 v3 v4 s0 s1 σ = some o) : E sc (Fm Sh none Sh o) mt_X12_laysFits 5 Sh Sh 98 [(2, v0), (0, v1), (0, v2), (0, v3), (0, v4)] [(0, s0), (2, s1)] Sh σ := by
  unfold f_X12_laysFits_b98 at h
  refine E_iconst d_X12_laysFits_98 (c32 rfl) ?_
  exact (L_X12_laysFits_b99 hk7 hk23 h)
noncomputable def f_X12_laysFits_b91 (k7 : (Int → Int → Int → Int → Mem → Option (Mem))) (k23 : (Int → Int → Int → Int → Int → Mem → Option (Mem))) (v0 v1 v2 v3 v4 s0 s1 s2 s3 : Int) (σ : Mem) : Option (Mem) :=
  if s1 = s0 then
    f_X12_laysFits_b99 k7 k23 v0 v1 v2 v3 v4 1 s2 s3 σ
  else
    f_X12_laysFits_b98 k7 k23 v0 v1 v2 v3 v4 s2 s3 σ
theorem L_X12_laysFits_b91 {sc : Nat × (Nat → Int32)} {o : Mem} {k7 : (Int → Int → Int → Int → Mem → Option (Mem))} {k23 : (Int → Int → Int → Int → Int → Mem → Option (Mem))} (hk7 : ∀ {v0 v1 v2 v3 : Int} {σ : Mem}, k7 v0 v1 v2 v3 σ = some o → E sc (Fm Sh none Sh o) mt_X12_laysFits 5 Sh Sh 7 [(2, v0), (0, v1), (0, v2), (0, v3), (9, 0)] [] Sh σ) (hk23 : ∀ {v0 v1 v2 v3 v4 : Int} {σ : Mem}, k23 v0 v1 v2 v3 v4 σ = some o → E sc (Fm Sh none Sh o) mt_X12_laysFits 5 Sh Sh 23 [(2, v0), (0, v1), (0, v2), (0, v3), (0, v4)] [] Sh σ) {v0 v1 v2 v3 v4 s0 s1 s2 s3 : Int} {σ : Mem} (h : f_X12_laysFits_b91 k7 k23 v0 v1 v2 v3 v4 s0 s1 s2 s3 σ = some o) : E sc (Fm Sh none Sh o) mt_X12_laysFits 5 Sh Sh 91 [(2, v0), (0, v1), (0, v2), (0, v3), (0, v4)] [(0, s0), (0, s1), (0, s2), (2, s3)] Sh σ := by
  unfold f_X12_laysFits_b91 at h
  refine E_icmp_ne (tgt := 98) d_X12_laysFits_91 (by decide) h (fun _ h => ?_) (fun _ h => ?_)
  · refine E_iconst d_X12_laysFits_94 (c32 rfl) ?_
    refine E_goto (tgt := 99) d_X12_laysFits_95 (by decide) ?_
    exact (L_X12_laysFits_b99 hk7 hk23 h)
  · exact (L_X12_laysFits_b98 hk7 hk23 h)
noncomputable def f_X12_laysFits_b125 (k7 : (Int → Int → Int → Int → Mem → Option (Mem))) (v0 v1 v2 v3 s0 s1 s2 : Int) (σ : Mem) : Option (Mem) :=
  (pf Sh σ 12 s2 28 (w32 (s1 + s0))).bind fun σ19 =>
  k7 v0 v1 v2 (w32 (v3 + 1)) σ19
theorem L_X12_laysFits_b125 {sc : Nat × (Nat → Int32)} {o : Mem} {k7 : (Int → Int → Int → Int → Mem → Option (Mem))} (hk7 : ∀ {v0 v1 v2 v3 : Int} {σ : Mem}, k7 v0 v1 v2 v3 σ = some o → E sc (Fm Sh none Sh o) mt_X12_laysFits 5 Sh Sh 7 [(2, v0), (0, v1), (0, v2), (0, v3), (9, 0)] [] Sh σ) {v0 v1 v2 v3 s0 s1 s2 : Int} {σ : Mem} (h : f_X12_laysFits_b125 k7 v0 v1 v2 v3 s0 s1 s2 σ = some o) : E sc (Fm Sh none Sh o) mt_X12_laysFits 5 Sh Sh 125 [(2, v0), (0, v1), (0, v2), (0, v3), (9, 0)] [(0, s0), (0, s1), (2, s2)] Sh σ := by
  unfold f_X12_laysFits_b125 at h
  refine E_iadd d_X12_laysFits_125 ?_
  refine E_put d_X12_laysFits_126 okX12 fl_X12_395 ⟨by decide, rfl⟩ (Or.inl ⟨rfl, rfl⟩) (Or.inl rfl) h (fun σ19 h => ?_)
  refine E_iinc d_X12_laysFits_129 (ls' := [(2, v0), (0, v1), (0, v2), (0, w32 (v3 + 1)), (9, 0)]) rfl ⟨by decide, rfl⟩ ?_
  refine E_goto (tgt := 7) d_X12_laysFits_132 (by decide) ?_
  exact (hk7 h)
noncomputable def f_X12_laysFits_b23 (k7 : (Int → Int → Int → Int → Mem → Option (Mem))) (k23 : (Int → Int → Int → Int → Int → Mem → Option (Mem))) (v0 v1 v2 v3 v4 : Int) (σ : Mem) : Option (Mem) :=
  if v2 ≤ v4 then
    (gf Sh σ 12 v0 28).bind fun x4 =>
    (gf Sh σ 12 v0 27).bind fun x5 =>
    (al Sh σ 23 x5 v3).bind fun x6 =>
    if x6 = 0 then
      f_X12_laysFits_b125 k7 v0 v1 v2 v3 0 x4 v0 σ
    else
      f_X12_laysFits_b125 k7 v0 v1 v2 v3 1 x4 v0 σ
  else
    (gf Sh σ 12 v0 27).bind fun x7 =>
    (gf Sh σ 12 v0 27).bind fun x8 =>
    (al Sh σ 23 x8 v3).bind fun x9 =>
    if x9 = 0 then
      f_X12_laysFits_b98 k7 k23 v0 v1 v2 v3 v4 v3 x7 σ
    else
      (f_X12_numberOf v0 v1 (w32 (3 * v4)) σ).bind fun r10 =>
      (f_X12_numberOf v0 v1 (w32 (w32 (3 * v4) + 1)) σ).bind fun r12 =>
      (f_X12_turns v0 v3 (w32 r10) (w32 r12) σ).bind fun r14 =>
      (f_X12_numberOf v0 v1 (w32 (w32 (3 * v4) + 2)) σ).bind fun r16 =>
      if lcmp r16 1 = 0 then
        f_X12_laysFits_b91 k7 k23 v0 v1 v2 v3 v4 1 r14 v3 x7 σ
      else
        f_X12_laysFits_b91 k7 k23 v0 v1 v2 v3 v4 0 r14 v3 x7 σ
theorem L_X12_laysFits_b23 {sc : Nat × (Nat → Int32)} {o : Mem} {k7 : (Int → Int → Int → Int → Mem → Option (Mem))} {k23 : (Int → Int → Int → Int → Int → Mem → Option (Mem))} (hk7 : ∀ {v0 v1 v2 v3 : Int} {σ : Mem}, k7 v0 v1 v2 v3 σ = some o → E sc (Fm Sh none Sh o) mt_X12_laysFits 5 Sh Sh 7 [(2, v0), (0, v1), (0, v2), (0, v3), (9, 0)] [] Sh σ) (hk23 : ∀ {v0 v1 v2 v3 v4 : Int} {σ : Mem}, k23 v0 v1 v2 v3 v4 σ = some o → E sc (Fm Sh none Sh o) mt_X12_laysFits 5 Sh Sh 23 [(2, v0), (0, v1), (0, v2), (0, v3), (0, v4)] [] Sh σ) {v0 v1 v2 v3 v4 : Int} {σ : Mem} (h : f_X12_laysFits_b23 k7 k23 v0 v1 v2 v3 v4 σ = some o) : E sc (Fm Sh none Sh o) mt_X12_laysFits 5 Sh Sh 23 [(2, v0), (0, v1), (0, v2), (0, v3), (0, v4)] [] Sh σ := by
  unfold f_X12_laysFits_b23 at h
  refine E_iload d_X12_laysFits_23 rfl ?_
  refine E_iload_n d_X12_laysFits_25 rfl ?_
  refine E_icmp_ge (tgt := 106) d_X12_laysFits_26 (by decide) h (fun _ h => ?_) (fun _ h => ?_)
  · refine E_aload_n d_X12_laysFits_106 rfl (by decide) ?_
    refine E_dupT d_X12_laysFits_107 (by decide) ?_
    refine E_get d_X12_laysFits_108 okX12 fl_X12_395 ⟨by decide, rfl⟩ h (fun x4 h => ?_)
    refine E_aload_n d_X12_laysFits_111 rfl (by decide) ?_
    refine E_get d_X12_laysFits_112 okX12 fl_X12_47 ⟨by decide, rfl⟩ h (fun x5 h => ?_)
    refine E_iload_n d_X12_laysFits_115 rfl ?_
    refine E_baload d_X12_laysFits_116 (by decide : 23 = 22 ∨ 23 = 23) h (fun x6 h => ?_)
    refine E_if_eq (tgt := 124) d_X12_laysFits_117 (by decide) h (fun _ h => ?_) (fun _ h => ?_)
    · refine E_iconst d_X12_laysFits_124 (c32 rfl) ?_
      exact E_weak (ls' := [(2, v0), (0, v1), (0, v2), (0, v3), (9, 0)]) ⟨Or.inr rfl, Or.inr rfl, Or.inr rfl, Or.inr rfl, Or.inl rfl, trivial⟩ (L_X12_laysFits_b125 hk7 h)
    · refine E_iconst d_X12_laysFits_120 (c32 rfl) ?_
      refine E_goto (tgt := 125) d_X12_laysFits_121 (by decide) ?_
      exact E_weak (ls' := [(2, v0), (0, v1), (0, v2), (0, v3), (9, 0)]) ⟨Or.inr rfl, Or.inr rfl, Or.inr rfl, Or.inr rfl, Or.inl rfl, trivial⟩ (L_X12_laysFits_b125 hk7 h)
  · refine E_aload_n d_X12_laysFits_29 rfl (by decide) ?_
    refine E_get d_X12_laysFits_30 okX12 fl_X12_47 ⟨by decide, rfl⟩ h (fun x7 h => ?_)
    refine E_iload_n d_X12_laysFits_33 rfl ?_
    refine E_aload_n d_X12_laysFits_34 rfl (by decide) ?_
    refine E_get d_X12_laysFits_35 okX12 fl_X12_47 ⟨by decide, rfl⟩ h (fun x8 h => ?_)
    refine E_iload_n d_X12_laysFits_38 rfl ?_
    refine E_baload d_X12_laysFits_39 (by decide : 23 = 22 ∨ 23 = 23) h (fun x9 h => ?_)
    refine E_if_eq (tgt := 98) d_X12_laysFits_40 (by decide) h (fun _ h => ?_) (fun _ h => ?_)
    · exact (L_X12_laysFits_b98 hk7 hk23 h)
    · refine E_aload_n d_X12_laysFits_43 rfl (by decide) ?_
      refine E_iload_n d_X12_laysFits_44 rfl ?_
      refine E_aload_n d_X12_laysFits_45 rfl (by decide) ?_
      refine E_iload_n d_X12_laysFits_46 rfl ?_
      refine E_iconst d_X12_laysFits_47 (c32 rfl) ?_
      refine E_iload d_X12_laysFits_48 rfl ?_
      refine E_imul d_X12_laysFits_50 ?_
      refine bd h (fun r10 q11 h => ?_)
      refine E_cV (as := [(0, v1), (0, w32 (3 * v4))]) (st := [(0, v3), (2, v0), (0, v3), (2, x7)]) (a := v0) d_X12_laysFits_51 mk_X12_numberOf nl_X12_391 (by omega) ⟨rfl, rfl, Nat.le_of_ble_eq_true rfl⟩ okX12 rfl (L_X12_numberOf q11) ?_
      refine E_l2i d_X12_laysFits_54 ?_
      refine E_aload_n d_X12_laysFits_55 rfl (by decide) ?_
      refine E_iload_n d_X12_laysFits_56 rfl ?_
      refine E_iconst d_X12_laysFits_57 (c32 rfl) ?_
      refine E_iload d_X12_laysFits_58 rfl ?_
      refine E_imul d_X12_laysFits_60 ?_
      refine E_iconst d_X12_laysFits_61 (c32 rfl) ?_
      refine E_iadd d_X12_laysFits_62 ?_
      refine bd h (fun r12 q13 h => ?_)
      refine E_cV (as := [(0, v1), (0, w32 (w32 (3 * v4) + 1))]) (st := [(0, w32 r10), (0, v3), (2, v0), (0, v3), (2, x7)]) (a := v0) d_X12_laysFits_63 mk_X12_numberOf nl_X12_391 (by omega) ⟨rfl, rfl, Nat.le_of_ble_eq_true rfl⟩ okX12 rfl (L_X12_numberOf q13) ?_
      refine E_l2i d_X12_laysFits_66 ?_
      refine bd h (fun r14 q15 h => ?_)
      refine E_cV (as := [(0, v3), (0, w32 r10), (0, w32 r12)]) (st := [(0, v3), (2, x7)]) (a := v0) d_X12_laysFits_67 mk_X12_turns nl_X12_398 (by omega) ⟨rfl, rfl, Nat.le_of_ble_eq_true rfl⟩ okX12 rfl (L_X12_turns q15) ?_
      refine E_aload_n d_X12_laysFits_70 rfl (by decide) ?_
      refine E_iload_n d_X12_laysFits_71 rfl ?_
      refine E_iconst d_X12_laysFits_72 (c32 rfl) ?_
      refine E_iload d_X12_laysFits_73 rfl ?_
      refine E_imul d_X12_laysFits_75 ?_
      refine E_iconst d_X12_laysFits_76 (c32 rfl) ?_
      refine E_iadd d_X12_laysFits_77 ?_
      refine bd h (fun r16 q17 h => ?_)
      refine E_cV (as := [(0, v1), (0, w32 (w32 (3 * v4) + 2))]) (st := [(0, r14), (0, v3), (2, x7)]) (a := v0) d_X12_laysFits_78 mk_X12_numberOf nl_X12_391 (by omega) ⟨rfl, rfl, Nat.le_of_ble_eq_true rfl⟩ okX12 rfl (L_X12_numberOf q17) ?_
      refine E_lconst d_X12_laysFits_81 cl1 ?_
      refine E_lcmp d_X12_laysFits_82 ?_
      refine E_if_ne (tgt := 90) d_X12_laysFits_83 (by decide) h (fun _ h => ?_) (fun _ h => ?_)
      · refine E_iconst d_X12_laysFits_86 (c32 rfl) ?_
        refine E_goto (tgt := 91) d_X12_laysFits_87 (by decide) ?_
        exact (L_X12_laysFits_b91 hk7 hk23 h)
      · refine E_iconst d_X12_laysFits_90 (c32 rfl) ?_
        exact (L_X12_laysFits_b91 hk7 hk23 h)
noncomputable def f_X12_laysFits_h23 (k7 : (Int → Int → Int → Int → Mem → Option (Mem))) (n : Nat) : Int → Int → Int → Int → Int → Mem → Option (Mem) := Nat.rec (motive := fun _ => Int → Int → Int → Int → Int → Mem → Option (Mem)) (fun _ _ _ _ _ _ => none) (fun _ ih => f_X12_laysFits_b23 k7 (ih)) n
theorem L_X12_laysFits_h23 {sc : Nat × (Nat → Int32)} {o : Mem} {k7 : (Int → Int → Int → Int → Mem → Option (Mem))} (hk7 : ∀ {v0 v1 v2 v3 : Int} {σ : Mem}, k7 v0 v1 v2 v3 σ = some o → E sc (Fm Sh none Sh o) mt_X12_laysFits 5 Sh Sh 7 [(2, v0), (0, v1), (0, v2), (0, v3), (9, 0)] [] Sh σ) : ∀ (n : Nat) {v0 v1 v2 v3 v4 : Int} {σ : Mem}, f_X12_laysFits_h23 k7 n v0 v1 v2 v3 v4 σ = some o → E sc (Fm Sh none Sh o) mt_X12_laysFits 5 Sh Sh 23 [(2, v0), (0, v1), (0, v2), (0, v3), (0, v4)] [] Sh σ := by
  intro n
  induction n with
  | zero => intro v0 v1 v2 v3 v4 σ h; cases h
  | succ n ih => intro v0 v1 v2 v3 v4 σ h; exact L_X12_laysFits_b23 hk7 (@ih) h
noncomputable def f_X12_laysFits_b7 (k7 : (Int → Int → Int → Int → Mem → Option (Mem))) (v0 v1 v2 v3 : Int) (σ : Mem) : Option (Mem) :=
  if 60 < v3 then
    some σ
  else
    (gf Sh σ 12 v0 27).bind fun x2 =>
    (st_ Sh σ 23 x2 v3 (b1 1)).bind fun σ3 =>
    f_X12_laysFits_h23 k7 FU v0 v1 v2 v3 0 σ3
theorem L_X12_laysFits_b7 {sc : Nat × (Nat → Int32)} {o : Mem} {k7 : (Int → Int → Int → Int → Mem → Option (Mem))} (hk7 : ∀ {v0 v1 v2 v3 : Int} {σ : Mem}, k7 v0 v1 v2 v3 σ = some o → E sc (Fm Sh none Sh o) mt_X12_laysFits 5 Sh Sh 7 [(2, v0), (0, v1), (0, v2), (0, v3), (9, 0)] [] Sh σ) {v0 v1 v2 v3 : Int} {σ : Mem} (h : f_X12_laysFits_b7 k7 v0 v1 v2 v3 σ = some o) : E sc (Fm Sh none Sh o) mt_X12_laysFits 5 Sh Sh 7 [(2, v0), (0, v1), (0, v2), (0, v3), (9, 0)] [] Sh σ := by
  unfold f_X12_laysFits_b7 at h
  refine E_iload_n d_X12_laysFits_7 rfl ?_
  refine E_bipush d_X12_laysFits_8 (c8 rfl) ?_
  refine E_icmp_gt (tgt := 135) d_X12_laysFits_10 (by decide) h (fun _ h => ?_) (fun _ h => ?_)
  · cases h
    exact E_vret d_X12_laysFits_135 rfl
  · refine E_aload_n d_X12_laysFits_13 rfl (by decide) ?_
    refine E_get d_X12_laysFits_14 okX12 fl_X12_47 ⟨by decide, rfl⟩ h (fun x2 h => ?_)
    refine E_iload_n d_X12_laysFits_17 rfl ?_
    refine E_iconst d_X12_laysFits_18 (c32 rfl) ?_
    refine E_zastore d_X12_laysFits_19 h (fun σ3 h => ?_)
    refine E_iconst d_X12_laysFits_20 (c32 rfl) ?_
    refine E_istore d_X12_laysFits_21 (ls' := [(2, v0), (0, v1), (0, v2), (0, v3), (0, 0)]) ⟨by decide, rfl⟩ ?_
    exact (L_X12_laysFits_h23 hk7 FU h)
noncomputable def f_X12_laysFits_h7 (n : Nat) : Int → Int → Int → Int → Mem → Option (Mem) := Nat.rec (motive := fun _ => Int → Int → Int → Int → Mem → Option (Mem)) (fun _ _ _ _ _ => none) (fun _ ih => f_X12_laysFits_b7 (ih)) n
theorem L_X12_laysFits_h7 {sc : Nat × (Nat → Int32)} {o : Mem} : ∀ (n : Nat) {v0 v1 v2 v3 : Int} {σ : Mem}, f_X12_laysFits_h7 n v0 v1 v2 v3 σ = some o → E sc (Fm Sh none Sh o) mt_X12_laysFits 5 Sh Sh 7 [(2, v0), (0, v1), (0, v2), (0, v3), (9, 0)] [] Sh σ := by
  intro n
  induction n with
  | zero => intro v0 v1 v2 v3 σ h; cases h
  | succ n ih => intro v0 v1 v2 v3 σ h; exact L_X12_laysFits_b7 (@ih) h
noncomputable def f_X12_laysFits_b0 (v0 v1 v2 : Int) (σ : Mem) : Option (Mem) :=
  (pf Sh σ 12 v0 28 0).bind fun σ1 =>
  f_X12_laysFits_h7 FU v0 v1 v2 0 σ1
theorem L_X12_laysFits_b0 {sc : Nat × (Nat → Int32)} {o : Mem} {v0 v1 v2 : Int} {σ : Mem} (h : f_X12_laysFits_b0 v0 v1 v2 σ = some o) : E sc (Fm Sh none Sh o) mt_X12_laysFits 5 Sh Sh 0 [(2, v0), (0, v1), (0, v2), (9, 0), (9, 0)] [] Sh σ := by
  unfold f_X12_laysFits_b0 at h
  refine E_aload_n d_X12_laysFits_0 rfl (by decide) ?_
  refine E_iconst d_X12_laysFits_1 (c32 rfl) ?_
  refine E_put d_X12_laysFits_2 okX12 fl_X12_395 ⟨by decide, rfl⟩ (Or.inl ⟨rfl, rfl⟩) (Or.inl rfl) h (fun σ1 h => ?_)
  refine E_iconst d_X12_laysFits_5 (c32 rfl) ?_
  refine E_istore_n d_X12_laysFits_6 (ls' := [(2, v0), (0, v1), (0, v2), (0, 0), (9, 0)]) ⟨by decide, rfl⟩ ?_
  exact (L_X12_laysFits_h7 FU h)
noncomputable def f_X12_laysFits (v0 v1 v2 : Int) (σ : Mem) : Option (Mem) := if isO Sh 12 v0 = true then f_X12_laysFits_b0 v0 v1 v2 σ else none
theorem L_X12_laysFits {o : Mem} {v0 v1 v2 : Int} {σ : Mem} (h : f_X12_laysFits v0 v1 v2 σ = some o) : (isO Sh 12 v0 = true ∧ Cn mt_X12_laysFits 5 [(2, v0), (0, v1), (0, v2)] Sh σ none Sh o) := ⟨(ite_ok h).1, Cn_of mk_X12_laysFits.1.2.2.1 (Nat.le_of_ble_eq_true rfl) (fun sc => L_X12_laysFits_b0 (ite_ok h).2)⟩
theorem d_X12_fits_0 : decode mt_X12_fits.2.1 0 = .ok (.aload_n 0, 1) := by decide +kernel
theorem d_X12_fits_1 : decode mt_X12_fits.2.1 1 = .ok (.iconst 0, 1) := by decide +kernel
theorem d_X12_fits_2 : decode mt_X12_fits.2.1 2 = .ok (.putfield 70, 3) := by decide +kernel
theorem d_X12_fits_5 : decode mt_X12_fits.2.1 5 = .ok (.aload_n 0, 1) := by decide +kernel
theorem d_X12_fits_6 : decode mt_X12_fits.2.1 6 = .ok (.aload_n 0, 1) := by decide +kernel
theorem d_X12_fits_7 : decode mt_X12_fits.2.1 7 = .ok (.iload_n 1, 1) := by decide +kernel
theorem d_X12_fits_8 : decode mt_X12_fits.2.1 8 = .ok (.iload_n 2, 1) := by decide +kernel
theorem d_X12_fits_9 : decode mt_X12_fits.2.1 9 = .ok (.invokevirtual 402, 3) := by decide +kernel
theorem d_X12_fits_12 : decode mt_X12_fits.2.1 12 = .ok (.putfield 73, 3) := by decide +kernel
theorem d_X12_fits_15 : decode mt_X12_fits.2.1 15 = .ok (.aload_n 0, 1) := by decide +kernel
theorem d_X12_fits_16 : decode mt_X12_fits.2.1 16 = .ok (.getfield 73, 3) := by decide +kernel
theorem d_X12_fits_19 : decode mt_X12_fits.2.1 19 = .ok (.ifCond .le 5, 3) := by decide +kernel
theorem d_X12_fits_22 : decode mt_X12_fits.2.1 22 = .ok (.iconst (-1), 1) := by decide +kernel
theorem d_X12_fits_23 : decode mt_X12_fits.2.1 23 = .ok (.ireturn, 1) := by decide +kernel
theorem d_X12_fits_24 : decode mt_X12_fits.2.1 24 = .ok (.aload_n 0, 1) := by decide +kernel
theorem d_X12_fits_25 : decode mt_X12_fits.2.1 25 = .ok (.iload_n 1, 1) := by decide +kernel
theorem d_X12_fits_26 : decode mt_X12_fits.2.1 26 = .ok (.iload_n 2, 1) := by decide +kernel
theorem d_X12_fits_27 : decode mt_X12_fits.2.1 27 = .ok (.invokevirtual 405, 3) := by decide +kernel
theorem d_X12_fits_30 : decode mt_X12_fits.2.1 30 = .ok (.aload_n 0, 1) := by decide +kernel
theorem d_X12_fits_31 : decode mt_X12_fits.2.1 31 = .ok (.getfield 395, 3) := by decide +kernel
theorem d_X12_fits_34 : decode mt_X12_fits.2.1 34 = .ok (.ireturn, 1) := by decide +kernel
noncomputable def f_X12_fits_b0 (v0 v1 v2 : Int) (σ : Mem) : Option (Int × Mem) :=
  (pf Sh σ 12 v0 1 0).bind fun σ1 =>
  (f_X12_whyNoFits v0 v1 v2 σ1).bind fun r2 =>
  (pf Sh σ1 12 v0 0 r2).bind fun σ4 =>
  (gf Sh σ4 12 v0 0).bind fun x5 =>
  if x5 ≤ 0 then
    (f_X12_laysFits v0 v1 v2 σ4).bind fun r6 =>
    (gf Sh r6 12 v0 28).bind fun x8 =>
    some (x8, r6)
  else
    some ((-1), σ4)
theorem L_X12_fits_b0 {sc : Nat × (Nat → Int32)} {o : Int × Mem} {v0 v1 v2 : Int} {σ : Mem} (h : f_X12_fits_b0 v0 v1 v2 σ = some o) : E sc (Fm Sh (some (0, o.1)) Sh o.2) mt_X12_fits 6 Sh Sh 0 [(2, v0), (0, v1), (0, v2)] [] Sh σ := by
  unfold f_X12_fits_b0 at h
  refine E_aload_n d_X12_fits_0 rfl (by decide) ?_
  refine E_iconst d_X12_fits_1 (c32 rfl) ?_
  refine E_put d_X12_fits_2 okX12 fl_X12_70 ⟨by decide, rfl⟩ (Or.inl ⟨rfl, rfl⟩) (Or.inl rfl) h (fun σ1 h => ?_)
  refine E_aload_n d_X12_fits_5 rfl (by decide) ?_
  refine E_aload_n d_X12_fits_6 rfl (by decide) ?_
  refine E_iload_n d_X12_fits_7 rfl ?_
  refine E_iload_n d_X12_fits_8 rfl ?_
  refine bd h (fun r2 q3 h => ?_)
  refine E_cV (as := [(0, v1), (0, v2)]) (st := [(2, v0)]) (a := v0) d_X12_fits_9 mk_X12_whyNoFits nl_X12_402 (by omega) ⟨rfl, rfl, Nat.le_of_ble_eq_true rfl⟩ okX12 rfl (L_X12_whyNoFits q3) ?_
  refine E_put d_X12_fits_12 okX12 fl_X12_73 ⟨by decide, rfl⟩ (Or.inl ⟨rfl, rfl⟩) (Or.inl rfl) h (fun σ4 h => ?_)
  refine E_aload_n d_X12_fits_15 rfl (by decide) ?_
  refine E_get d_X12_fits_16 okX12 fl_X12_73 ⟨by decide, rfl⟩ h (fun x5 h => ?_)
  refine E_if_le (tgt := 24) d_X12_fits_19 (by decide) h (fun _ h => ?_) (fun _ h => ?_)
  · refine E_aload_n d_X12_fits_24 rfl (by decide) ?_
    refine E_iload_n d_X12_fits_25 rfl ?_
    refine E_iload_n d_X12_fits_26 rfl ?_
    refine bd h (fun r6 q7 h => ?_)
    refine E_cVv (as := [(0, v1), (0, v2)]) (st := []) (a := v0) d_X12_fits_27 mk_X12_laysFits nl_X12_405 (by omega) ⟨rfl, rfl, Nat.le_of_ble_eq_true rfl⟩ okX12 rfl (L_X12_laysFits q7) ?_
    refine E_aload_n d_X12_fits_30 rfl (by decide) ?_
    refine E_get d_X12_fits_31 okX12 fl_X12_395 ⟨by decide, rfl⟩ h (fun x8 h => ?_)
    cases h
    exact E_iret d_X12_fits_34 rfl
  · refine E_iconst d_X12_fits_22 (c32 rfl) ?_
    cases h
    exact E_iret d_X12_fits_23 rfl
noncomputable def f_X12_fits (v0 v1 v2 : Int) (σ : Mem) : Option (Int × Mem) := if isO Sh 12 v0 = true then f_X12_fits_b0 v0 v1 v2 σ else none
theorem L_X12_fits {o : Int × Mem} {v0 v1 v2 : Int} {σ : Mem} (h : f_X12_fits v0 v1 v2 σ = some o) : (isO Sh 12 v0 = true ∧ Cn mt_X12_fits 6 [(2, v0), (0, v1), (0, v2)] Sh σ (some (0, o.1)) Sh o.2) := ⟨(ite_ok h).1, Cn_of mk_X12_fits.1.2.2.1 (Nat.le_of_ble_eq_true rfl) (fun sc => L_X12_fits_b0 (ite_ok h).2)⟩
