theorem d_X12_empties_0 : decode mt_X12_empties.2.1 0 = .ok (.iconst 0, 1) := by decide +kernel
theorem d_X12_empties_1 : decode mt_X12_empties.2.1 1 = .ok (.istore_n 2, 1) := by decide +kernel
theorem d_X12_empties_2 : decode mt_X12_empties.2.1 2 = .ok (.iload_n 2, 1) := by decide +kernel
theorem d_X12_empties_3 : decode mt_X12_empties.2.1 3 = .ok (.sipush 327, 3) := by decide +kernel
theorem d_X12_empties_6 : decode mt_X12_empties.2.1 6 = .ok (.if_icmp .ge 22, 3) := by decide +kernel
theorem d_X12_empties_9 : decode mt_X12_empties.2.1 9 = .ok (.aload_n 0, 1) := by decide +kernel
theorem d_X12_empties_10 : decode mt_X12_empties.2.1 10 = .ok (.getfield 35, 3) := by decide +kernel
theorem d_X12_empties_13 : decode mt_X12_empties.2.1 13 = .ok (.sipush 327, 3) := by decide +kernel
theorem d_X12_empties_16 : decode mt_X12_empties.2.1 16 = .ok (.iload_n 1, 1) := by decide +kernel
theorem d_X12_empties_17 : decode mt_X12_empties.2.1 17 = .ok (.imul, 1) := by decide +kernel
theorem d_X12_empties_18 : decode mt_X12_empties.2.1 18 = .ok (.iload_n 2, 1) := by decide +kernel
theorem d_X12_empties_19 : decode mt_X12_empties.2.1 19 = .ok (.iadd, 1) := by decide +kernel
theorem d_X12_empties_20 : decode mt_X12_empties.2.1 20 = .ok (.iconst 0, 1) := by decide +kernel
theorem d_X12_empties_21 : decode mt_X12_empties.2.1 21 = .ok (.iastore, 1) := by decide +kernel
theorem d_X12_empties_22 : decode mt_X12_empties.2.1 22 = .ok (.iinc 2 1, 3) := by decide +kernel
theorem d_X12_empties_25 : decode mt_X12_empties.2.1 25 = .ok (.goto (-23), 3) := by decide +kernel
theorem d_X12_empties_28 : decode mt_X12_empties.2.1 28 = .ok (.iconst 0, 1) := by decide +kernel
theorem d_X12_empties_29 : decode mt_X12_empties.2.1 29 = .ok (.istore_n 2, 1) := by decide +kernel
theorem d_X12_empties_30 : decode mt_X12_empties.2.1 30 = .ok (.iload_n 2, 1) := by decide +kernel
theorem d_X12_empties_31 : decode mt_X12_empties.2.1 31 = .ok (.bipush 14, 2) := by decide +kernel
theorem d_X12_empties_33 : decode mt_X12_empties.2.1 33 = .ok (.if_icmp .ge 21, 3) := by decide +kernel
theorem d_X12_empties_36 : decode mt_X12_empties.2.1 36 = .ok (.aload_n 0, 1) := by decide +kernel
theorem d_X12_empties_37 : decode mt_X12_empties.2.1 37 = .ok (.getfield 41, 3) := by decide +kernel
theorem d_X12_empties_40 : decode mt_X12_empties.2.1 40 = .ok (.bipush 14, 2) := by decide +kernel
theorem d_X12_empties_42 : decode mt_X12_empties.2.1 42 = .ok (.iload_n 1, 1) := by decide +kernel
theorem d_X12_empties_43 : decode mt_X12_empties.2.1 43 = .ok (.imul, 1) := by decide +kernel
theorem d_X12_empties_44 : decode mt_X12_empties.2.1 44 = .ok (.iload_n 2, 1) := by decide +kernel
theorem d_X12_empties_45 : decode mt_X12_empties.2.1 45 = .ok (.iadd, 1) := by decide +kernel
theorem d_X12_empties_46 : decode mt_X12_empties.2.1 46 = .ok (.lconst 0, 1) := by decide +kernel
theorem d_X12_empties_47 : decode mt_X12_empties.2.1 47 = .ok (.lastore, 1) := by decide +kernel
theorem d_X12_empties_48 : decode mt_X12_empties.2.1 48 = .ok (.iinc 2 1, 3) := by decide +kernel
theorem d_X12_empties_51 : decode mt_X12_empties.2.1 51 = .ok (.goto (-21), 3) := by decide +kernel
theorem d_X12_empties_54 : decode mt_X12_empties.2.1 54 = .ok (.aload_n 0, 1) := by decide +kernel
theorem d_X12_empties_55 : decode mt_X12_empties.2.1 55 = .ok (.getfield 35, 3) := by decide +kernel
theorem d_X12_empties_58 : decode mt_X12_empties.2.1 58 = .ok (.sipush 327, 3) := by decide +kernel
theorem d_X12_empties_61 : decode mt_X12_empties.2.1 61 = .ok (.iload_n 1, 1) := by decide +kernel
theorem d_X12_empties_62 : decode mt_X12_empties.2.1 62 = .ok (.imul, 1) := by decide +kernel
theorem d_X12_empties_63 : decode mt_X12_empties.2.1 63 = .ok (.iconst 2, 1) := by decide +kernel
theorem d_X12_empties_64 : decode mt_X12_empties.2.1 64 = .ok (.iadd, 1) := by decide +kernel
theorem d_X12_empties_65 : decode mt_X12_empties.2.1 65 = .ok (.bipush 8, 2) := by decide +kernel
theorem d_X12_empties_67 : decode mt_X12_empties.2.1 67 = .ok (.iastore, 1) := by decide +kernel
theorem d_X12_empties_68 : decode mt_X12_empties.2.1 68 = .ok (.return_, 1) := by decide +kernel
noncomputable def f_X12_empties_b30 (k30 : (Int → Int → Int → Mem → Option (Mem))) (v0 v1 v2 : Int) (σ : Mem) : Option (Mem) :=
  if 14 ≤ v2 then
    (gf Sh σ 12 v0 20).bind fun x3 =>
    (st_ Sh σ 20 x3 (w32 (w32 (327 * v1) + 2)) 8).bind fun σ4 =>
    some σ4
  else
    (gf Sh σ 12 v0 22).bind fun x5 =>
    (st_ Sh σ 21 x5 (w32 (w32 (14 * v1) + v2)) 0).bind fun σ6 =>
    k30 v0 v1 (w32 (v2 + 1)) σ6
theorem L_X12_empties_b30 {sc : Nat × (Nat → Int32)} {o : Mem} {k30 : (Int → Int → Int → Mem → Option (Mem))} (hk30 : ∀ {v0 v1 v2 : Int} {σ : Mem}, k30 v0 v1 v2 σ = some o → E sc (Fm Sh none Sh o) mt_X12_empties 1 Sh Sh 30 [(2, v0), (0, v1), (0, v2)] [] Sh σ) {v0 v1 v2 : Int} {σ : Mem} (h : f_X12_empties_b30 k30 v0 v1 v2 σ = some o) : E sc (Fm Sh none Sh o) mt_X12_empties 1 Sh Sh 30 [(2, v0), (0, v1), (0, v2)] [] Sh σ := by
  unfold f_X12_empties_b30 at h
  refine E_iload_n d_X12_empties_30 rfl ?_
  refine E_bipush d_X12_empties_31 (c8 rfl) ?_
  refine E_icmp_ge (tgt := 54) d_X12_empties_33 (by decide) h (fun _ h => ?_) (fun _ h => ?_)
  · refine E_aload_n d_X12_empties_54 rfl (by decide) ?_
    refine E_get d_X12_empties_55 okX12 fl_X12_35 ⟨by decide, rfl⟩ h (fun x3 h => ?_)
    refine E_sipush d_X12_empties_58 (c16 rfl) ?_
    refine E_iload_n d_X12_empties_61 rfl ?_
    refine E_imul d_X12_empties_62 ?_
    refine E_iconst d_X12_empties_63 (c32 rfl) ?_
    refine E_iadd d_X12_empties_64 ?_
    refine E_bipush d_X12_empties_65 (c8 rfl) ?_
    refine E_iastore d_X12_empties_67 h (fun σ4 h => ?_)
    cases h
    exact E_vret d_X12_empties_68 rfl
  · refine E_aload_n d_X12_empties_36 rfl (by decide) ?_
    refine E_get d_X12_empties_37 okX12 fl_X12_41 ⟨by decide, rfl⟩ h (fun x5 h => ?_)
    refine E_bipush d_X12_empties_40 (c8 rfl) ?_
    refine E_iload_n d_X12_empties_42 rfl ?_
    refine E_imul d_X12_empties_43 ?_
    refine E_iload_n d_X12_empties_44 rfl ?_
    refine E_iadd d_X12_empties_45 ?_
    refine E_lconst d_X12_empties_46 cl0 ?_
    refine E_lastore d_X12_empties_47 h (fun σ6 h => ?_)
    refine E_iinc d_X12_empties_48 (ls' := [(2, v0), (0, v1), (0, w32 (v2 + 1))]) rfl ⟨by decide, rfl⟩ ?_
    refine E_goto (tgt := 30) d_X12_empties_51 (by decide) ?_
    exact (hk30 h)
noncomputable def f_X12_empties_h30 (n : Nat) : Int → Int → Int → Mem → Option (Mem) := Nat.rec (motive := fun _ => Int → Int → Int → Mem → Option (Mem)) (fun _ _ _ _ => none) (fun _ ih => f_X12_empties_b30 (ih)) n
theorem L_X12_empties_h30 {sc : Nat × (Nat → Int32)} {o : Mem} : ∀ (n : Nat) {v0 v1 v2 : Int} {σ : Mem}, f_X12_empties_h30 n v0 v1 v2 σ = some o → E sc (Fm Sh none Sh o) mt_X12_empties 1 Sh Sh 30 [(2, v0), (0, v1), (0, v2)] [] Sh σ := by
  intro n
  induction n with
  | zero => intro v0 v1 v2 σ h; cases h
  | succ n ih => intro v0 v1 v2 σ h; exact L_X12_empties_b30 (@ih) h
noncomputable def f_X12_empties_b2 (k2 : (Int → Int → Int → Mem → Option (Mem))) (v0 v1 v2 : Int) (σ : Mem) : Option (Mem) :=
  if 327 ≤ v2 then
    f_X12_empties_h30 FU v0 v1 0 σ
  else
    (gf Sh σ 12 v0 20).bind fun x1 =>
    (st_ Sh σ 20 x1 (w32 (w32 (327 * v1) + v2)) 0).bind fun σ2 =>
    k2 v0 v1 (w32 (v2 + 1)) σ2
theorem L_X12_empties_b2 {sc : Nat × (Nat → Int32)} {o : Mem} {k2 : (Int → Int → Int → Mem → Option (Mem))} (hk2 : ∀ {v0 v1 v2 : Int} {σ : Mem}, k2 v0 v1 v2 σ = some o → E sc (Fm Sh none Sh o) mt_X12_empties 1 Sh Sh 2 [(2, v0), (0, v1), (0, v2)] [] Sh σ) {v0 v1 v2 : Int} {σ : Mem} (h : f_X12_empties_b2 k2 v0 v1 v2 σ = some o) : E sc (Fm Sh none Sh o) mt_X12_empties 1 Sh Sh 2 [(2, v0), (0, v1), (0, v2)] [] Sh σ := by
  unfold f_X12_empties_b2 at h
  refine E_iload_n d_X12_empties_2 rfl ?_
  refine E_sipush d_X12_empties_3 (c16 rfl) ?_
  refine E_icmp_ge (tgt := 28) d_X12_empties_6 (by decide) h (fun _ h => ?_) (fun _ h => ?_)
  · refine E_iconst d_X12_empties_28 (c32 rfl) ?_
    refine E_istore_n d_X12_empties_29 (ls' := [(2, v0), (0, v1), (0, 0)]) ⟨by decide, rfl⟩ ?_
    exact (L_X12_empties_h30 FU h)
  · refine E_aload_n d_X12_empties_9 rfl (by decide) ?_
    refine E_get d_X12_empties_10 okX12 fl_X12_35 ⟨by decide, rfl⟩ h (fun x1 h => ?_)
    refine E_sipush d_X12_empties_13 (c16 rfl) ?_
    refine E_iload_n d_X12_empties_16 rfl ?_
    refine E_imul d_X12_empties_17 ?_
    refine E_iload_n d_X12_empties_18 rfl ?_
    refine E_iadd d_X12_empties_19 ?_
    refine E_iconst d_X12_empties_20 (c32 rfl) ?_
    refine E_iastore d_X12_empties_21 h (fun σ2 h => ?_)
    refine E_iinc d_X12_empties_22 (ls' := [(2, v0), (0, v1), (0, w32 (v2 + 1))]) rfl ⟨by decide, rfl⟩ ?_
    refine E_goto (tgt := 2) d_X12_empties_25 (by decide) ?_
    exact (hk2 h)
noncomputable def f_X12_empties_h2 (n : Nat) : Int → Int → Int → Mem → Option (Mem) := Nat.rec (motive := fun _ => Int → Int → Int → Mem → Option (Mem)) (fun _ _ _ _ => none) (fun _ ih => f_X12_empties_b2 (ih)) n
theorem L_X12_empties_h2 {sc : Nat × (Nat → Int32)} {o : Mem} : ∀ (n : Nat) {v0 v1 v2 : Int} {σ : Mem}, f_X12_empties_h2 n v0 v1 v2 σ = some o → E sc (Fm Sh none Sh o) mt_X12_empties 1 Sh Sh 2 [(2, v0), (0, v1), (0, v2)] [] Sh σ := by
  intro n
  induction n with
  | zero => intro v0 v1 v2 σ h; cases h
  | succ n ih => intro v0 v1 v2 σ h; exact L_X12_empties_b2 (@ih) h
noncomputable def f_X12_empties_b0 (v0 v1 : Int) (σ : Mem) : Option (Mem) :=
  f_X12_empties_h2 FU v0 v1 0 σ
theorem L_X12_empties_b0 {sc : Nat × (Nat → Int32)} {o : Mem} {v0 v1 : Int} {σ : Mem} (h : f_X12_empties_b0 v0 v1 σ = some o) : E sc (Fm Sh none Sh o) mt_X12_empties 1 Sh Sh 0 [(2, v0), (0, v1), (9, 0)] [] Sh σ := by
  unfold f_X12_empties_b0 at h
  refine E_iconst d_X12_empties_0 (c32 rfl) ?_
  refine E_istore_n d_X12_empties_1 (ls' := [(2, v0), (0, v1), (0, 0)]) ⟨by decide, rfl⟩ ?_
  exact (L_X12_empties_h2 FU h)
noncomputable def f_X12_empties (v0 v1 : Int) (σ : Mem) : Option (Mem) := if isO Sh 12 v0 = true then f_X12_empties_b0 v0 v1 σ else none
theorem L_X12_empties {o : Mem} {v0 v1 : Int} {σ : Mem} (h : f_X12_empties v0 v1 σ = some o) : (isO Sh 12 v0 = true ∧ Cn mt_X12_empties 1 [(2, v0), (0, v1)] Sh σ none Sh o) := ⟨(ite_ok h).1, Cn_of mk_X12_empties.1.2.2.1 (Nat.le_of_ble_eq_true rfl) (fun sc => L_X12_empties_b0 (ite_ok h).2)⟩
theorem d_X12_status_0 : decode mt_X12_status.2.1 0 = .ok (.aload_n 0, 1) := by decide +kernel
theorem d_X12_status_1 : decode mt_X12_status.2.1 1 = .ok (.iconst 0, 1) := by decide +kernel
theorem d_X12_status_2 : decode mt_X12_status.2.1 2 = .ok (.putfield 70, 3) := by decide +kernel
theorem d_X12_status_5 : decode mt_X12_status.2.1 5 = .ok (.aload_n 0, 1) := by decide +kernel
theorem d_X12_status_6 : decode mt_X12_status.2.1 6 = .ok (.getfield 73, 3) := by decide +kernel
theorem d_X12_status_9 : decode mt_X12_status.2.1 9 = .ok (.ireturn, 1) := by decide +kernel
noncomputable def f_X12_status_b0 (v0 : Int) (σ : Mem) : Option (Int × Mem) :=
  (pf Sh σ 12 v0 1 0).bind fun σ1 =>
  (gf Sh σ1 12 v0 0).bind fun x2 =>
  some (x2, σ1)
theorem L_X12_status_b0 {sc : Nat × (Nat → Int32)} {o : Int × Mem} {v0 : Int} {σ : Mem} (h : f_X12_status_b0 v0 σ = some o) : E sc (Fm Sh (some (0, o.1)) Sh o.2) mt_X12_status 1 Sh Sh 0 [(2, v0)] [] Sh σ := by
  unfold f_X12_status_b0 at h
  refine E_aload_n d_X12_status_0 rfl (by decide) ?_
  refine E_iconst d_X12_status_1 (c32 rfl) ?_
  refine E_put d_X12_status_2 okX12 fl_X12_70 ⟨by decide, rfl⟩ (Or.inl ⟨rfl, rfl⟩) (Or.inl rfl) h (fun σ1 h => ?_)
  refine E_aload_n d_X12_status_5 rfl (by decide) ?_
  refine E_get d_X12_status_6 okX12 fl_X12_73 ⟨by decide, rfl⟩ h (fun x2 h => ?_)
  cases h
  exact E_iret d_X12_status_9 rfl
noncomputable def f_X12_status (v0 : Int) (σ : Mem) : Option (Int × Mem) := if isO Sh 12 v0 = true then f_X12_status_b0 v0 σ else none
theorem L_X12_status {o : Int × Mem} {v0 : Int} {σ : Mem} (h : f_X12_status v0 σ = some o) : (isO Sh 12 v0 = true ∧ Cn mt_X12_status 1 [(2, v0)] Sh σ (some (0, o.1)) Sh o.2) := ⟨(ite_ok h).1, Cn_of mk_X12_status.1.2.2.1 (Nat.le_of_ble_eq_true rfl) (fun sc => L_X12_status_b0 (ite_ok h).2)⟩
theorem d_X12_top_0 : decode mt_X12_top.2.1 0 = .ok (.aload_n 0, 1) := by decide +kernel
theorem d_X12_top_1 : decode mt_X12_top.2.1 1 = .ok (.iconst 0, 1) := by decide +kernel
theorem d_X12_top_2 : decode mt_X12_top.2.1 2 = .ok (.putfield 70, 3) := by decide +kernel
theorem d_X12_top_5 : decode mt_X12_top.2.1 5 = .ok (.aload_n 0, 1) := by decide +kernel
theorem d_X12_top_6 : decode mt_X12_top.2.1 6 = .ok (.getfield 76, 3) := by decide +kernel
theorem d_X12_top_9 : decode mt_X12_top.2.1 9 = .ok (.lreturn, 1) := by decide +kernel
noncomputable def f_X12_top_b0 (v0 : Int) (σ : Mem) : Option (Int × Mem) :=
  (pf Sh σ 12 v0 1 0).bind fun σ1 =>
  (gf Sh σ1 12 v0 2).bind fun x2 =>
  some (x2, σ1)
theorem L_X12_top_b0 {sc : Nat × (Nat → Int32)} {o : Int × Mem} {v0 : Int} {σ : Mem} (h : f_X12_top_b0 v0 σ = some o) : E sc (Fm Sh (some (1, o.1)) Sh o.2) mt_X12_top 1 Sh Sh 0 [(2, v0)] [] Sh σ := by
  unfold f_X12_top_b0 at h
  refine E_aload_n d_X12_top_0 rfl (by decide) ?_
  refine E_iconst d_X12_top_1 (c32 rfl) ?_
  refine E_put d_X12_top_2 okX12 fl_X12_70 ⟨by decide, rfl⟩ (Or.inl ⟨rfl, rfl⟩) (Or.inl rfl) h (fun σ1 h => ?_)
  refine E_aload_n d_X12_top_5 rfl (by decide) ?_
  refine E_get d_X12_top_6 okX12 fl_X12_76 ⟨by decide, rfl⟩ h (fun x2 h => ?_)
  cases h
  exact E_lret d_X12_top_9 rfl
noncomputable def f_X12_top (v0 : Int) (σ : Mem) : Option (Int × Mem) := if isO Sh 12 v0 = true then f_X12_top_b0 v0 σ else none
theorem L_X12_top {o : Int × Mem} {v0 : Int} {σ : Mem} (h : f_X12_top v0 σ = some o) : (isO Sh 12 v0 = true ∧ Cn mt_X12_top 1 [(2, v0)] Sh σ (some (1, o.1)) Sh o.2) := ⟨(ite_ok h).1, Cn_of mk_X12_top.1.2.2.1 (Nat.le_of_ble_eq_true rfl) (fun sc => L_X12_top_b0 (ite_ok h).2)⟩
theorem d_X12_bottom_0 : decode mt_X12_bottom.2.1 0 = .ok (.aload_n 0, 1) := by decide +kernel
theorem d_X12_bottom_1 : decode mt_X12_bottom.2.1 1 = .ok (.iconst 0, 1) := by decide +kernel
theorem d_X12_bottom_2 : decode mt_X12_bottom.2.1 2 = .ok (.putfield 70, 3) := by decide +kernel
theorem d_X12_bottom_5 : decode mt_X12_bottom.2.1 5 = .ok (.aload_n 0, 1) := by decide +kernel
theorem d_X12_bottom_6 : decode mt_X12_bottom.2.1 6 = .ok (.getfield 7, 3) := by decide +kernel
theorem d_X12_bottom_9 : decode mt_X12_bottom.2.1 9 = .ok (.lreturn, 1) := by decide +kernel
noncomputable def f_X12_bottom_b0 (v0 : Int) (σ : Mem) : Option (Int × Mem) :=
  (pf Sh σ 12 v0 1 0).bind fun σ1 =>
  (gf Sh σ1 12 v0 3).bind fun x2 =>
  some (x2, σ1)
theorem L_X12_bottom_b0 {sc : Nat × (Nat → Int32)} {o : Int × Mem} {v0 : Int} {σ : Mem} (h : f_X12_bottom_b0 v0 σ = some o) : E sc (Fm Sh (some (1, o.1)) Sh o.2) mt_X12_bottom 1 Sh Sh 0 [(2, v0)] [] Sh σ := by
  unfold f_X12_bottom_b0 at h
  refine E_aload_n d_X12_bottom_0 rfl (by decide) ?_
  refine E_iconst d_X12_bottom_1 (c32 rfl) ?_
  refine E_put d_X12_bottom_2 okX12 fl_X12_70 ⟨by decide, rfl⟩ (Or.inl ⟨rfl, rfl⟩) (Or.inl rfl) h (fun σ1 h => ?_)
  refine E_aload_n d_X12_bottom_5 rfl (by decide) ?_
  refine E_get d_X12_bottom_6 okX12 fl_X12_7 ⟨by decide, rfl⟩ h (fun x2 h => ?_)
  cases h
  exact E_lret d_X12_bottom_9 rfl
noncomputable def f_X12_bottom (v0 : Int) (σ : Mem) : Option (Int × Mem) := if isO Sh 12 v0 = true then f_X12_bottom_b0 v0 σ else none
theorem L_X12_bottom {o : Int × Mem} {v0 : Int} {σ : Mem} (h : f_X12_bottom v0 σ = some o) : (isO Sh 12 v0 = true ∧ Cn mt_X12_bottom 1 [(2, v0)] Sh σ (some (1, o.1)) Sh o.2) := ⟨(ite_ok h).1, Cn_of mk_X12_bottom.1.2.2.1 (Nat.le_of_ble_eq_true rfl) (fun sc => L_X12_bottom_b0 (ite_ok h).2)⟩
theorem d_X12_no_0 : decode mt_X12_no.2.1 0 = .ok (.aload_n 0, 1) := by decide +kernel
theorem d_X12_no_1 : decode mt_X12_no.2.1 1 = .ok (.iload_n 1, 1) := by decide +kernel
theorem d_X12_no_2 : decode mt_X12_no.2.1 2 = .ok (.putfield 73, 3) := by decide +kernel
theorem d_X12_no_5 : decode mt_X12_no.2.1 5 = .ok (.iconst 0, 1) := by decide +kernel
theorem d_X12_no_6 : decode mt_X12_no.2.1 6 = .ok (.ireturn, 1) := by decide +kernel
noncomputable def f_X12_no_b0 (v0 v1 : Int) (σ : Mem) : Option (Int × Mem) :=
  (pf Sh σ 12 v0 0 v1).bind fun σ1 =>
  some (0, σ1)
theorem L_X12_no_b0 {sc : Nat × (Nat → Int32)} {o : Int × Mem} {v0 v1 : Int} {σ : Mem} (h : f_X12_no_b0 v0 v1 σ = some o) : E sc (Fm Sh (some (0, o.1)) Sh o.2) mt_X12_no 1 Sh Sh 0 [(2, v0), (0, v1)] [] Sh σ := by
  unfold f_X12_no_b0 at h
  refine E_aload_n d_X12_no_0 rfl (by decide) ?_
  refine E_iload_n d_X12_no_1 rfl ?_
  refine E_put d_X12_no_2 okX12 fl_X12_73 ⟨by decide, rfl⟩ (Or.inl ⟨rfl, rfl⟩) (Or.inl rfl) h (fun σ1 h => ?_)
  refine E_iconst d_X12_no_5 (c32 rfl) ?_
  cases h
  exact E_zret d_X12_no_6 rfl (Or.inl rfl)
noncomputable def f_X12_no (v0 v1 : Int) (σ : Mem) : Option (Int × Mem) := if isO Sh 12 v0 = true then f_X12_no_b0 v0 v1 σ else none
theorem L_X12_no {o : Int × Mem} {v0 v1 : Int} {σ : Mem} (h : f_X12_no v0 v1 σ = some o) : (isO Sh 12 v0 = true ∧ Cn mt_X12_no 1 [(2, v0), (0, v1)] Sh σ (some (0, o.1)) Sh o.2) := ⟨(ite_ok h).1, Cn_of mk_X12_no.1.2.2.1 (Nat.le_of_ble_eq_true rfl) (fun sc => L_X12_no_b0 (ite_ok h).2)⟩
theorem d_X12_tray_0 : decode mt_X12_tray.2.1 0 = .ok (.aload_n 0, 1) := by decide +kernel
theorem d_X12_tray_1 : decode mt_X12_tray.2.1 1 = .ok (.iconst 0, 1) := by decide +kernel
theorem d_X12_tray_2 : decode mt_X12_tray.2.1 2 = .ok (.putfield 70, 3) := by decide +kernel
theorem d_X12_tray_5 : decode mt_X12_tray.2.1 5 = .ok (.aload_n 0, 1) := by decide +kernel
theorem d_X12_tray_6 : decode mt_X12_tray.2.1 6 = .ok (.iconst 0, 1) := by decide +kernel
theorem d_X12_tray_7 : decode mt_X12_tray.2.1 7 = .ok (.putfield 73, 3) := by decide +kernel
theorem d_X12_tray_10 : decode mt_X12_tray.2.1 10 = .ok (.iload_n 1, 1) := by decide +kernel
theorem d_X12_tray_11 : decode mt_X12_tray.2.1 11 = .ok (.ifCond .lt 17, 3) := by decide +kernel
theorem d_X12_tray_14 : decode mt_X12_tray.2.1 14 = .ok (.iload_n 1, 1) := by decide +kernel
theorem d_X12_tray_15 : decode mt_X12_tray.2.1 15 = .ok (.iconst 4, 1) := by decide +kernel
theorem d_X12_tray_16 : decode mt_X12_tray.2.1 16 = .ok (.if_icmp .ge 12, 3) := by decide +kernel
theorem d_X12_tray_19 : decode mt_X12_tray.2.1 19 = .ok (.iload_n 2, 1) := by decide +kernel
theorem d_X12_tray_20 : decode mt_X12_tray.2.1 20 = .ok (.ifCond .lt 8, 3) := by decide +kernel
theorem d_X12_tray_23 : decode mt_X12_tray.2.1 23 = .ok (.iload_n 2, 1) := by decide +kernel
theorem d_X12_tray_24 : decode mt_X12_tray.2.1 24 = .ok (.iconst 3, 1) := by decide +kernel
theorem d_X12_tray_25 : decode mt_X12_tray.2.1 25 = .ok (.if_icmp .le 9, 3) := by decide +kernel
theorem d_X12_tray_28 : decode mt_X12_tray.2.1 28 = .ok (.aload_n 0, 1) := by decide +kernel
theorem d_X12_tray_29 : decode mt_X12_tray.2.1 29 = .ok (.iconst 1, 1) := by decide +kernel
theorem d_X12_tray_30 : decode mt_X12_tray.2.1 30 = .ok (.invokevirtual 85, 3) := by decide +kernel
theorem d_X12_tray_33 : decode mt_X12_tray.2.1 33 = .ok (.ireturn, 1) := by decide +kernel
theorem d_X12_tray_34 : decode mt_X12_tray.2.1 34 = .ok (.iload_n 3, 1) := by decide +kernel
theorem d_X12_tray_35 : decode mt_X12_tray.2.1 35 = .ok (.bipush 60, 2) := by decide +kernel
theorem d_X12_tray_37 : decode mt_X12_tray.2.1 37 = .ok (.if_icmp .le 9, 3) := by decide +kernel
theorem d_X12_tray_40 : decode mt_X12_tray.2.1 40 = .ok (.aload_n 0, 1) := by decide +kernel
theorem d_X12_tray_41 : decode mt_X12_tray.2.1 41 = .ok (.iconst 5, 1) := by decide +kernel
theorem d_X12_tray_42 : decode mt_X12_tray.2.1 42 = .ok (.invokevirtual 85, 3) := by decide +kernel
theorem d_X12_tray_45 : decode mt_X12_tray.2.1 45 = .ok (.ireturn, 1) := by decide +kernel
theorem d_X12_tray_46 : decode mt_X12_tray.2.1 46 = .ok (.iload_n 3, 1) := by decide +kernel
theorem d_X12_tray_47 : decode mt_X12_tray.2.1 47 = .ok (.ifCond .ge 10, 3) := by decide +kernel
theorem d_X12_tray_50 : decode mt_X12_tray.2.1 50 = .ok (.aload_n 0, 1) := by decide +kernel
theorem d_X12_tray_51 : decode mt_X12_tray.2.1 51 = .ok (.bipush 6, 2) := by decide +kernel
theorem d_X12_tray_53 : decode mt_X12_tray.2.1 53 = .ok (.invokevirtual 85, 3) := by decide +kernel
theorem d_X12_tray_56 : decode mt_X12_tray.2.1 56 = .ok (.ireturn, 1) := by decide +kernel
theorem d_X12_tray_57 : decode mt_X12_tray.2.1 57 = .ok (.aload_n 0, 1) := by decide +kernel
theorem d_X12_tray_58 : decode mt_X12_tray.2.1 58 = .ok (.getfield 13, 3) := by decide +kernel
theorem d_X12_tray_61 : decode mt_X12_tray.2.1 61 = .ok (.iload_n 1, 1) := by decide +kernel
theorem d_X12_tray_62 : decode mt_X12_tray.2.1 62 = .ok (.iload_n 2, 1) := by decide +kernel
theorem d_X12_tray_63 : decode mt_X12_tray.2.1 63 = .ok (.iastore, 1) := by decide +kernel
theorem d_X12_tray_64 : decode mt_X12_tray.2.1 64 = .ok (.aload_n 0, 1) := by decide +kernel
theorem d_X12_tray_65 : decode mt_X12_tray.2.1 65 = .ok (.getfield 17, 3) := by decide +kernel
theorem d_X12_tray_68 : decode mt_X12_tray.2.1 68 = .ok (.iload_n 1, 1) := by decide +kernel
theorem d_X12_tray_69 : decode mt_X12_tray.2.1 69 = .ok (.iload_n 3, 1) := by decide +kernel
theorem d_X12_tray_70 : decode mt_X12_tray.2.1 70 = .ok (.iastore, 1) := by decide +kernel
theorem d_X12_tray_71 : decode mt_X12_tray.2.1 71 = .ok (.iconst 0, 1) := by decide +kernel
theorem d_X12_tray_72 : decode mt_X12_tray.2.1 72 = .ok (.istore 4, 2) := by decide +kernel
theorem d_X12_tray_74 : decode mt_X12_tray.2.1 74 = .ok (.iload 4, 2) := by decide +kernel
theorem d_X12_tray_76 : decode mt_X12_tray.2.1 76 = .ok (.iload_n 3, 1) := by decide +kernel
theorem d_X12_tray_77 : decode mt_X12_tray.2.1 77 = .ok (.if_icmp .ge 22, 3) := by decide +kernel
theorem d_X12_tray_80 : decode mt_X12_tray.2.1 80 = .ok (.aload_n 0, 1) := by decide +kernel
theorem d_X12_tray_81 : decode mt_X12_tray.2.1 81 = .ok (.getfield 20, 3) := by decide +kernel
theorem d_X12_tray_84 : decode mt_X12_tray.2.1 84 = .ok (.bipush 60, 2) := by decide +kernel
theorem d_X12_tray_86 : decode mt_X12_tray.2.1 86 = .ok (.iload_n 1, 1) := by decide +kernel
theorem d_X12_tray_87 : decode mt_X12_tray.2.1 87 = .ok (.imul, 1) := by decide +kernel
theorem d_X12_tray_88 : decode mt_X12_tray.2.1 88 = .ok (.iload 4, 2) := by decide +kernel
theorem d_X12_tray_90 : decode mt_X12_tray.2.1 90 = .ok (.iadd, 1) := by decide +kernel
theorem d_X12_tray_91 : decode mt_X12_tray.2.1 91 = .ok (.lconst 0, 1) := by decide +kernel
theorem d_X12_tray_92 : decode mt_X12_tray.2.1 92 = .ok (.lastore, 1) := by decide +kernel
theorem d_X12_tray_93 : decode mt_X12_tray.2.1 93 = .ok (.iinc 4 1, 3) := by decide +kernel
theorem d_X12_tray_96 : decode mt_X12_tray.2.1 96 = .ok (.goto (-22), 3) := by decide +kernel
theorem d_X12_tray_99 : decode mt_X12_tray.2.1 99 = .ok (.iconst 1, 1) := by decide +kernel
theorem d_X12_tray_100 : decode mt_X12_tray.2.1 100 = .ok (.ireturn, 1) := by decide +kernel
noncomputable def f_X12_tray_b28 (v0 : Int) (σ : Mem) : Option (Int × Mem) :=
  (f_X12_no v0 1 σ).bind fun r13 =>
  (bz r13.1).bind fun _ =>
  some (r13.1, r13.2)
theorem L_X12_tray_b28 {sc : Nat × (Nat → Int32)} {o : Int × Mem} {v0 : Int} {σ : Mem} (h : f_X12_tray_b28 v0 σ = some o) : E sc (Fm Sh (some (0, o.1)) Sh o.2) mt_X12_tray 2 Sh Sh 28 [(2, v0), (9, 0), (9, 0), (9, 0), (9, 0)] [] Sh σ := by
  unfold f_X12_tray_b28 at h
  refine E_aload_n d_X12_tray_28 rfl (by decide) ?_
  refine E_iconst d_X12_tray_29 (c32 rfl) ?_
  refine bd h (fun r13 q14 h => ?_)
  refine E_cV (as := [(0, 1)]) (st := []) (a := v0) d_X12_tray_30 mk_X12_no nl_X12_85 (by omega) ⟨rfl, rfl, Nat.le_of_ble_eq_true rfl⟩ okX12 rfl (L_X12_no q14) ?_
  refine bd_bz h (fun q15 h => ?_)
  cases h
  exact E_zret d_X12_tray_33 rfl q15
noncomputable def f_X12_tray_b74 (k74 : (Int → Int → Int → Int → Mem → Option (Int × Mem))) (v0 v1 v3 v4 : Int) (σ : Mem) : Option (Int × Mem) :=
  if v3 ≤ v4 then
    some (1, σ)
  else
    (gf Sh σ 12 v0 6).bind fun x16 =>
    (st_ Sh σ 21 x16 (w32 (w32 (60 * v1) + v4)) 0).bind fun σ17 =>
    k74 v0 v1 v3 (w32 (v4 + 1)) σ17
theorem L_X12_tray_b74 {sc : Nat × (Nat → Int32)} {o : Int × Mem} {k74 : (Int → Int → Int → Int → Mem → Option (Int × Mem))} (hk74 : ∀ {v0 v1 v3 v4 : Int} {σ : Mem}, k74 v0 v1 v3 v4 σ = some o → E sc (Fm Sh (some (0, o.1)) Sh o.2) mt_X12_tray 2 Sh Sh 74 [(2, v0), (0, v1), (9, 0), (0, v3), (0, v4)] [] Sh σ) {v0 v1 v3 v4 : Int} {σ : Mem} (h : f_X12_tray_b74 k74 v0 v1 v3 v4 σ = some o) : E sc (Fm Sh (some (0, o.1)) Sh o.2) mt_X12_tray 2 Sh Sh 74 [(2, v0), (0, v1), (9, 0), (0, v3), (0, v4)] [] Sh σ := by
  unfold f_X12_tray_b74 at h
  refine E_iload d_X12_tray_74 rfl ?_
  refine E_iload_n d_X12_tray_76 rfl ?_
  refine E_icmp_ge (tgt := 99) d_X12_tray_77 (by decide) h (fun _ h => ?_) (fun _ h => ?_)
  · refine E_iconst d_X12_tray_99 (c32 rfl) ?_
    cases h
    exact E_zret d_X12_tray_100 rfl (Or.inr rfl)
  · refine E_aload_n d_X12_tray_80 rfl (by decide) ?_
    refine E_get d_X12_tray_81 okX12 fl_X12_20 ⟨by decide, rfl⟩ h (fun x16 h => ?_)
    refine E_bipush d_X12_tray_84 (c8 rfl) ?_
    refine E_iload_n d_X12_tray_86 rfl ?_
    refine E_imul d_X12_tray_87 ?_
    refine E_iload d_X12_tray_88 rfl ?_
    refine E_iadd d_X12_tray_90 ?_
    refine E_lconst d_X12_tray_91 cl0 ?_
    refine E_lastore d_X12_tray_92 h (fun σ17 h => ?_)
    refine E_iinc d_X12_tray_93 (ls' := [(2, v0), (0, v1), (9, 0), (0, v3), (0, w32 (v4 + 1))]) rfl ⟨by decide, rfl⟩ ?_
    refine E_goto (tgt := 74) d_X12_tray_96 (by decide) ?_
    exact (hk74 h)
noncomputable def f_X12_tray_h74 (n : Nat) : Int → Int → Int → Int → Mem → Option (Int × Mem) := Nat.rec (motive := fun _ => Int → Int → Int → Int → Mem → Option (Int × Mem)) (fun _ _ _ _ _ => none) (fun _ ih => f_X12_tray_b74 (ih)) n
theorem L_X12_tray_h74 {sc : Nat × (Nat → Int32)} {o : Int × Mem} : ∀ (n : Nat) {v0 v1 v3 v4 : Int} {σ : Mem}, f_X12_tray_h74 n v0 v1 v3 v4 σ = some o → E sc (Fm Sh (some (0, o.1)) Sh o.2) mt_X12_tray 2 Sh Sh 74 [(2, v0), (0, v1), (9, 0), (0, v3), (0, v4)] [] Sh σ := by
  intro n
  induction n with
  | zero => intro v0 v1 v3 v4 σ h; cases h
  | succ n ih => intro v0 v1 v3 v4 σ h; exact L_X12_tray_b74 (@ih) h
noncomputable def f_X12_tray_b0 (v0 v1 v2 v3 : Int) (σ : Mem) : Option (Int × Mem) :=
  (pf Sh σ 12 v0 1 0).bind fun σ1 =>
  (pf Sh σ1 12 v0 0 0).bind fun σ2 =>
  if v1 < 0 then
    f_X12_tray_b28 v0 σ2
  else
    if 4 ≤ v1 then
      f_X12_tray_b28 v0 σ2
    else
      if v2 < 0 then
        f_X12_tray_b28 v0 σ2
      else
        if v2 ≤ 3 then
          if v3 ≤ 60 then
            if 0 ≤ v3 then
              (gf Sh σ2 12 v0 4).bind fun x3 =>
              (st_ Sh σ2 20 x3 v1 v2).bind fun σ4 =>
              (gf Sh σ4 12 v0 5).bind fun x5 =>
              (st_ Sh σ4 20 x5 v1 v3).bind fun σ6 =>
              f_X12_tray_h74 FU v0 v1 v3 0 σ6
            else
              (f_X12_no v0 6 σ2).bind fun r7 =>
              (bz r7.1).bind fun _ =>
              some (r7.1, r7.2)
          else
            (f_X12_no v0 5 σ2).bind fun r10 =>
            (bz r10.1).bind fun _ =>
            some (r10.1, r10.2)
        else
          f_X12_tray_b28 v0 σ2
theorem L_X12_tray_b0 {sc : Nat × (Nat → Int32)} {o : Int × Mem} {v0 v1 v2 v3 : Int} {σ : Mem} (h : f_X12_tray_b0 v0 v1 v2 v3 σ = some o) : E sc (Fm Sh (some (0, o.1)) Sh o.2) mt_X12_tray 2 Sh Sh 0 [(2, v0), (0, v1), (0, v2), (0, v3), (9, 0)] [] Sh σ := by
  unfold f_X12_tray_b0 at h
  refine E_aload_n d_X12_tray_0 rfl (by decide) ?_
  refine E_iconst d_X12_tray_1 (c32 rfl) ?_
  refine E_put d_X12_tray_2 okX12 fl_X12_70 ⟨by decide, rfl⟩ (Or.inl ⟨rfl, rfl⟩) (Or.inl rfl) h (fun σ1 h => ?_)
  refine E_aload_n d_X12_tray_5 rfl (by decide) ?_
  refine E_iconst d_X12_tray_6 (c32 rfl) ?_
  refine E_put d_X12_tray_7 okX12 fl_X12_73 ⟨by decide, rfl⟩ (Or.inl ⟨rfl, rfl⟩) (Or.inl rfl) h (fun σ2 h => ?_)
  refine E_iload_n d_X12_tray_10 rfl ?_
  refine E_if_lt (tgt := 28) d_X12_tray_11 (by decide) h (fun _ h => ?_) (fun _ h => ?_)
  · exact E_weak (ls' := [(2, v0), (9, 0), (9, 0), (9, 0), (9, 0)]) ⟨Or.inr rfl, Or.inl rfl, Or.inl rfl, Or.inl rfl, Or.inl rfl, trivial⟩ (L_X12_tray_b28 h)
  · refine E_iload_n d_X12_tray_14 rfl ?_
    refine E_iconst d_X12_tray_15 (c32 rfl) ?_
    refine E_icmp_ge (tgt := 28) d_X12_tray_16 (by decide) h (fun _ h => ?_) (fun _ h => ?_)
    · exact E_weak (ls' := [(2, v0), (9, 0), (9, 0), (9, 0), (9, 0)]) ⟨Or.inr rfl, Or.inl rfl, Or.inl rfl, Or.inl rfl, Or.inl rfl, trivial⟩ (L_X12_tray_b28 h)
    · refine E_iload_n d_X12_tray_19 rfl ?_
      refine E_if_lt (tgt := 28) d_X12_tray_20 (by decide) h (fun _ h => ?_) (fun _ h => ?_)
      · exact E_weak (ls' := [(2, v0), (9, 0), (9, 0), (9, 0), (9, 0)]) ⟨Or.inr rfl, Or.inl rfl, Or.inl rfl, Or.inl rfl, Or.inl rfl, trivial⟩ (L_X12_tray_b28 h)
      · refine E_iload_n d_X12_tray_23 rfl ?_
        refine E_iconst d_X12_tray_24 (c32 rfl) ?_
        refine E_icmp_le (tgt := 34) d_X12_tray_25 (by decide) h (fun _ h => ?_) (fun _ h => ?_)
        · refine E_iload_n d_X12_tray_34 rfl ?_
          refine E_bipush d_X12_tray_35 (c8 rfl) ?_
          refine E_icmp_le (tgt := 46) d_X12_tray_37 (by decide) h (fun _ h => ?_) (fun _ h => ?_)
          · refine E_iload_n d_X12_tray_46 rfl ?_
            refine E_if_ge (tgt := 57) d_X12_tray_47 (by decide) h (fun _ h => ?_) (fun _ h => ?_)
            · refine E_aload_n d_X12_tray_57 rfl (by decide) ?_
              refine E_get d_X12_tray_58 okX12 fl_X12_13 ⟨by decide, rfl⟩ h (fun x3 h => ?_)
              refine E_iload_n d_X12_tray_61 rfl ?_
              refine E_iload_n d_X12_tray_62 rfl ?_
              refine E_iastore d_X12_tray_63 h (fun σ4 h => ?_)
              refine E_aload_n d_X12_tray_64 rfl (by decide) ?_
              refine E_get d_X12_tray_65 okX12 fl_X12_17 ⟨by decide, rfl⟩ h (fun x5 h => ?_)
              refine E_iload_n d_X12_tray_68 rfl ?_
              refine E_iload_n d_X12_tray_69 rfl ?_
              refine E_iastore d_X12_tray_70 h (fun σ6 h => ?_)
              refine E_iconst d_X12_tray_71 (c32 rfl) ?_
              refine E_istore d_X12_tray_72 (ls' := [(2, v0), (0, v1), (0, v2), (0, v3), (0, 0)]) ⟨by decide, rfl⟩ ?_
              exact E_weak (ls' := [(2, v0), (0, v1), (9, 0), (0, v3), (0, 0)]) ⟨Or.inr rfl, Or.inr rfl, Or.inl rfl, Or.inr rfl, Or.inr rfl, trivial⟩ (L_X12_tray_h74 FU h)
            · refine E_aload_n d_X12_tray_50 rfl (by decide) ?_
              refine E_bipush d_X12_tray_51 (c8 rfl) ?_
              refine bd h (fun r7 q8 h => ?_)
              refine E_cV (as := [(0, 6)]) (st := []) (a := v0) d_X12_tray_53 mk_X12_no nl_X12_85 (by omega) ⟨rfl, rfl, Nat.le_of_ble_eq_true rfl⟩ okX12 rfl (L_X12_no q8) ?_
              refine bd_bz h (fun q9 h => ?_)
              cases h
              exact E_zret d_X12_tray_56 rfl q9
          · refine E_aload_n d_X12_tray_40 rfl (by decide) ?_
            refine E_iconst d_X12_tray_41 (c32 rfl) ?_
            refine bd h (fun r10 q11 h => ?_)
            refine E_cV (as := [(0, 5)]) (st := []) (a := v0) d_X12_tray_42 mk_X12_no nl_X12_85 (by omega) ⟨rfl, rfl, Nat.le_of_ble_eq_true rfl⟩ okX12 rfl (L_X12_no q11) ?_
            refine bd_bz h (fun q12 h => ?_)
            cases h
            exact E_zret d_X12_tray_45 rfl q12
        · exact E_weak (ls' := [(2, v0), (9, 0), (9, 0), (9, 0), (9, 0)]) ⟨Or.inr rfl, Or.inl rfl, Or.inl rfl, Or.inl rfl, Or.inl rfl, trivial⟩ (L_X12_tray_b28 h)
noncomputable def f_X12_tray (v0 v1 v2 v3 : Int) (σ : Mem) : Option (Int × Mem) := if isO Sh 12 v0 = true then f_X12_tray_b0 v0 v1 v2 v3 σ else none
theorem L_X12_tray {o : Int × Mem} {v0 v1 v2 v3 : Int} {σ : Mem} (h : f_X12_tray v0 v1 v2 v3 σ = some o) : (isO Sh 12 v0 = true ∧ Cn mt_X12_tray 2 [(2, v0), (0, v1), (0, v2), (0, v3)] Sh σ (some (0, o.1)) Sh o.2) := ⟨(ite_ok h).1, Cn_of mk_X12_tray.1.2.2.1 (Nat.le_of_ble_eq_true rfl) (fun sc => L_X12_tray_b0 (ite_ok h).2)⟩
theorem d_X12_trayed_0 : decode mt_X12_trayed.2.1 0 = .ok (.iload_n 1, 1) := by decide +kernel
theorem d_X12_trayed_1 : decode mt_X12_trayed.2.1 1 = .ok (.ifCond .lt 8, 3) := by decide +kernel
theorem d_X12_trayed_4 : decode mt_X12_trayed.2.1 4 = .ok (.iload_n 1, 1) := by decide +kernel
theorem d_X12_trayed_5 : decode mt_X12_trayed.2.1 5 = .ok (.iconst 4, 1) := by decide +kernel
theorem d_X12_trayed_6 : decode mt_X12_trayed.2.1 6 = .ok (.if_icmp .lt 7, 3) := by decide +kernel
theorem d_X12_trayed_9 : decode mt_X12_trayed.2.1 9 = .ok (.iconst 1, 1) := by decide +kernel
theorem d_X12_trayed_10 : decode mt_X12_trayed.2.1 10 = .ok (.goto 17, 3) := by decide +kernel
theorem d_X12_trayed_13 : decode mt_X12_trayed.2.1 13 = .ok (.aload_n 0, 1) := by decide +kernel
theorem d_X12_trayed_14 : decode mt_X12_trayed.2.1 14 = .ok (.getfield 17, 3) := by decide +kernel
theorem d_X12_trayed_17 : decode mt_X12_trayed.2.1 17 = .ok (.iload_n 1, 1) := by decide +kernel
theorem d_X12_trayed_18 : decode mt_X12_trayed.2.1 18 = .ok (.iaload, 1) := by decide +kernel
theorem d_X12_trayed_19 : decode mt_X12_trayed.2.1 19 = .ok (.ifCond .ge 7, 3) := by decide +kernel
theorem d_X12_trayed_22 : decode mt_X12_trayed.2.1 22 = .ok (.iconst 3, 1) := by decide +kernel
theorem d_X12_trayed_23 : decode mt_X12_trayed.2.1 23 = .ok (.goto 4, 3) := by decide +kernel
theorem d_X12_trayed_26 : decode mt_X12_trayed.2.1 26 = .ok (.iconst 0, 1) := by decide +kernel
theorem d_X12_trayed_27 : decode mt_X12_trayed.2.1 27 = .ok (.ireturn, 1) := by decide +kernel
noncomputable def f_X12_trayed_b9 (σ : Mem) : Option (Int) :=
  some (1)
theorem L_X12_trayed_b9 {sc : Nat × (Nat → Int32)} {o : Int} {σ : Mem} (h : f_X12_trayed_b9  σ = some o) : E sc (Fm Sh (some (0, o)) Sh σ) mt_X12_trayed 1 Sh Sh 9 [(9, 0), (9, 0)] [] Sh σ := by
  unfold f_X12_trayed_b9 at h
  refine E_iconst d_X12_trayed_9 (c32 rfl) ?_
  refine E_goto (tgt := 27) d_X12_trayed_10 (by decide) ?_
  cases h
  exact E_iret d_X12_trayed_27 rfl
noncomputable def f_X12_trayed_b0 (v0 v1 : Int) (σ : Mem) : Option (Int) :=
  if v1 < 0 then
    f_X12_trayed_b9  σ
  else
    if v1 < 4 then
      (gf Sh σ 12 v0 5).bind fun x1 =>
      (al Sh σ 20 x1 v1).bind fun x2 =>
      if 0 ≤ x2 then
        some (0)
      else
        some (3)
    else
      f_X12_trayed_b9  σ
theorem L_X12_trayed_b0 {sc : Nat × (Nat → Int32)} {o : Int} {σ : Mem} {v0 v1 : Int} (h : f_X12_trayed_b0 v0 v1 σ = some o) : E sc (Fm Sh (some (0, o)) Sh σ) mt_X12_trayed 1 Sh Sh 0 [(2, v0), (0, v1)] [] Sh σ := by
  unfold f_X12_trayed_b0 at h
  refine E_iload_n d_X12_trayed_0 rfl ?_
  refine E_if_lt (tgt := 9) d_X12_trayed_1 (by decide) h (fun _ h => ?_) (fun _ h => ?_)
  · exact E_weak (ls' := [(9, 0), (9, 0)]) ⟨Or.inl rfl, Or.inl rfl, trivial⟩ (L_X12_trayed_b9 h)
  · refine E_iload_n d_X12_trayed_4 rfl ?_
    refine E_iconst d_X12_trayed_5 (c32 rfl) ?_
    refine E_icmp_lt (tgt := 13) d_X12_trayed_6 (by decide) h (fun _ h => ?_) (fun _ h => ?_)
    · refine E_aload_n d_X12_trayed_13 rfl (by decide) ?_
      refine E_get d_X12_trayed_14 okX12 fl_X12_17 ⟨by decide, rfl⟩ h (fun x1 h => ?_)
      refine E_iload_n d_X12_trayed_17 rfl ?_
      refine E_iaload d_X12_trayed_18 h (fun x2 h => ?_)
      refine E_if_ge (tgt := 26) d_X12_trayed_19 (by decide) h (fun _ h => ?_) (fun _ h => ?_)
      · refine E_iconst d_X12_trayed_26 (c32 rfl) ?_
        cases h
        exact E_iret d_X12_trayed_27 rfl
      · refine E_iconst d_X12_trayed_22 (c32 rfl) ?_
        refine E_goto (tgt := 27) d_X12_trayed_23 (by decide) ?_
        cases h
        exact E_iret d_X12_trayed_27 rfl
    · exact E_weak (ls' := [(9, 0), (9, 0)]) ⟨Or.inl rfl, Or.inl rfl, trivial⟩ (L_X12_trayed_b9 h)
noncomputable def f_X12_trayed (v0 v1 : Int) (σ : Mem) : Option (Int) := if isO Sh 12 v0 = true then f_X12_trayed_b0 v0 v1 σ else none
theorem L_X12_trayed {o : Int} {v0 v1 : Int} {σ : Mem} (h : f_X12_trayed v0 v1 σ = some o) : (isO Sh 12 v0 = true ∧ Cn mt_X12_trayed 1 [(2, v0), (0, v1)] Sh σ (some (0, o)) Sh σ) := ⟨(ite_ok h).1, Cn_of mk_X12_trayed.1.2.2.1 (Nat.le_of_ble_eq_true rfl) (fun sc => L_X12_trayed_b0 (ite_ok h).2)⟩
theorem d_X12_placed_0 : decode mt_X12_placed.2.1 0 = .ok (.aload_n 0, 1) := by decide +kernel
theorem d_X12_placed_1 : decode mt_X12_placed.2.1 1 = .ok (.iload_n 1, 1) := by decide +kernel
theorem d_X12_placed_2 : decode mt_X12_placed.2.1 2 = .ok (.invokevirtual 89, 3) := by decide +kernel
theorem d_X12_placed_5 : decode mt_X12_placed.2.1 5 = .ok (.istore_n 3, 1) := by decide +kernel
theorem d_X12_placed_6 : decode mt_X12_placed.2.1 6 = .ok (.iload_n 3, 1) := by decide +kernel
theorem d_X12_placed_7 : decode mt_X12_placed.2.1 7 = .ok (.ifCond .le 7, 3) := by decide +kernel
theorem d_X12_placed_10 : decode mt_X12_placed.2.1 10 = .ok (.iload_n 3, 1) := by decide +kernel
theorem d_X12_placed_11 : decode mt_X12_placed.2.1 11 = .ok (.goto 22, 3) := by decide +kernel
theorem d_X12_placed_14 : decode mt_X12_placed.2.1 14 = .ok (.iload_n 2, 1) := by decide +kernel
theorem d_X12_placed_15 : decode mt_X12_placed.2.1 15 = .ok (.ifCond .lt 13, 3) := by decide +kernel
theorem d_X12_placed_18 : decode mt_X12_placed.2.1 18 = .ok (.iload_n 2, 1) := by decide +kernel
theorem d_X12_placed_19 : decode mt_X12_placed.2.1 19 = .ok (.aload_n 0, 1) := by decide +kernel
theorem d_X12_placed_20 : decode mt_X12_placed.2.1 20 = .ok (.getfield 17, 3) := by decide +kernel
theorem d_X12_placed_23 : decode mt_X12_placed.2.1 23 = .ok (.iload_n 1, 1) := by decide +kernel
theorem d_X12_placed_24 : decode mt_X12_placed.2.1 24 = .ok (.iaload, 1) := by decide +kernel
theorem d_X12_placed_25 : decode mt_X12_placed.2.1 25 = .ok (.if_icmp .lt 7, 3) := by decide +kernel
theorem d_X12_placed_28 : decode mt_X12_placed.2.1 28 = .ok (.iconst 4, 1) := by decide +kernel
theorem d_X12_placed_29 : decode mt_X12_placed.2.1 29 = .ok (.goto 4, 3) := by decide +kernel
theorem d_X12_placed_32 : decode mt_X12_placed.2.1 32 = .ok (.iconst 0, 1) := by decide +kernel
theorem d_X12_placed_33 : decode mt_X12_placed.2.1 33 = .ok (.ireturn, 1) := by decide +kernel
noncomputable def f_X12_placed_b28 (σ : Mem) : Option (Int) :=
  some (4)
theorem L_X12_placed_b28 {sc : Nat × (Nat → Int32)} {o : Int} {σ : Mem} (h : f_X12_placed_b28  σ = some o) : E sc (Fm Sh (some (0, o)) Sh σ) mt_X12_placed 2 Sh Sh 28 [(9, 0), (9, 0), (9, 0), (9, 0)] [] Sh σ := by
  unfold f_X12_placed_b28 at h
  refine E_iconst d_X12_placed_28 (c32 rfl) ?_
  refine E_goto (tgt := 33) d_X12_placed_29 (by decide) ?_
  cases h
  exact E_iret d_X12_placed_33 rfl
noncomputable def f_X12_placed_b0 (v0 v1 v2 : Int) (σ : Mem) : Option (Int) :=
  (f_X12_trayed v0 v1 σ).bind fun r1 =>
  if r1 ≤ 0 then
    if v2 < 0 then
      f_X12_placed_b28  σ
    else
      (gf Sh σ 12 v0 5).bind fun x3 =>
      (al Sh σ 20 x3 v1).bind fun x4 =>
      if v2 < x4 then
        some (0)
      else
        f_X12_placed_b28  σ
  else
    some (r1)
theorem L_X12_placed_b0 {sc : Nat × (Nat → Int32)} {o : Int} {σ : Mem} {v0 v1 v2 : Int} (h : f_X12_placed_b0 v0 v1 v2 σ = some o) : E sc (Fm Sh (some (0, o)) Sh σ) mt_X12_placed 2 Sh Sh 0 [(2, v0), (0, v1), (0, v2), (9, 0)] [] Sh σ := by
  unfold f_X12_placed_b0 at h
  refine E_aload_n d_X12_placed_0 rfl (by decide) ?_
  refine E_iload_n d_X12_placed_1 rfl ?_
  refine bd h (fun r1 q2 h => ?_)
  refine E_cV (as := [(0, v1)]) (st := []) (a := v0) d_X12_placed_2 mk_X12_trayed nl_X12_89 (by omega) ⟨rfl, rfl, Nat.le_of_ble_eq_true rfl⟩ okX12 rfl (L_X12_trayed q2) ?_
  refine E_istore_n d_X12_placed_5 (ls' := [(2, v0), (0, v1), (0, v2), (0, r1)]) ⟨by decide, rfl⟩ ?_
  refine E_iload_n d_X12_placed_6 rfl ?_
  refine E_if_le (tgt := 14) d_X12_placed_7 (by decide) h (fun _ h => ?_) (fun _ h => ?_)
  · refine E_iload_n d_X12_placed_14 rfl ?_
    refine E_if_lt (tgt := 28) d_X12_placed_15 (by decide) h (fun _ h => ?_) (fun _ h => ?_)
    · exact E_weak (ls' := [(9, 0), (9, 0), (9, 0), (9, 0)]) ⟨Or.inl rfl, Or.inl rfl, Or.inl rfl, Or.inl rfl, trivial⟩ (L_X12_placed_b28 h)
    · refine E_iload_n d_X12_placed_18 rfl ?_
      refine E_aload_n d_X12_placed_19 rfl (by decide) ?_
      refine E_get d_X12_placed_20 okX12 fl_X12_17 ⟨by decide, rfl⟩ h (fun x3 h => ?_)
      refine E_iload_n d_X12_placed_23 rfl ?_
      refine E_iaload d_X12_placed_24 h (fun x4 h => ?_)
      refine E_icmp_lt (tgt := 32) d_X12_placed_25 (by decide) h (fun _ h => ?_) (fun _ h => ?_)
      · refine E_iconst d_X12_placed_32 (c32 rfl) ?_
        cases h
        exact E_iret d_X12_placed_33 rfl
      · exact E_weak (ls' := [(9, 0), (9, 0), (9, 0), (9, 0)]) ⟨Or.inl rfl, Or.inl rfl, Or.inl rfl, Or.inl rfl, trivial⟩ (L_X12_placed_b28 h)
  · refine E_iload_n d_X12_placed_10 rfl ?_
    refine E_goto (tgt := 33) d_X12_placed_11 (by decide) ?_
    cases h
    exact E_iret d_X12_placed_33 rfl
noncomputable def f_X12_placed (v0 v1 v2 : Int) (σ : Mem) : Option (Int) := if isO Sh 12 v0 = true then f_X12_placed_b0 v0 v1 v2 σ else none
theorem L_X12_placed {o : Int} {v0 v1 v2 : Int} {σ : Mem} (h : f_X12_placed v0 v1 v2 σ = some o) : (isO Sh 12 v0 = true ∧ Cn mt_X12_placed 2 [(2, v0), (0, v1), (0, v2)] Sh σ (some (0, o)) Sh σ) := ⟨(ite_ok h).1, Cn_of mk_X12_placed.1.2.2.1 (Nat.le_of_ble_eq_true rfl) (fun sc => L_X12_placed_b0 (ite_ok h).2)⟩
theorem d_X12_cut_0 : decode mt_X12_cut.2.1 0 = .ok (.iload_n 0, 1) := by decide +kernel
theorem d_X12_cut_1 : decode mt_X12_cut.2.1 1 = .ok (.ifCond .ne 10, 3) := by decide +kernel
theorem d_X12_cut_4 : decode mt_X12_cut.2.1 4 = .ok (.lload_n 1, 1) := by decide +kernel
theorem d_X12_cut_5 : decode mt_X12_cut.2.1 5 = .ok (.l2i, 1) := by decide +kernel
theorem d_X12_cut_6 : decode mt_X12_cut.2.1 6 = .ok (.i2b, 1) := by decide +kernel
theorem d_X12_cut_7 : decode mt_X12_cut.2.1 7 = .ok (.i2l, 1) := by decide +kernel
theorem d_X12_cut_8 : decode mt_X12_cut.2.1 8 = .ok (.goto 27, 3) := by decide +kernel
theorem d_X12_cut_11 : decode mt_X12_cut.2.1 11 = .ok (.iload_n 0, 1) := by decide +kernel
theorem d_X12_cut_12 : decode mt_X12_cut.2.1 12 = .ok (.iconst 1, 1) := by decide +kernel
theorem d_X12_cut_13 : decode mt_X12_cut.2.1 13 = .ok (.if_icmp .ne 10, 3) := by decide +kernel
theorem d_X12_cut_16 : decode mt_X12_cut.2.1 16 = .ok (.lload_n 1, 1) := by decide +kernel
theorem d_X12_cut_17 : decode mt_X12_cut.2.1 17 = .ok (.l2i, 1) := by decide +kernel
theorem d_X12_cut_18 : decode mt_X12_cut.2.1 18 = .ok (.i2s, 1) := by decide +kernel
theorem d_X12_cut_19 : decode mt_X12_cut.2.1 19 = .ok (.i2l, 1) := by decide +kernel
theorem d_X12_cut_20 : decode mt_X12_cut.2.1 20 = .ok (.goto 15, 3) := by decide +kernel
theorem d_X12_cut_23 : decode mt_X12_cut.2.1 23 = .ok (.iload_n 0, 1) := by decide +kernel
theorem d_X12_cut_24 : decode mt_X12_cut.2.1 24 = .ok (.iconst 2, 1) := by decide +kernel
theorem d_X12_cut_25 : decode mt_X12_cut.2.1 25 = .ok (.if_icmp .ne 9, 3) := by decide +kernel
theorem d_X12_cut_28 : decode mt_X12_cut.2.1 28 = .ok (.lload_n 1, 1) := by decide +kernel
theorem d_X12_cut_29 : decode mt_X12_cut.2.1 29 = .ok (.l2i, 1) := by decide +kernel
theorem d_X12_cut_30 : decode mt_X12_cut.2.1 30 = .ok (.i2l, 1) := by decide +kernel
theorem d_X12_cut_31 : decode mt_X12_cut.2.1 31 = .ok (.goto 4, 3) := by decide +kernel
theorem d_X12_cut_34 : decode mt_X12_cut.2.1 34 = .ok (.lload_n 1, 1) := by decide +kernel
theorem d_X12_cut_35 : decode mt_X12_cut.2.1 35 = .ok (.lreturn, 1) := by decide +kernel
noncomputable def f_X12_cut_b0 (v0 v1 : Int) (σ : Mem) : Option (Int) :=
  if v0 = 0 then
    some (w8 (w32 v1))
  else
    if v0 = 1 then
      some (w16 (w32 v1))
    else
      if v0 = 2 then
        some (w32 v1)
      else
        some (v1)
theorem L_X12_cut_b0 {sc : Nat × (Nat → Int32)} {o : Int} {σ : Mem} {v0 v1 : Int} (h : f_X12_cut_b0 v0 v1 σ = some o) : E sc (Fm Sh (some (1, o)) Sh σ) mt_X12_cut 1 Sh Sh 0 [(0, v0), (1, v1), (9, 0)] [] Sh σ := by
  unfold f_X12_cut_b0 at h
  refine E_iload_n d_X12_cut_0 rfl ?_
  refine E_if_ne (tgt := 11) d_X12_cut_1 (by decide) h (fun _ h => ?_) (fun _ h => ?_)
  · refine E_lload_n d_X12_cut_4 rfl ?_
    refine E_l2i d_X12_cut_5 ?_
    refine E_i2b d_X12_cut_6 ?_
    refine E_i2l d_X12_cut_7 ?_
    refine E_goto (tgt := 35) d_X12_cut_8 (by decide) ?_
    cases h
    exact E_lret d_X12_cut_35 rfl
  · refine E_iload_n d_X12_cut_11 rfl ?_
    refine E_iconst d_X12_cut_12 (c32 rfl) ?_
    refine E_icmp_ne (tgt := 23) d_X12_cut_13 (by decide) h (fun _ h => ?_) (fun _ h => ?_)
    · refine E_lload_n d_X12_cut_16 rfl ?_
      refine E_l2i d_X12_cut_17 ?_
      refine E_i2s d_X12_cut_18 ?_
      refine E_i2l d_X12_cut_19 ?_
      refine E_goto (tgt := 35) d_X12_cut_20 (by decide) ?_
      cases h
      exact E_lret d_X12_cut_35 rfl
    · refine E_iload_n d_X12_cut_23 rfl ?_
      refine E_iconst d_X12_cut_24 (c32 rfl) ?_
      refine E_icmp_ne (tgt := 34) d_X12_cut_25 (by decide) h (fun _ h => ?_) (fun _ h => ?_)
      · refine E_lload_n d_X12_cut_28 rfl ?_
        refine E_l2i d_X12_cut_29 ?_
        refine E_i2l d_X12_cut_30 ?_
        refine E_goto (tgt := 35) d_X12_cut_31 (by decide) ?_
        cases h
        exact E_lret d_X12_cut_35 rfl
      · refine E_lload_n d_X12_cut_34 rfl ?_
        cases h
        exact E_lret d_X12_cut_35 rfl
noncomputable def f_X12_cut (v0 v1 : Int) (σ : Mem) : Option (Int) := f_X12_cut_b0 v0 v1 σ
theorem L_X12_cut {o : Int} {v0 v1 : Int} {σ : Mem} (h : f_X12_cut v0 v1 σ = some o) : Cn mt_X12_cut 1 [(0, v0), (1, v1)] Sh σ (some (1, o)) Sh σ := Cn_of mk_X12_cut.1.2.2.1 (Nat.le_of_ble_eq_true rfl) (fun sc => L_X12_cut_b0 h)
theorem d_X12_write_0 : decode mt_X12_write.2.1 0 = .ok (.aload_n 0, 1) := by decide +kernel
theorem d_X12_write_1 : decode mt_X12_write.2.1 1 = .ok (.iconst 0, 1) := by decide +kernel
theorem d_X12_write_2 : decode mt_X12_write.2.1 2 = .ok (.putfield 70, 3) := by decide +kernel
theorem d_X12_write_5 : decode mt_X12_write.2.1 5 = .ok (.aload_n 0, 1) := by decide +kernel
theorem d_X12_write_6 : decode mt_X12_write.2.1 6 = .ok (.aload_n 0, 1) := by decide +kernel
theorem d_X12_write_7 : decode mt_X12_write.2.1 7 = .ok (.iload_n 1, 1) := by decide +kernel
theorem d_X12_write_8 : decode mt_X12_write.2.1 8 = .ok (.iload_n 2, 1) := by decide +kernel
theorem d_X12_write_9 : decode mt_X12_write.2.1 9 = .ok (.invokevirtual 93, 3) := by decide +kernel
theorem d_X12_write_12 : decode mt_X12_write.2.1 12 = .ok (.putfield 73, 3) := by decide +kernel
theorem d_X12_write_15 : decode mt_X12_write.2.1 15 = .ok (.aload_n 0, 1) := by decide +kernel
theorem d_X12_write_16 : decode mt_X12_write.2.1 16 = .ok (.getfield 73, 3) := by decide +kernel
theorem d_X12_write_19 : decode mt_X12_write.2.1 19 = .ok (.ifCond .le 5, 3) := by decide +kernel
theorem d_X12_write_22 : decode mt_X12_write.2.1 22 = .ok (.iconst 0, 1) := by decide +kernel
theorem d_X12_write_23 : decode mt_X12_write.2.1 23 = .ok (.ireturn, 1) := by decide +kernel
theorem d_X12_write_24 : decode mt_X12_write.2.1 24 = .ok (.aload_n 0, 1) := by decide +kernel
theorem d_X12_write_25 : decode mt_X12_write.2.1 25 = .ok (.getfield 20, 3) := by decide +kernel
theorem d_X12_write_28 : decode mt_X12_write.2.1 28 = .ok (.bipush 60, 2) := by decide +kernel
theorem d_X12_write_30 : decode mt_X12_write.2.1 30 = .ok (.iload_n 1, 1) := by decide +kernel
theorem d_X12_write_31 : decode mt_X12_write.2.1 31 = .ok (.imul, 1) := by decide +kernel
theorem d_X12_write_32 : decode mt_X12_write.2.1 32 = .ok (.iload_n 2, 1) := by decide +kernel
theorem d_X12_write_33 : decode mt_X12_write.2.1 33 = .ok (.iadd, 1) := by decide +kernel
theorem d_X12_write_34 : decode mt_X12_write.2.1 34 = .ok (.aload_n 0, 1) := by decide +kernel
theorem d_X12_write_35 : decode mt_X12_write.2.1 35 = .ok (.getfield 13, 3) := by decide +kernel
theorem d_X12_write_38 : decode mt_X12_write.2.1 38 = .ok (.iload_n 1, 1) := by decide +kernel
theorem d_X12_write_39 : decode mt_X12_write.2.1 39 = .ok (.iaload, 1) := by decide +kernel
theorem d_X12_write_40 : decode mt_X12_write.2.1 40 = .ok (.lload_n 3, 1) := by decide +kernel
theorem d_X12_write_41 : decode mt_X12_write.2.1 41 = .ok (.invokestatic 97, 3) := by decide +kernel
theorem d_X12_write_44 : decode mt_X12_write.2.1 44 = .ok (.lastore, 1) := by decide +kernel
theorem d_X12_write_45 : decode mt_X12_write.2.1 45 = .ok (.iconst 1, 1) := by decide +kernel
theorem d_X12_write_46 : decode mt_X12_write.2.1 46 = .ok (.ireturn, 1) := by decide +kernel
noncomputable def f_X12_write_b0 (v0 v1 v2 v3 : Int) (σ : Mem) : Option (Int × Mem) :=
  (pf Sh σ 12 v0 1 0).bind fun σ1 =>
  (f_X12_placed v0 v1 v2 σ1).bind fun r2 =>
  (pf Sh σ1 12 v0 0 r2).bind fun σ4 =>
  (gf Sh σ4 12 v0 0).bind fun x5 =>
  if x5 ≤ 0 then
    (gf Sh σ4 12 v0 6).bind fun x6 =>
    (gf Sh σ4 12 v0 4).bind fun x7 =>
    (al Sh σ4 20 x7 v1).bind fun x8 =>
    (f_X12_cut x8 v3 σ4).bind fun r9 =>
    (st_ Sh σ4 21 x6 (w32 (w32 (60 * v1) + v2)) r9).bind fun σ11 =>
    some (1, σ11)
  else
    some (0, σ4)
theorem L_X12_write_b0 {sc : Nat × (Nat → Int32)} {o : Int × Mem} {v0 v1 v2 v3 : Int} {σ : Mem} (h : f_X12_write_b0 v0 v1 v2 v3 σ = some o) : E sc (Fm Sh (some (0, o.1)) Sh o.2) mt_X12_write 3 Sh Sh 0 [(2, v0), (0, v1), (0, v2), (1, v3), (9, 0)] [] Sh σ := by
  unfold f_X12_write_b0 at h
  refine E_aload_n d_X12_write_0 rfl (by decide) ?_
  refine E_iconst d_X12_write_1 (c32 rfl) ?_
  refine E_put d_X12_write_2 okX12 fl_X12_70 ⟨by decide, rfl⟩ (Or.inl ⟨rfl, rfl⟩) (Or.inl rfl) h (fun σ1 h => ?_)
  refine E_aload_n d_X12_write_5 rfl (by decide) ?_
  refine E_aload_n d_X12_write_6 rfl (by decide) ?_
  refine E_iload_n d_X12_write_7 rfl ?_
  refine E_iload_n d_X12_write_8 rfl ?_
  refine bd h (fun r2 q3 h => ?_)
  refine E_cV (as := [(0, v1), (0, v2)]) (st := [(2, v0)]) (a := v0) d_X12_write_9 mk_X12_placed nl_X12_93 (by omega) ⟨rfl, rfl, Nat.le_of_ble_eq_true rfl⟩ okX12 rfl (L_X12_placed q3) ?_
  refine E_put d_X12_write_12 okX12 fl_X12_73 ⟨by decide, rfl⟩ (Or.inl ⟨rfl, rfl⟩) (Or.inl rfl) h (fun σ4 h => ?_)
  refine E_aload_n d_X12_write_15 rfl (by decide) ?_
  refine E_get d_X12_write_16 okX12 fl_X12_73 ⟨by decide, rfl⟩ h (fun x5 h => ?_)
  refine E_if_le (tgt := 24) d_X12_write_19 (by decide) h (fun _ h => ?_) (fun _ h => ?_)
  · refine E_aload_n d_X12_write_24 rfl (by decide) ?_
    refine E_get d_X12_write_25 okX12 fl_X12_20 ⟨by decide, rfl⟩ h (fun x6 h => ?_)
    refine E_bipush d_X12_write_28 (c8 rfl) ?_
    refine E_iload_n d_X12_write_30 rfl ?_
    refine E_imul d_X12_write_31 ?_
    refine E_iload_n d_X12_write_32 rfl ?_
    refine E_iadd d_X12_write_33 ?_
    refine E_aload_n d_X12_write_34 rfl (by decide) ?_
    refine E_get d_X12_write_35 okX12 fl_X12_13 ⟨by decide, rfl⟩ h (fun x7 h => ?_)
    refine E_iload_n d_X12_write_38 rfl ?_
    refine E_iaload d_X12_write_39 h (fun x8 h => ?_)
    refine E_lload_n d_X12_write_40 rfl ?_
    refine bd h (fun r9 q10 h => ?_)
    refine E_cS (as := [(0, x8), (1, v3)]) (st := [(0, w32 (w32 (60 * v1) + v2)), (2, x6)]) d_X12_write_41 mk_X12_cut nl_X12_97 (by omega) ⟨rfl, rfl, Nat.le_of_ble_eq_true rfl⟩ (L_X12_cut q10) ?_
    refine E_lastore d_X12_write_44 h (fun σ11 h => ?_)
    refine E_iconst d_X12_write_45 (c32 rfl) ?_
    cases h
    exact E_zret d_X12_write_46 rfl (Or.inr rfl)
  · refine E_iconst d_X12_write_22 (c32 rfl) ?_
    cases h
    exact E_zret d_X12_write_23 rfl (Or.inl rfl)
noncomputable def f_X12_write (v0 v1 v2 v3 : Int) (σ : Mem) : Option (Int × Mem) := if isO Sh 12 v0 = true then f_X12_write_b0 v0 v1 v2 v3 σ else none
theorem L_X12_write {o : Int × Mem} {v0 v1 v2 v3 : Int} {σ : Mem} (h : f_X12_write v0 v1 v2 v3 σ = some o) : (isO Sh 12 v0 = true ∧ Cn mt_X12_write 3 [(2, v0), (0, v1), (0, v2), (1, v3)] Sh σ (some (0, o.1)) Sh o.2) := ⟨(ite_ok h).1, Cn_of mk_X12_write.1.2.2.1 (Nat.le_of_ble_eq_true rfl) (fun sc => L_X12_write_b0 (ite_ok h).2)⟩
theorem d_X12_read_0 : decode mt_X12_read.2.1 0 = .ok (.aload_n 0, 1) := by decide +kernel
theorem d_X12_read_1 : decode mt_X12_read.2.1 1 = .ok (.iconst 0, 1) := by decide +kernel
theorem d_X12_read_2 : decode mt_X12_read.2.1 2 = .ok (.putfield 70, 3) := by decide +kernel
theorem d_X12_read_5 : decode mt_X12_read.2.1 5 = .ok (.aload_n 0, 1) := by decide +kernel
theorem d_X12_read_6 : decode mt_X12_read.2.1 6 = .ok (.aload_n 0, 1) := by decide +kernel
theorem d_X12_read_7 : decode mt_X12_read.2.1 7 = .ok (.iload_n 1, 1) := by decide +kernel
theorem d_X12_read_8 : decode mt_X12_read.2.1 8 = .ok (.iload_n 2, 1) := by decide +kernel
theorem d_X12_read_9 : decode mt_X12_read.2.1 9 = .ok (.invokevirtual 93, 3) := by decide +kernel
theorem d_X12_read_12 : decode mt_X12_read.2.1 12 = .ok (.putfield 73, 3) := by decide +kernel
theorem d_X12_read_15 : decode mt_X12_read.2.1 15 = .ok (.aload_n 0, 1) := by decide +kernel
theorem d_X12_read_16 : decode mt_X12_read.2.1 16 = .ok (.getfield 73, 3) := by decide +kernel
theorem d_X12_read_19 : decode mt_X12_read.2.1 19 = .ok (.ifCond .le 9, 3) := by decide +kernel
theorem d_X12_read_22 : decode mt_X12_read.2.1 22 = .ok (.ldc2_w 100, 3) := by decide +kernel
theorem d_X12_read_25 : decode mt_X12_read.2.1 25 = .ok (.goto 14, 3) := by decide +kernel
theorem d_X12_read_28 : decode mt_X12_read.2.1 28 = .ok (.aload_n 0, 1) := by decide +kernel
theorem d_X12_read_29 : decode mt_X12_read.2.1 29 = .ok (.getfield 20, 3) := by decide +kernel
theorem d_X12_read_32 : decode mt_X12_read.2.1 32 = .ok (.bipush 60, 2) := by decide +kernel
theorem d_X12_read_34 : decode mt_X12_read.2.1 34 = .ok (.iload_n 1, 1) := by decide +kernel
theorem d_X12_read_35 : decode mt_X12_read.2.1 35 = .ok (.imul, 1) := by decide +kernel
theorem d_X12_read_36 : decode mt_X12_read.2.1 36 = .ok (.iload_n 2, 1) := by decide +kernel
theorem d_X12_read_37 : decode mt_X12_read.2.1 37 = .ok (.iadd, 1) := by decide +kernel
theorem d_X12_read_38 : decode mt_X12_read.2.1 38 = .ok (.laload, 1) := by decide +kernel
theorem d_X12_read_39 : decode mt_X12_read.2.1 39 = .ok (.lreturn, 1) := by decide +kernel
noncomputable def f_X12_read_b0 (v0 v1 v2 : Int) (σ : Mem) : Option (Int × Mem) :=
  (pf Sh σ 12 v0 1 0).bind fun σ1 =>
  (f_X12_placed v0 v1 v2 σ1).bind fun r2 =>
  (pf Sh σ1 12 v0 0 r2).bind fun σ4 =>
  (gf Sh σ4 12 v0 0).bind fun x5 =>
  if x5 ≤ 0 then
    (gf Sh σ4 12 v0 6).bind fun x6 =>
    (al Sh σ4 21 x6 (w32 (w32 (60 * v1) + v2))).bind fun x7 =>
    some (x7, σ4)
  else
    some ((-1), σ4)
theorem L_X12_read_b0 {sc : Nat × (Nat → Int32)} {o : Int × Mem} {v0 v1 v2 : Int} {σ : Mem} (h : f_X12_read_b0 v0 v1 v2 σ = some o) : E sc (Fm Sh (some (1, o.1)) Sh o.2) mt_X12_read 3 Sh Sh 0 [(2, v0), (0, v1), (0, v2)] [] Sh σ := by
  unfold f_X12_read_b0 at h
  refine E_aload_n d_X12_read_0 rfl (by decide) ?_
  refine E_iconst d_X12_read_1 (c32 rfl) ?_
  refine E_put d_X12_read_2 okX12 fl_X12_70 ⟨by decide, rfl⟩ (Or.inl ⟨rfl, rfl⟩) (Or.inl rfl) h (fun σ1 h => ?_)
  refine E_aload_n d_X12_read_5 rfl (by decide) ?_
  refine E_aload_n d_X12_read_6 rfl (by decide) ?_
  refine E_iload_n d_X12_read_7 rfl ?_
  refine E_iload_n d_X12_read_8 rfl ?_
  refine bd h (fun r2 q3 h => ?_)
  refine E_cV (as := [(0, v1), (0, v2)]) (st := [(2, v0)]) (a := v0) d_X12_read_9 mk_X12_placed nl_X12_93 (by omega) ⟨rfl, rfl, Nat.le_of_ble_eq_true rfl⟩ okX12 rfl (L_X12_placed q3) ?_
  refine E_put d_X12_read_12 okX12 fl_X12_73 ⟨by decide, rfl⟩ (Or.inl ⟨rfl, rfl⟩) (Or.inl rfl) h (fun σ4 h => ?_)
  refine E_aload_n d_X12_read_15 rfl (by decide) ?_
  refine E_get d_X12_read_16 okX12 fl_X12_73 ⟨by decide, rfl⟩ h (fun x5 h => ?_)
  refine E_if_le (tgt := 28) d_X12_read_19 (by decide) h (fun _ h => ?_) (fun _ h => ?_)
  · refine E_aload_n d_X12_read_28 rfl (by decide) ?_
    refine E_get d_X12_read_29 okX12 fl_X12_20 ⟨by decide, rfl⟩ h (fun x6 h => ?_)
    refine E_bipush d_X12_read_32 (c8 rfl) ?_
    refine E_iload_n d_X12_read_34 rfl ?_
    refine E_imul d_X12_read_35 ?_
    refine E_iload_n d_X12_read_36 rfl ?_
    refine E_iadd d_X12_read_37 ?_
    refine E_laload d_X12_read_38 h (fun x7 h => ?_)
    cases h
    exact E_lret d_X12_read_39 rfl
  · refine E_ldc2 d_X12_read_22 kw_X12_100 ?_
    refine E_goto (tgt := 39) d_X12_read_25 (by decide) ?_
    cases h
    exact E_lret d_X12_read_39 rfl
noncomputable def f_X12_read (v0 v1 v2 : Int) (σ : Mem) : Option (Int × Mem) := if isO Sh 12 v0 = true then f_X12_read_b0 v0 v1 v2 σ else none
theorem L_X12_read {o : Int × Mem} {v0 v1 v2 : Int} {σ : Mem} (h : f_X12_read v0 v1 v2 σ = some o) : (isO Sh 12 v0 = true ∧ Cn mt_X12_read 3 [(2, v0), (0, v1), (0, v2)] Sh σ (some (1, o.1)) Sh o.2) := ⟨(ite_ok h).1, Cn_of mk_X12_read.1.2.2.1 (Nat.le_of_ble_eq_true rfl) (fun sc => L_X12_read_b0 (ite_ok h).2)⟩
theorem d_X12_pour_0 : decode mt_X12_pour.2.1 0 = .ok (.aload_n 0, 1) := by decide +kernel
theorem d_X12_pour_1 : decode mt_X12_pour.2.1 1 = .ok (.iconst 0, 1) := by decide +kernel
theorem d_X12_pour_2 : decode mt_X12_pour.2.1 2 = .ok (.putfield 70, 3) := by decide +kernel
theorem d_X12_pour_5 : decode mt_X12_pour.2.1 5 = .ok (.aload_n 0, 1) := by decide +kernel
theorem d_X12_pour_6 : decode mt_X12_pour.2.1 6 = .ok (.iconst 0, 1) := by decide +kernel
theorem d_X12_pour_7 : decode mt_X12_pour.2.1 7 = .ok (.putfield 73, 3) := by decide +kernel
theorem d_X12_pour_10 : decode mt_X12_pour.2.1 10 = .ok (.iload_n 1, 1) := by decide +kernel
theorem d_X12_pour_11 : decode mt_X12_pour.2.1 11 = .ok (.ifCond .lt 17, 3) := by decide +kernel
theorem d_X12_pour_14 : decode mt_X12_pour.2.1 14 = .ok (.iload_n 1, 1) := by decide +kernel
theorem d_X12_pour_15 : decode mt_X12_pour.2.1 15 = .ok (.iconst 4, 1) := by decide +kernel
theorem d_X12_pour_16 : decode mt_X12_pour.2.1 16 = .ok (.if_icmp .ge 12, 3) := by decide +kernel
theorem d_X12_pour_19 : decode mt_X12_pour.2.1 19 = .ok (.iload_n 3, 1) := by decide +kernel
theorem d_X12_pour_20 : decode mt_X12_pour.2.1 20 = .ok (.ifCond .lt 8, 3) := by decide +kernel
theorem d_X12_pour_23 : decode mt_X12_pour.2.1 23 = .ok (.iload_n 3, 1) := by decide +kernel
theorem d_X12_pour_24 : decode mt_X12_pour.2.1 24 = .ok (.iconst 4, 1) := by decide +kernel
theorem d_X12_pour_25 : decode mt_X12_pour.2.1 25 = .ok (.if_icmp .lt 9, 3) := by decide +kernel
theorem d_X12_pour_28 : decode mt_X12_pour.2.1 28 = .ok (.aload_n 0, 1) := by decide +kernel
theorem d_X12_pour_29 : decode mt_X12_pour.2.1 29 = .ok (.iconst 1, 1) := by decide +kernel
theorem d_X12_pour_30 : decode mt_X12_pour.2.1 30 = .ok (.invokevirtual 85, 3) := by decide +kernel
theorem d_X12_pour_33 : decode mt_X12_pour.2.1 33 = .ok (.ireturn, 1) := by decide +kernel
theorem d_X12_pour_34 : decode mt_X12_pour.2.1 34 = .ok (.aload_n 0, 1) := by decide +kernel
theorem d_X12_pour_35 : decode mt_X12_pour.2.1 35 = .ok (.getfield 17, 3) := by decide +kernel
theorem d_X12_pour_38 : decode mt_X12_pour.2.1 38 = .ok (.iload_n 1, 1) := by decide +kernel
theorem d_X12_pour_39 : decode mt_X12_pour.2.1 39 = .ok (.iaload, 1) := by decide +kernel
theorem d_X12_pour_40 : decode mt_X12_pour.2.1 40 = .ok (.ifCond .lt 12, 3) := by decide +kernel
theorem d_X12_pour_43 : decode mt_X12_pour.2.1 43 = .ok (.aload_n 0, 1) := by decide +kernel
theorem d_X12_pour_44 : decode mt_X12_pour.2.1 44 = .ok (.getfield 17, 3) := by decide +kernel
theorem d_X12_pour_47 : decode mt_X12_pour.2.1 47 = .ok (.iload_n 3, 1) := by decide +kernel
theorem d_X12_pour_48 : decode mt_X12_pour.2.1 48 = .ok (.iaload, 1) := by decide +kernel
theorem d_X12_pour_49 : decode mt_X12_pour.2.1 49 = .ok (.ifCond .ge 9, 3) := by decide +kernel
theorem d_X12_pour_52 : decode mt_X12_pour.2.1 52 = .ok (.aload_n 0, 1) := by decide +kernel
theorem d_X12_pour_53 : decode mt_X12_pour.2.1 53 = .ok (.iconst 3, 1) := by decide +kernel
theorem d_X12_pour_54 : decode mt_X12_pour.2.1 54 = .ok (.invokevirtual 85, 3) := by decide +kernel
theorem d_X12_pour_57 : decode mt_X12_pour.2.1 57 = .ok (.ireturn, 1) := by decide +kernel
theorem d_X12_pour_58 : decode mt_X12_pour.2.1 58 = .ok (.aload_n 0, 1) := by decide +kernel
theorem d_X12_pour_59 : decode mt_X12_pour.2.1 59 = .ok (.getfield 13, 3) := by decide +kernel
theorem d_X12_pour_62 : decode mt_X12_pour.2.1 62 = .ok (.iload_n 1, 1) := by decide +kernel
theorem d_X12_pour_63 : decode mt_X12_pour.2.1 63 = .ok (.iaload, 1) := by decide +kernel
theorem d_X12_pour_64 : decode mt_X12_pour.2.1 64 = .ok (.aload_n 0, 1) := by decide +kernel
theorem d_X12_pour_65 : decode mt_X12_pour.2.1 65 = .ok (.getfield 13, 3) := by decide +kernel
theorem d_X12_pour_68 : decode mt_X12_pour.2.1 68 = .ok (.iload_n 3, 1) := by decide +kernel
theorem d_X12_pour_69 : decode mt_X12_pour.2.1 69 = .ok (.iaload, 1) := by decide +kernel
theorem d_X12_pour_70 : decode mt_X12_pour.2.1 70 = .ok (.if_icmp .eq 10, 3) := by decide +kernel
theorem d_X12_pour_73 : decode mt_X12_pour.2.1 73 = .ok (.aload_n 0, 1) := by decide +kernel
theorem d_X12_pour_74 : decode mt_X12_pour.2.1 74 = .ok (.bipush 11, 2) := by decide +kernel
theorem d_X12_pour_76 : decode mt_X12_pour.2.1 76 = .ok (.invokevirtual 85, 3) := by decide +kernel
theorem d_X12_pour_79 : decode mt_X12_pour.2.1 79 = .ok (.ireturn, 1) := by decide +kernel
theorem d_X12_pour_80 : decode mt_X12_pour.2.1 80 = .ok (.iload 5, 2) := by decide +kernel
theorem d_X12_pour_82 : decode mt_X12_pour.2.1 82 = .ok (.ifCond .ge 10, 3) := by decide +kernel
theorem d_X12_pour_85 : decode mt_X12_pour.2.1 85 = .ok (.aload_n 0, 1) := by decide +kernel
theorem d_X12_pour_86 : decode mt_X12_pour.2.1 86 = .ok (.bipush 6, 2) := by decide +kernel
theorem d_X12_pour_88 : decode mt_X12_pour.2.1 88 = .ok (.invokevirtual 85, 3) := by decide +kernel
theorem d_X12_pour_91 : decode mt_X12_pour.2.1 91 = .ok (.ireturn, 1) := by decide +kernel
theorem d_X12_pour_92 : decode mt_X12_pour.2.1 92 = .ok (.iload_n 2, 1) := by decide +kernel
theorem d_X12_pour_93 : decode mt_X12_pour.2.1 93 = .ok (.ifCond .lt 43, 3) := by decide +kernel
theorem d_X12_pour_96 : decode mt_X12_pour.2.1 96 = .ok (.iload 4, 2) := by decide +kernel
theorem d_X12_pour_98 : decode mt_X12_pour.2.1 98 = .ok (.ifCond .lt 38, 3) := by decide +kernel
theorem d_X12_pour_101 : decode mt_X12_pour.2.1 101 = .ok (.iload_n 2, 1) := by decide +kernel
theorem d_X12_pour_102 : decode mt_X12_pour.2.1 102 = .ok (.i2l, 1) := by decide +kernel
theorem d_X12_pour_103 : decode mt_X12_pour.2.1 103 = .ok (.iload 5, 2) := by decide +kernel
theorem d_X12_pour_105 : decode mt_X12_pour.2.1 105 = .ok (.i2l, 1) := by decide +kernel
theorem d_X12_pour_106 : decode mt_X12_pour.2.1 106 = .ok (.ladd, 1) := by decide +kernel
theorem d_X12_pour_107 : decode mt_X12_pour.2.1 107 = .ok (.aload_n 0, 1) := by decide +kernel
theorem d_X12_pour_108 : decode mt_X12_pour.2.1 108 = .ok (.getfield 17, 3) := by decide +kernel
theorem d_X12_pour_111 : decode mt_X12_pour.2.1 111 = .ok (.iload_n 1, 1) := by decide +kernel
theorem d_X12_pour_112 : decode mt_X12_pour.2.1 112 = .ok (.iaload, 1) := by decide +kernel
theorem d_X12_pour_113 : decode mt_X12_pour.2.1 113 = .ok (.i2l, 1) := by decide +kernel
theorem d_X12_pour_114 : decode mt_X12_pour.2.1 114 = .ok (.lcmp, 1) := by decide +kernel
theorem d_X12_pour_115 : decode mt_X12_pour.2.1 115 = .ok (.ifCond .gt 21, 3) := by decide +kernel
theorem d_X12_pour_118 : decode mt_X12_pour.2.1 118 = .ok (.iload 4, 2) := by decide +kernel
theorem d_X12_pour_120 : decode mt_X12_pour.2.1 120 = .ok (.i2l, 1) := by decide +kernel
theorem d_X12_pour_121 : decode mt_X12_pour.2.1 121 = .ok (.iload 5, 2) := by decide +kernel
theorem d_X12_pour_123 : decode mt_X12_pour.2.1 123 = .ok (.i2l, 1) := by decide +kernel
theorem d_X12_pour_124 : decode mt_X12_pour.2.1 124 = .ok (.ladd, 1) := by decide +kernel
theorem d_X12_pour_125 : decode mt_X12_pour.2.1 125 = .ok (.aload_n 0, 1) := by decide +kernel
theorem d_X12_pour_126 : decode mt_X12_pour.2.1 126 = .ok (.getfield 17, 3) := by decide +kernel
theorem d_X12_pour_129 : decode mt_X12_pour.2.1 129 = .ok (.iload_n 3, 1) := by decide +kernel
theorem d_X12_pour_130 : decode mt_X12_pour.2.1 130 = .ok (.iaload, 1) := by decide +kernel
theorem d_X12_pour_131 : decode mt_X12_pour.2.1 131 = .ok (.i2l, 1) := by decide +kernel
theorem d_X12_pour_132 : decode mt_X12_pour.2.1 132 = .ok (.lcmp, 1) := by decide +kernel
theorem d_X12_pour_133 : decode mt_X12_pour.2.1 133 = .ok (.ifCond .le 9, 3) := by decide +kernel
theorem d_X12_pour_136 : decode mt_X12_pour.2.1 136 = .ok (.aload_n 0, 1) := by decide +kernel
theorem d_X12_pour_137 : decode mt_X12_pour.2.1 137 = .ok (.iconst 4, 1) := by decide +kernel
theorem d_X12_pour_138 : decode mt_X12_pour.2.1 138 = .ok (.invokevirtual 85, 3) := by decide +kernel
theorem d_X12_pour_141 : decode mt_X12_pour.2.1 141 = .ok (.ireturn, 1) := by decide +kernel
theorem d_X12_pour_142 : decode mt_X12_pour.2.1 142 = .ok (.iload_n 2, 1) := by decide +kernel
theorem d_X12_pour_143 : decode mt_X12_pour.2.1 143 = .ok (.iload 4, 2) := by decide +kernel
theorem d_X12_pour_145 : decode mt_X12_pour.2.1 145 = .ok (.if_icmp .ge 7, 3) := by decide +kernel
theorem d_X12_pour_148 : decode mt_X12_pour.2.1 148 = .ok (.iconst 1, 1) := by decide +kernel
theorem d_X12_pour_149 : decode mt_X12_pour.2.1 149 = .ok (.goto 4, 3) := by decide +kernel
theorem d_X12_pour_152 : decode mt_X12_pour.2.1 152 = .ok (.iconst 0, 1) := by decide +kernel
theorem d_X12_pour_153 : decode mt_X12_pour.2.1 153 = .ok (.istore 6, 2) := by decide +kernel
theorem d_X12_pour_155 : decode mt_X12_pour.2.1 155 = .ok (.iconst 0, 1) := by decide +kernel
theorem d_X12_pour_156 : decode mt_X12_pour.2.1 156 = .ok (.istore 7, 2) := by decide +kernel
theorem d_X12_pour_158 : decode mt_X12_pour.2.1 158 = .ok (.iload 7, 2) := by decide +kernel
theorem d_X12_pour_160 : decode mt_X12_pour.2.1 160 = .ok (.iload 5, 2) := by decide +kernel
theorem d_X12_pour_162 : decode mt_X12_pour.2.1 162 = .ok (.if_icmp .ge 57, 3) := by decide +kernel
theorem d_X12_pour_165 : decode mt_X12_pour.2.1 165 = .ok (.iload 6, 2) := by decide +kernel
theorem d_X12_pour_167 : decode mt_X12_pour.2.1 167 = .ok (.ifCond .eq 13, 3) := by decide +kernel
theorem d_X12_pour_170 : decode mt_X12_pour.2.1 170 = .ok (.iload 5, 2) := by decide +kernel
theorem d_X12_pour_172 : decode mt_X12_pour.2.1 172 = .ok (.iconst 1, 1) := by decide +kernel
theorem d_X12_pour_173 : decode mt_X12_pour.2.1 173 = .ok (.isub, 1) := by decide +kernel
theorem d_X12_pour_174 : decode mt_X12_pour.2.1 174 = .ok (.iload 7, 2) := by decide +kernel
theorem d_X12_pour_176 : decode mt_X12_pour.2.1 176 = .ok (.isub, 1) := by decide +kernel
theorem d_X12_pour_177 : decode mt_X12_pour.2.1 177 = .ok (.goto 5, 3) := by decide +kernel
theorem d_X12_pour_180 : decode mt_X12_pour.2.1 180 = .ok (.iload 7, 2) := by decide +kernel
theorem d_X12_pour_182 : decode mt_X12_pour.2.1 182 = .ok (.istore 8, 2) := by decide +kernel
theorem d_X12_pour_184 : decode mt_X12_pour.2.1 184 = .ok (.aload_n 0, 1) := by decide +kernel
theorem d_X12_pour_185 : decode mt_X12_pour.2.1 185 = .ok (.getfield 20, 3) := by decide +kernel
theorem d_X12_pour_188 : decode mt_X12_pour.2.1 188 = .ok (.bipush 60, 2) := by decide +kernel
theorem d_X12_pour_190 : decode mt_X12_pour.2.1 190 = .ok (.iload_n 3, 1) := by decide +kernel
theorem d_X12_pour_191 : decode mt_X12_pour.2.1 191 = .ok (.imul, 1) := by decide +kernel
theorem d_X12_pour_192 : decode mt_X12_pour.2.1 192 = .ok (.iload 4, 2) := by decide +kernel
theorem d_X12_pour_194 : decode mt_X12_pour.2.1 194 = .ok (.iadd, 1) := by decide +kernel
theorem d_X12_pour_195 : decode mt_X12_pour.2.1 195 = .ok (.iload 8, 2) := by decide +kernel
theorem d_X12_pour_197 : decode mt_X12_pour.2.1 197 = .ok (.iadd, 1) := by decide +kernel
theorem d_X12_pour_198 : decode mt_X12_pour.2.1 198 = .ok (.aload_n 0, 1) := by decide +kernel
theorem d_X12_pour_199 : decode mt_X12_pour.2.1 199 = .ok (.getfield 20, 3) := by decide +kernel
theorem d_X12_pour_202 : decode mt_X12_pour.2.1 202 = .ok (.bipush 60, 2) := by decide +kernel
theorem d_X12_pour_204 : decode mt_X12_pour.2.1 204 = .ok (.iload_n 1, 1) := by decide +kernel
theorem d_X12_pour_205 : decode mt_X12_pour.2.1 205 = .ok (.imul, 1) := by decide +kernel
theorem d_X12_pour_206 : decode mt_X12_pour.2.1 206 = .ok (.iload_n 2, 1) := by decide +kernel
theorem d_X12_pour_207 : decode mt_X12_pour.2.1 207 = .ok (.iadd, 1) := by decide +kernel
theorem d_X12_pour_208 : decode mt_X12_pour.2.1 208 = .ok (.iload 8, 2) := by decide +kernel
theorem d_X12_pour_210 : decode mt_X12_pour.2.1 210 = .ok (.iadd, 1) := by decide +kernel
theorem d_X12_pour_211 : decode mt_X12_pour.2.1 211 = .ok (.laload, 1) := by decide +kernel
theorem d_X12_pour_212 : decode mt_X12_pour.2.1 212 = .ok (.lastore, 1) := by decide +kernel
theorem d_X12_pour_213 : decode mt_X12_pour.2.1 213 = .ok (.iinc 7 1, 3) := by decide +kernel
theorem d_X12_pour_216 : decode mt_X12_pour.2.1 216 = .ok (.goto (-58), 3) := by decide +kernel
theorem d_X12_pour_219 : decode mt_X12_pour.2.1 219 = .ok (.iconst 1, 1) := by decide +kernel
theorem d_X12_pour_220 : decode mt_X12_pour.2.1 220 = .ok (.ireturn, 1) := by decide +kernel
noncomputable def f_X12_pour_b28 (v0 : Int) (σ : Mem) : Option (Int × Mem) :=
  (f_X12_no v0 1 σ).bind fun r21 =>
  (bz r21.1).bind fun _ =>
  some (r21.1, r21.2)
theorem L_X12_pour_b28 {sc : Nat × (Nat → Int32)} {o : Int × Mem} {v0 : Int} {σ : Mem} (h : f_X12_pour_b28 v0 σ = some o) : E sc (Fm Sh (some (0, o.1)) Sh o.2) mt_X12_pour 2 Sh Sh 28 [(2, v0), (9, 0), (9, 0), (9, 0), (9, 0), (9, 0), (9, 0), (9, 0), (9, 0)] [] Sh σ := by
  unfold f_X12_pour_b28 at h
  refine E_aload_n d_X12_pour_28 rfl (by decide) ?_
  refine E_iconst d_X12_pour_29 (c32 rfl) ?_
  refine bd h (fun r21 q22 h => ?_)
  refine E_cV (as := [(0, 1)]) (st := []) (a := v0) d_X12_pour_30 mk_X12_no nl_X12_85 (by omega) ⟨rfl, rfl, Nat.le_of_ble_eq_true rfl⟩ okX12 rfl (L_X12_no q22) ?_
  refine bd_bz h (fun q23 h => ?_)
  cases h
  exact E_zret d_X12_pour_33 rfl q23
noncomputable def f_X12_pour_b52 (v0 : Int) (σ : Mem) : Option (Int × Mem) :=
  (f_X12_no v0 3 σ).bind fun r24 =>
  (bz r24.1).bind fun _ =>
  some (r24.1, r24.2)
theorem L_X12_pour_b52 {sc : Nat × (Nat → Int32)} {o : Int × Mem} {v0 : Int} {σ : Mem} (h : f_X12_pour_b52 v0 σ = some o) : E sc (Fm Sh (some (0, o.1)) Sh o.2) mt_X12_pour 2 Sh Sh 52 [(2, v0), (9, 0), (9, 0), (9, 0), (9, 0), (9, 0), (9, 0), (9, 0), (9, 0)] [] Sh σ := by
  unfold f_X12_pour_b52 at h
  refine E_aload_n d_X12_pour_52 rfl (by decide) ?_
  refine E_iconst d_X12_pour_53 (c32 rfl) ?_
  refine bd h (fun r24 q25 h => ?_)
  refine E_cV (as := [(0, 3)]) (st := []) (a := v0) d_X12_pour_54 mk_X12_no nl_X12_85 (by omega) ⟨rfl, rfl, Nat.le_of_ble_eq_true rfl⟩ okX12 rfl (L_X12_no q25) ?_
  refine bd_bz h (fun q26 h => ?_)
  cases h
  exact E_zret d_X12_pour_57 rfl q26
noncomputable def f_X12_pour_b136 (v0 : Int) (σ : Mem) : Option (Int × Mem) :=
  (f_X12_no v0 4 σ).bind fun r27 =>
  (bz r27.1).bind fun _ =>
  some (r27.1, r27.2)
theorem L_X12_pour_b136 {sc : Nat × (Nat → Int32)} {o : Int × Mem} {v0 : Int} {σ : Mem} (h : f_X12_pour_b136 v0 σ = some o) : E sc (Fm Sh (some (0, o.1)) Sh o.2) mt_X12_pour 2 Sh Sh 136 [(2, v0), (9, 0), (9, 0), (9, 0), (9, 0), (9, 0), (9, 0), (9, 0), (9, 0)] [] Sh σ := by
  unfold f_X12_pour_b136 at h
  refine E_aload_n d_X12_pour_136 rfl (by decide) ?_
  refine E_iconst d_X12_pour_137 (c32 rfl) ?_
  refine bd h (fun r27 q28 h => ?_)
  refine E_cV (as := [(0, 4)]) (st := []) (a := v0) d_X12_pour_138 mk_X12_no nl_X12_85 (by omega) ⟨rfl, rfl, Nat.le_of_ble_eq_true rfl⟩ okX12 rfl (L_X12_no q28) ?_
  refine bd_bz h (fun q29 h => ?_)
  cases h
  exact E_zret d_X12_pour_141 rfl q29
noncomputable def f_X12_pour_b182 (k158 : (Int → Int → Int → Int → Int → Int → Int → Int → Mem → Option (Int × Mem))) (v0 v1 v2 v3 v4 v5 v6 v7 s0 : Int) (σ : Mem) : Option (Int × Mem) :=
  (gf Sh σ 12 v0 6).bind fun x30 =>
  (gf Sh σ 12 v0 6).bind fun x31 =>
  (al Sh σ 21 x31 (w32 (w32 (w32 (60 * v1) + v2) + s0))).bind fun x32 =>
  (st_ Sh σ 21 x30 (w32 (w32 (w32 (60 * v3) + v4) + s0)) x32).bind fun σ33 =>
  k158 v0 v1 v2 v3 v4 v5 v6 (w32 (v7 + 1)) σ33
theorem L_X12_pour_b182 {sc : Nat × (Nat → Int32)} {o : Int × Mem} {k158 : (Int → Int → Int → Int → Int → Int → Int → Int → Mem → Option (Int × Mem))} (hk158 : ∀ {v0 v1 v2 v3 v4 v5 v6 v7 : Int} {σ : Mem}, k158 v0 v1 v2 v3 v4 v5 v6 v7 σ = some o → E sc (Fm Sh (some (0, o.1)) Sh o.2) mt_X12_pour 2 Sh Sh 158 [(2, v0), (0, v1), (0, v2), (0, v3), (0, v4), (0, v5), (0, v6), (0, v7), (9, 0)] [] Sh σ) {v0 v1 v2 v3 v4 v5 v6 v7 s0 : Int} {σ : Mem} (h : f_X12_pour_b182 k158 v0 v1 v2 v3 v4 v5 v6 v7 s0 σ = some o) : E sc (Fm Sh (some (0, o.1)) Sh o.2) mt_X12_pour 2 Sh Sh 182 [(2, v0), (0, v1), (0, v2), (0, v3), (0, v4), (0, v5), (0, v6), (0, v7), (9, 0)] [(0, s0)] Sh σ := by
  unfold f_X12_pour_b182 at h
  refine E_istore d_X12_pour_182 (ls' := [(2, v0), (0, v1), (0, v2), (0, v3), (0, v4), (0, v5), (0, v6), (0, v7), (0, s0)]) ⟨by decide, rfl⟩ ?_
  refine E_aload_n d_X12_pour_184 rfl (by decide) ?_
  refine E_get d_X12_pour_185 okX12 fl_X12_20 ⟨by decide, rfl⟩ h (fun x30 h => ?_)
  refine E_bipush d_X12_pour_188 (c8 rfl) ?_
  refine E_iload_n d_X12_pour_190 rfl ?_
  refine E_imul d_X12_pour_191 ?_
  refine E_iload d_X12_pour_192 rfl ?_
  refine E_iadd d_X12_pour_194 ?_
  refine E_iload d_X12_pour_195 rfl ?_
  refine E_iadd d_X12_pour_197 ?_
  refine E_aload_n d_X12_pour_198 rfl (by decide) ?_
  refine E_get d_X12_pour_199 okX12 fl_X12_20 ⟨by decide, rfl⟩ h (fun x31 h => ?_)
  refine E_bipush d_X12_pour_202 (c8 rfl) ?_
  refine E_iload_n d_X12_pour_204 rfl ?_
  refine E_imul d_X12_pour_205 ?_
  refine E_iload_n d_X12_pour_206 rfl ?_
  refine E_iadd d_X12_pour_207 ?_
  refine E_iload d_X12_pour_208 rfl ?_
  refine E_iadd d_X12_pour_210 ?_
  refine E_laload d_X12_pour_211 h (fun x32 h => ?_)
  refine E_lastore d_X12_pour_212 h (fun σ33 h => ?_)
  refine E_iinc d_X12_pour_213 (ls' := [(2, v0), (0, v1), (0, v2), (0, v3), (0, v4), (0, v5), (0, v6), (0, w32 (v7 + 1)), (0, s0)]) rfl ⟨by decide, rfl⟩ ?_
  refine E_goto (tgt := 158) d_X12_pour_216 (by decide) ?_
  exact E_weak (ls' := [(2, v0), (0, v1), (0, v2), (0, v3), (0, v4), (0, v5), (0, v6), (0, w32 (v7 + 1)), (9, 0)]) ⟨Or.inr rfl, Or.inr rfl, Or.inr rfl, Or.inr rfl, Or.inr rfl, Or.inr rfl, Or.inr rfl, Or.inr rfl, Or.inl rfl, trivial⟩ (hk158 h)
noncomputable def f_X12_pour_b158 (k158 : (Int → Int → Int → Int → Int → Int → Int → Int → Mem → Option (Int × Mem))) (v0 v1 v2 v3 v4 v5 v6 v7 : Int) (σ : Mem) : Option (Int × Mem) :=
  if v5 ≤ v7 then
    some (1, σ)
  else
    if v6 = 0 then
      f_X12_pour_b182 k158 v0 v1 v2 v3 v4 v5 v6 v7 v7 σ
    else
      f_X12_pour_b182 k158 v0 v1 v2 v3 v4 v5 v6 v7 (w32 (w32 (v5 - 1) - v7)) σ
theorem L_X12_pour_b158 {sc : Nat × (Nat → Int32)} {o : Int × Mem} {k158 : (Int → Int → Int → Int → Int → Int → Int → Int → Mem → Option (Int × Mem))} (hk158 : ∀ {v0 v1 v2 v3 v4 v5 v6 v7 : Int} {σ : Mem}, k158 v0 v1 v2 v3 v4 v5 v6 v7 σ = some o → E sc (Fm Sh (some (0, o.1)) Sh o.2) mt_X12_pour 2 Sh Sh 158 [(2, v0), (0, v1), (0, v2), (0, v3), (0, v4), (0, v5), (0, v6), (0, v7), (9, 0)] [] Sh σ) {v0 v1 v2 v3 v4 v5 v6 v7 : Int} {σ : Mem} (h : f_X12_pour_b158 k158 v0 v1 v2 v3 v4 v5 v6 v7 σ = some o) : E sc (Fm Sh (some (0, o.1)) Sh o.2) mt_X12_pour 2 Sh Sh 158 [(2, v0), (0, v1), (0, v2), (0, v3), (0, v4), (0, v5), (0, v6), (0, v7), (9, 0)] [] Sh σ := by
  unfold f_X12_pour_b158 at h
  refine E_iload d_X12_pour_158 rfl ?_
  refine E_iload d_X12_pour_160 rfl ?_
  refine E_icmp_ge (tgt := 219) d_X12_pour_162 (by decide) h (fun _ h => ?_) (fun _ h => ?_)
  · refine E_iconst d_X12_pour_219 (c32 rfl) ?_
    cases h
    exact E_zret d_X12_pour_220 rfl (Or.inr rfl)
  · refine E_iload d_X12_pour_165 rfl ?_
    refine E_if_eq (tgt := 180) d_X12_pour_167 (by decide) h (fun _ h => ?_) (fun _ h => ?_)
    · refine E_iload d_X12_pour_180 rfl ?_
      exact (L_X12_pour_b182 hk158 h)
    · refine E_iload d_X12_pour_170 rfl ?_
      refine E_iconst d_X12_pour_172 (c32 rfl) ?_
      refine E_isub d_X12_pour_173 ?_
      refine E_iload d_X12_pour_174 rfl ?_
      refine E_isub d_X12_pour_176 ?_
      refine E_goto (tgt := 182) d_X12_pour_177 (by decide) ?_
      exact (L_X12_pour_b182 hk158 h)
noncomputable def f_X12_pour_h158 (n : Nat) : Int → Int → Int → Int → Int → Int → Int → Int → Mem → Option (Int × Mem) := Nat.rec (motive := fun _ => Int → Int → Int → Int → Int → Int → Int → Int → Mem → Option (Int × Mem)) (fun _ _ _ _ _ _ _ _ _ => none) (fun _ ih => f_X12_pour_b158 (ih)) n
theorem L_X12_pour_h158 {sc : Nat × (Nat → Int32)} {o : Int × Mem} : ∀ (n : Nat) {v0 v1 v2 v3 v4 v5 v6 v7 : Int} {σ : Mem}, f_X12_pour_h158 n v0 v1 v2 v3 v4 v5 v6 v7 σ = some o → E sc (Fm Sh (some (0, o.1)) Sh o.2) mt_X12_pour 2 Sh Sh 158 [(2, v0), (0, v1), (0, v2), (0, v3), (0, v4), (0, v5), (0, v6), (0, v7), (9, 0)] [] Sh σ := by
  intro n
  induction n with
  | zero => intro v0 v1 v2 v3 v4 v5 v6 v7 σ h; cases h
  | succ n ih => intro v0 v1 v2 v3 v4 v5 v6 v7 σ h; exact L_X12_pour_b158 (@ih) h
noncomputable def f_X12_pour_b153 (v0 v1 v2 v3 v4 v5 s0 : Int) (σ : Mem) : Option (Int × Mem) :=
  f_X12_pour_h158 FU v0 v1 v2 v3 v4 v5 s0 0 σ
theorem L_X12_pour_b153 {sc : Nat × (Nat → Int32)} {o : Int × Mem} {v0 v1 v2 v3 v4 v5 s0 : Int} {σ : Mem} (h : f_X12_pour_b153 v0 v1 v2 v3 v4 v5 s0 σ = some o) : E sc (Fm Sh (some (0, o.1)) Sh o.2) mt_X12_pour 2 Sh Sh 153 [(2, v0), (0, v1), (0, v2), (0, v3), (0, v4), (0, v5), (9, 0), (9, 0), (9, 0)] [(0, s0)] Sh σ := by
  unfold f_X12_pour_b153 at h
  refine E_istore d_X12_pour_153 (ls' := [(2, v0), (0, v1), (0, v2), (0, v3), (0, v4), (0, v5), (0, s0), (9, 0), (9, 0)]) ⟨by decide, rfl⟩ ?_
  refine E_iconst d_X12_pour_155 (c32 rfl) ?_
  refine E_istore d_X12_pour_156 (ls' := [(2, v0), (0, v1), (0, v2), (0, v3), (0, v4), (0, v5), (0, s0), (0, 0), (9, 0)]) ⟨by decide, rfl⟩ ?_
  exact (L_X12_pour_h158 FU h)
noncomputable def f_X12_pour_b0 (v0 v1 v2 v3 v4 v5 : Int) (σ : Mem) : Option (Int × Mem) :=
  (pf Sh σ 12 v0 1 0).bind fun σ1 =>
  (pf Sh σ1 12 v0 0 0).bind fun σ2 =>
  if v1 < 0 then
    f_X12_pour_b28 v0 σ2
  else
    if 4 ≤ v1 then
      f_X12_pour_b28 v0 σ2
    else
      if v3 < 0 then
        f_X12_pour_b28 v0 σ2
      else
        if v3 < 4 then
          (gf Sh σ2 12 v0 5).bind fun x3 =>
          (al Sh σ2 20 x3 v1).bind fun x4 =>
          if x4 < 0 then
            f_X12_pour_b52 v0 σ2
          else
            (gf Sh σ2 12 v0 5).bind fun x5 =>
            (al Sh σ2 20 x5 v3).bind fun x6 =>
            if 0 ≤ x6 then
              (gf Sh σ2 12 v0 4).bind fun x7 =>
              (al Sh σ2 20 x7 v1).bind fun x8 =>
              (gf Sh σ2 12 v0 4).bind fun x9 =>
              (al Sh σ2 20 x9 v3).bind fun x10 =>
              if x8 = x10 then
                if 0 ≤ v5 then
                  if v2 < 0 then
                    f_X12_pour_b136 v0 σ2
                  else
                    if v4 < 0 then
                      f_X12_pour_b136 v0 σ2
                    else
                      (gf Sh σ2 12 v0 5).bind fun x11 =>
                      (al Sh σ2 20 x11 v1).bind fun x12 =>
                      if 0 < lcmp (w64 (v2 + v5)) x12 then
                        f_X12_pour_b136 v0 σ2
                      else
                        (gf Sh σ2 12 v0 5).bind fun x13 =>
                        (al Sh σ2 20 x13 v3).bind fun x14 =>
                        if lcmp (w64 (v4 + v5)) x14 ≤ 0 then
                          if v4 ≤ v2 then
                            f_X12_pour_b153 v0 v1 v2 v3 v4 v5 0 σ2
                          else
                            f_X12_pour_b153 v0 v1 v2 v3 v4 v5 1 σ2
                        else
                          f_X12_pour_b136 v0 σ2
                else
                  (f_X12_no v0 6 σ2).bind fun r15 =>
                  (bz r15.1).bind fun _ =>
                  some (r15.1, r15.2)
              else
                (f_X12_no v0 11 σ2).bind fun r18 =>
                (bz r18.1).bind fun _ =>
                some (r18.1, r18.2)
            else
              f_X12_pour_b52 v0 σ2
        else
          f_X12_pour_b28 v0 σ2
theorem L_X12_pour_b0 {sc : Nat × (Nat → Int32)} {o : Int × Mem} {v0 v1 v2 v3 v4 v5 : Int} {σ : Mem} (h : f_X12_pour_b0 v0 v1 v2 v3 v4 v5 σ = some o) : E sc (Fm Sh (some (0, o.1)) Sh o.2) mt_X12_pour 2 Sh Sh 0 [(2, v0), (0, v1), (0, v2), (0, v3), (0, v4), (0, v5), (9, 0), (9, 0), (9, 0)] [] Sh σ := by
  unfold f_X12_pour_b0 at h
  refine E_aload_n d_X12_pour_0 rfl (by decide) ?_
  refine E_iconst d_X12_pour_1 (c32 rfl) ?_
  refine E_put d_X12_pour_2 okX12 fl_X12_70 ⟨by decide, rfl⟩ (Or.inl ⟨rfl, rfl⟩) (Or.inl rfl) h (fun σ1 h => ?_)
  refine E_aload_n d_X12_pour_5 rfl (by decide) ?_
  refine E_iconst d_X12_pour_6 (c32 rfl) ?_
  refine E_put d_X12_pour_7 okX12 fl_X12_73 ⟨by decide, rfl⟩ (Or.inl ⟨rfl, rfl⟩) (Or.inl rfl) h (fun σ2 h => ?_)
  refine E_iload_n d_X12_pour_10 rfl ?_
  refine E_if_lt (tgt := 28) d_X12_pour_11 (by decide) h (fun _ h => ?_) (fun _ h => ?_)
  · exact E_weak (ls' := [(2, v0), (9, 0), (9, 0), (9, 0), (9, 0), (9, 0), (9, 0), (9, 0), (9, 0)]) ⟨Or.inr rfl, Or.inl rfl, Or.inl rfl, Or.inl rfl, Or.inl rfl, Or.inl rfl, Or.inl rfl, Or.inl rfl, Or.inl rfl, trivial⟩ (L_X12_pour_b28 h)
  · refine E_iload_n d_X12_pour_14 rfl ?_
    refine E_iconst d_X12_pour_15 (c32 rfl) ?_
    refine E_icmp_ge (tgt := 28) d_X12_pour_16 (by decide) h (fun _ h => ?_) (fun _ h => ?_)
    · exact E_weak (ls' := [(2, v0), (9, 0), (9, 0), (9, 0), (9, 0), (9, 0), (9, 0), (9, 0), (9, 0)]) ⟨Or.inr rfl, Or.inl rfl, Or.inl rfl, Or.inl rfl, Or.inl rfl, Or.inl rfl, Or.inl rfl, Or.inl rfl, Or.inl rfl, trivial⟩ (L_X12_pour_b28 h)
    · refine E_iload_n d_X12_pour_19 rfl ?_
      refine E_if_lt (tgt := 28) d_X12_pour_20 (by decide) h (fun _ h => ?_) (fun _ h => ?_)
      · exact E_weak (ls' := [(2, v0), (9, 0), (9, 0), (9, 0), (9, 0), (9, 0), (9, 0), (9, 0), (9, 0)]) ⟨Or.inr rfl, Or.inl rfl, Or.inl rfl, Or.inl rfl, Or.inl rfl, Or.inl rfl, Or.inl rfl, Or.inl rfl, Or.inl rfl, trivial⟩ (L_X12_pour_b28 h)
      · refine E_iload_n d_X12_pour_23 rfl ?_
        refine E_iconst d_X12_pour_24 (c32 rfl) ?_
        refine E_icmp_lt (tgt := 34) d_X12_pour_25 (by decide) h (fun _ h => ?_) (fun _ h => ?_)
        · refine E_aload_n d_X12_pour_34 rfl (by decide) ?_
          refine E_get d_X12_pour_35 okX12 fl_X12_17 ⟨by decide, rfl⟩ h (fun x3 h => ?_)
          refine E_iload_n d_X12_pour_38 rfl ?_
          refine E_iaload d_X12_pour_39 h (fun x4 h => ?_)
          refine E_if_lt (tgt := 52) d_X12_pour_40 (by decide) h (fun _ h => ?_) (fun _ h => ?_)
          · exact E_weak (ls' := [(2, v0), (9, 0), (9, 0), (9, 0), (9, 0), (9, 0), (9, 0), (9, 0), (9, 0)]) ⟨Or.inr rfl, Or.inl rfl, Or.inl rfl, Or.inl rfl, Or.inl rfl, Or.inl rfl, Or.inl rfl, Or.inl rfl, Or.inl rfl, trivial⟩ (L_X12_pour_b52 h)
          · refine E_aload_n d_X12_pour_43 rfl (by decide) ?_
            refine E_get d_X12_pour_44 okX12 fl_X12_17 ⟨by decide, rfl⟩ h (fun x5 h => ?_)
            refine E_iload_n d_X12_pour_47 rfl ?_
            refine E_iaload d_X12_pour_48 h (fun x6 h => ?_)
            refine E_if_ge (tgt := 58) d_X12_pour_49 (by decide) h (fun _ h => ?_) (fun _ h => ?_)
            · refine E_aload_n d_X12_pour_58 rfl (by decide) ?_
              refine E_get d_X12_pour_59 okX12 fl_X12_13 ⟨by decide, rfl⟩ h (fun x7 h => ?_)
              refine E_iload_n d_X12_pour_62 rfl ?_
              refine E_iaload d_X12_pour_63 h (fun x8 h => ?_)
              refine E_aload_n d_X12_pour_64 rfl (by decide) ?_
              refine E_get d_X12_pour_65 okX12 fl_X12_13 ⟨by decide, rfl⟩ h (fun x9 h => ?_)
              refine E_iload_n d_X12_pour_68 rfl ?_
              refine E_iaload d_X12_pour_69 h (fun x10 h => ?_)
              refine E_icmp_eq (tgt := 80) d_X12_pour_70 (by decide) h (fun _ h => ?_) (fun _ h => ?_)
              · refine E_iload d_X12_pour_80 rfl ?_
                refine E_if_ge (tgt := 92) d_X12_pour_82 (by decide) h (fun _ h => ?_) (fun _ h => ?_)
                · refine E_iload_n d_X12_pour_92 rfl ?_
                  refine E_if_lt (tgt := 136) d_X12_pour_93 (by decide) h (fun _ h => ?_) (fun _ h => ?_)
                  · exact E_weak (ls' := [(2, v0), (9, 0), (9, 0), (9, 0), (9, 0), (9, 0), (9, 0), (9, 0), (9, 0)]) ⟨Or.inr rfl, Or.inl rfl, Or.inl rfl, Or.inl rfl, Or.inl rfl, Or.inl rfl, Or.inl rfl, Or.inl rfl, Or.inl rfl, trivial⟩ (L_X12_pour_b136 h)
                  · refine E_iload d_X12_pour_96 rfl ?_
                    refine E_if_lt (tgt := 136) d_X12_pour_98 (by decide) h (fun _ h => ?_) (fun _ h => ?_)
                    · exact E_weak (ls' := [(2, v0), (9, 0), (9, 0), (9, 0), (9, 0), (9, 0), (9, 0), (9, 0), (9, 0)]) ⟨Or.inr rfl, Or.inl rfl, Or.inl rfl, Or.inl rfl, Or.inl rfl, Or.inl rfl, Or.inl rfl, Or.inl rfl, Or.inl rfl, trivial⟩ (L_X12_pour_b136 h)
                    · refine E_iload_n d_X12_pour_101 rfl ?_
                      refine E_i2l d_X12_pour_102 ?_
                      refine E_iload d_X12_pour_103 rfl ?_
                      refine E_i2l d_X12_pour_105 ?_
                      refine E_ladd d_X12_pour_106 ?_
                      refine E_aload_n d_X12_pour_107 rfl (by decide) ?_
                      refine E_get d_X12_pour_108 okX12 fl_X12_17 ⟨by decide, rfl⟩ h (fun x11 h => ?_)
                      refine E_iload_n d_X12_pour_111 rfl ?_
                      refine E_iaload d_X12_pour_112 h (fun x12 h => ?_)
                      refine E_i2l d_X12_pour_113 ?_
                      refine E_lcmp d_X12_pour_114 ?_
                      refine E_if_gt (tgt := 136) d_X12_pour_115 (by decide) h (fun _ h => ?_) (fun _ h => ?_)
                      · exact E_weak (ls' := [(2, v0), (9, 0), (9, 0), (9, 0), (9, 0), (9, 0), (9, 0), (9, 0), (9, 0)]) ⟨Or.inr rfl, Or.inl rfl, Or.inl rfl, Or.inl rfl, Or.inl rfl, Or.inl rfl, Or.inl rfl, Or.inl rfl, Or.inl rfl, trivial⟩ (L_X12_pour_b136 h)
                      · refine E_iload d_X12_pour_118 rfl ?_
                        refine E_i2l d_X12_pour_120 ?_
                        refine E_iload d_X12_pour_121 rfl ?_
                        refine E_i2l d_X12_pour_123 ?_
                        refine E_ladd d_X12_pour_124 ?_
                        refine E_aload_n d_X12_pour_125 rfl (by decide) ?_
                        refine E_get d_X12_pour_126 okX12 fl_X12_17 ⟨by decide, rfl⟩ h (fun x13 h => ?_)
                        refine E_iload_n d_X12_pour_129 rfl ?_
                        refine E_iaload d_X12_pour_130 h (fun x14 h => ?_)
                        refine E_i2l d_X12_pour_131 ?_
                        refine E_lcmp d_X12_pour_132 ?_
                        refine E_if_le (tgt := 142) d_X12_pour_133 (by decide) h (fun _ h => ?_) (fun _ h => ?_)
                        · refine E_iload_n d_X12_pour_142 rfl ?_
                          refine E_iload d_X12_pour_143 rfl ?_
                          refine E_icmp_ge (tgt := 152) d_X12_pour_145 (by decide) h (fun _ h => ?_) (fun _ h => ?_)
                          · refine E_iconst d_X12_pour_152 (c32 rfl) ?_
                            exact (L_X12_pour_b153 h)
                          · refine E_iconst d_X12_pour_148 (c32 rfl) ?_
                            refine E_goto (tgt := 153) d_X12_pour_149 (by decide) ?_
                            exact (L_X12_pour_b153 h)
                        · exact E_weak (ls' := [(2, v0), (9, 0), (9, 0), (9, 0), (9, 0), (9, 0), (9, 0), (9, 0), (9, 0)]) ⟨Or.inr rfl, Or.inl rfl, Or.inl rfl, Or.inl rfl, Or.inl rfl, Or.inl rfl, Or.inl rfl, Or.inl rfl, Or.inl rfl, trivial⟩ (L_X12_pour_b136 h)
                · refine E_aload_n d_X12_pour_85 rfl (by decide) ?_
                  refine E_bipush d_X12_pour_86 (c8 rfl) ?_
                  refine bd h (fun r15 q16 h => ?_)
                  refine E_cV (as := [(0, 6)]) (st := []) (a := v0) d_X12_pour_88 mk_X12_no nl_X12_85 (by omega) ⟨rfl, rfl, Nat.le_of_ble_eq_true rfl⟩ okX12 rfl (L_X12_no q16) ?_
                  refine bd_bz h (fun q17 h => ?_)
                  cases h
                  exact E_zret d_X12_pour_91 rfl q17
              · refine E_aload_n d_X12_pour_73 rfl (by decide) ?_
                refine E_bipush d_X12_pour_74 (c8 rfl) ?_
                refine bd h (fun r18 q19 h => ?_)
                refine E_cV (as := [(0, 11)]) (st := []) (a := v0) d_X12_pour_76 mk_X12_no nl_X12_85 (by omega) ⟨rfl, rfl, Nat.le_of_ble_eq_true rfl⟩ okX12 rfl (L_X12_no q19) ?_
                refine bd_bz h (fun q20 h => ?_)
                cases h
                exact E_zret d_X12_pour_79 rfl q20
            · exact E_weak (ls' := [(2, v0), (9, 0), (9, 0), (9, 0), (9, 0), (9, 0), (9, 0), (9, 0), (9, 0)]) ⟨Or.inr rfl, Or.inl rfl, Or.inl rfl, Or.inl rfl, Or.inl rfl, Or.inl rfl, Or.inl rfl, Or.inl rfl, Or.inl rfl, trivial⟩ (L_X12_pour_b52 h)
        · exact E_weak (ls' := [(2, v0), (9, 0), (9, 0), (9, 0), (9, 0), (9, 0), (9, 0), (9, 0), (9, 0)]) ⟨Or.inr rfl, Or.inl rfl, Or.inl rfl, Or.inl rfl, Or.inl rfl, Or.inl rfl, Or.inl rfl, Or.inl rfl, Or.inl rfl, trivial⟩ (L_X12_pour_b28 h)
noncomputable def f_X12_pour (v0 v1 v2 v3 v4 v5 : Int) (σ : Mem) : Option (Int × Mem) := if isO Sh 12 v0 = true then f_X12_pour_b0 v0 v1 v2 v3 v4 v5 σ else none
theorem L_X12_pour {o : Int × Mem} {v0 v1 v2 v3 v4 v5 : Int} {σ : Mem} (h : f_X12_pour v0 v1 v2 v3 v4 v5 σ = some o) : (isO Sh 12 v0 = true ∧ Cn mt_X12_pour 2 [(2, v0), (0, v1), (0, v2), (0, v3), (0, v4), (0, v5)] Sh σ (some (0, o.1)) Sh o.2) := ⟨(ite_ok h).1, Cn_of mk_X12_pour.1.2.2.1 (Nat.le_of_ble_eq_true rfl) (fun sc => L_X12_pour_b0 (ite_ok h).2)⟩
theorem d_X12_lay_0 : decode mt_X12_lay.2.1 0 = .ok (.iconst 3, 1) := by decide +kernel
theorem d_X12_lay_1 : decode mt_X12_lay.2.1 1 = .ok (.istore_n 2, 1) := by decide +kernel
theorem d_X12_lay_2 : decode mt_X12_lay.2.1 2 = .ok (.iload_n 2, 1) := by decide +kernel
theorem d_X12_lay_3 : decode mt_X12_lay.2.1 3 = .ok (.ifCond .lt 35, 3) := by decide +kernel
theorem d_X12_lay_6 : decode mt_X12_lay.2.1 6 = .ok (.aload_n 0, 1) := by decide +kernel
theorem d_X12_lay_7 : decode mt_X12_lay.2.1 7 = .ok (.getfield 24, 3) := by decide +kernel
theorem d_X12_lay_10 : decode mt_X12_lay.2.1 10 = .ok (.aload_n 0, 1) := by decide +kernel
theorem d_X12_lay_11 : decode mt_X12_lay.2.1 11 = .ok (.getfield 223, 3) := by decide +kernel
theorem d_X12_lay_14 : decode mt_X12_lay.2.1 14 = .ok (.iload_n 1, 1) := by decide +kernel
theorem d_X12_lay_15 : decode mt_X12_lay.2.1 15 = .ok (.bipush 8, 2) := by decide +kernel
theorem d_X12_lay_17 : decode mt_X12_lay.2.1 17 = .ok (.iload_n 2, 1) := by decide +kernel
theorem d_X12_lay_18 : decode mt_X12_lay.2.1 18 = .ok (.imul, 1) := by decide +kernel
theorem d_X12_lay_19 : decode mt_X12_lay.2.1 19 = .ok (.ishr, 1) := by decide +kernel
theorem d_X12_lay_20 : decode mt_X12_lay.2.1 20 = .ok (.i2b, 1) := by decide +kernel
theorem d_X12_lay_21 : decode mt_X12_lay.2.1 21 = .ok (.bastore, 1) := by decide +kernel
theorem d_X12_lay_22 : decode mt_X12_lay.2.1 22 = .ok (.aload_n 0, 1) := by decide +kernel
theorem d_X12_lay_23 : decode mt_X12_lay.2.1 23 = .ok (.dup, 1) := by decide +kernel
theorem d_X12_lay_24 : decode mt_X12_lay.2.1 24 = .ok (.getfield 223, 3) := by decide +kernel
theorem d_X12_lay_27 : decode mt_X12_lay.2.1 27 = .ok (.iconst 1, 1) := by decide +kernel
theorem d_X12_lay_28 : decode mt_X12_lay.2.1 28 = .ok (.iadd, 1) := by decide +kernel
theorem d_X12_lay_29 : decode mt_X12_lay.2.1 29 = .ok (.putfield 223, 3) := by decide +kernel
theorem d_X12_lay_32 : decode mt_X12_lay.2.1 32 = .ok (.iinc 2 (-1), 3) := by decide +kernel
theorem d_X12_lay_35 : decode mt_X12_lay.2.1 35 = .ok (.goto (-33), 3) := by decide +kernel
theorem d_X12_lay_38 : decode mt_X12_lay.2.1 38 = .ok (.return_, 1) := by decide +kernel
noncomputable def f_X12_lay_b2 (k2 : (Int → Int → Int → Mem → Option (Mem))) (v0 v1 v2 : Int) (σ : Mem) : Option (Mem) :=
  if v2 < 0 then
    some σ
  else
    (gf Sh σ 12 v0 7).bind fun x1 =>
    (gf Sh σ 12 v0 8).bind fun x2 =>
    (st_ Sh σ 22 x1 x2 (w8 (w8 (ishr v1 (w32 (8 * v2)))))).bind fun σ3 =>
    (gf Sh σ3 12 v0 8).bind fun x4 =>
    (pf Sh σ3 12 v0 8 (w32 (x4 + 1))).bind fun σ5 =>
    k2 v0 v1 (w32 (v2 + (-1))) σ5
theorem L_X12_lay_b2 {sc : Nat × (Nat → Int32)} {o : Mem} {k2 : (Int → Int → Int → Mem → Option (Mem))} (hk2 : ∀ {v0 v1 v2 : Int} {σ : Mem}, k2 v0 v1 v2 σ = some o → E sc (Fm Sh none Sh o) mt_X12_lay 1 Sh Sh 2 [(2, v0), (0, v1), (0, v2)] [] Sh σ) {v0 v1 v2 : Int} {σ : Mem} (h : f_X12_lay_b2 k2 v0 v1 v2 σ = some o) : E sc (Fm Sh none Sh o) mt_X12_lay 1 Sh Sh 2 [(2, v0), (0, v1), (0, v2)] [] Sh σ := by
  unfold f_X12_lay_b2 at h
  refine E_iload_n d_X12_lay_2 rfl ?_
  refine E_if_lt (tgt := 38) d_X12_lay_3 (by decide) h (fun _ h => ?_) (fun _ h => ?_)
  · cases h
    exact E_vret d_X12_lay_38 rfl
  · refine E_aload_n d_X12_lay_6 rfl (by decide) ?_
    refine E_get d_X12_lay_7 okX12 fl_X12_24 ⟨by decide, rfl⟩ h (fun x1 h => ?_)
    refine E_aload_n d_X12_lay_10 rfl (by decide) ?_
    refine E_get d_X12_lay_11 okX12 fl_X12_223 ⟨by decide, rfl⟩ h (fun x2 h => ?_)
    refine E_iload_n d_X12_lay_14 rfl ?_
    refine E_bipush d_X12_lay_15 (c8 rfl) ?_
    refine E_iload_n d_X12_lay_17 rfl ?_
    refine E_imul d_X12_lay_18 ?_
    refine E_ishr d_X12_lay_19 ?_
    refine E_i2b d_X12_lay_20 ?_
    refine E_bastore d_X12_lay_21 h (fun σ3 h => ?_)
    refine E_aload_n d_X12_lay_22 rfl (by decide) ?_
    refine E_dupT d_X12_lay_23 (by decide) ?_
    refine E_get d_X12_lay_24 okX12 fl_X12_223 ⟨by decide, rfl⟩ h (fun x4 h => ?_)
    refine E_iconst d_X12_lay_27 (c32 rfl) ?_
    refine E_iadd d_X12_lay_28 ?_
    refine E_put d_X12_lay_29 okX12 fl_X12_223 ⟨by decide, rfl⟩ (Or.inl ⟨rfl, rfl⟩) (Or.inl rfl) h (fun σ5 h => ?_)
    refine E_iinc d_X12_lay_32 (ls' := [(2, v0), (0, v1), (0, w32 (v2 + (-1)))]) rfl ⟨by decide, rfl⟩ ?_
    refine E_goto (tgt := 2) d_X12_lay_35 (by decide) ?_
    exact (hk2 h)
noncomputable def f_X12_lay_h2 (n : Nat) : Int → Int → Int → Mem → Option (Mem) := Nat.rec (motive := fun _ => Int → Int → Int → Mem → Option (Mem)) (fun _ _ _ _ => none) (fun _ ih => f_X12_lay_b2 (ih)) n
theorem L_X12_lay_h2 {sc : Nat × (Nat → Int32)} {o : Mem} : ∀ (n : Nat) {v0 v1 v2 : Int} {σ : Mem}, f_X12_lay_h2 n v0 v1 v2 σ = some o → E sc (Fm Sh none Sh o) mt_X12_lay 1 Sh Sh 2 [(2, v0), (0, v1), (0, v2)] [] Sh σ := by
  intro n
  induction n with
  | zero => intro v0 v1 v2 σ h; cases h
  | succ n ih => intro v0 v1 v2 σ h; exact L_X12_lay_b2 (@ih) h
noncomputable def f_X12_lay_b0 (v0 v1 : Int) (σ : Mem) : Option (Mem) :=
  f_X12_lay_h2 FU v0 v1 3 σ
theorem L_X12_lay_b0 {sc : Nat × (Nat → Int32)} {o : Mem} {v0 v1 : Int} {σ : Mem} (h : f_X12_lay_b0 v0 v1 σ = some o) : E sc (Fm Sh none Sh o) mt_X12_lay 1 Sh Sh 0 [(2, v0), (0, v1), (9, 0)] [] Sh σ := by
  unfold f_X12_lay_b0 at h
  refine E_iconst d_X12_lay_0 (c32 rfl) ?_
  refine E_istore_n d_X12_lay_1 (ls' := [(2, v0), (0, v1), (0, 3)]) ⟨by decide, rfl⟩ ?_
  exact (L_X12_lay_h2 FU h)
noncomputable def f_X12_lay (v0 v1 : Int) (σ : Mem) : Option (Mem) := if isO Sh 12 v0 = true then f_X12_lay_b0 v0 v1 σ else none
theorem L_X12_lay {o : Mem} {v0 v1 : Int} {σ : Mem} (h : f_X12_lay v0 v1 σ = some o) : (isO Sh 12 v0 = true ∧ Cn mt_X12_lay 1 [(2, v0), (0, v1)] Sh σ none Sh o) := ⟨(ite_ok h).1, Cn_of mk_X12_lay.1.2.2.1 (Nat.le_of_ble_eq_true rfl) (fun sc => L_X12_lay_b0 (ite_ok h).2)⟩
theorem d_X12_feed_0 : decode mt_X12_feed.2.1 0 = .ok (.aload_n 0, 1) := by decide +kernel
theorem d_X12_feed_1 : decode mt_X12_feed.2.1 1 = .ok (.iconst 0, 1) := by decide +kernel
theorem d_X12_feed_2 : decode mt_X12_feed.2.1 2 = .ok (.putfield 70, 3) := by decide +kernel
theorem d_X12_feed_5 : decode mt_X12_feed.2.1 5 = .ok (.aload_n 0, 1) := by decide +kernel
theorem d_X12_feed_6 : decode mt_X12_feed.2.1 6 = .ok (.getfield 223, 3) := by decide +kernel
theorem d_X12_feed_9 : decode mt_X12_feed.2.1 9 = .ok (.bipush 20, 2) := by decide +kernel
theorem d_X12_feed_11 : decode mt_X12_feed.2.1 11 = .ok (.iadd, 1) := by decide +kernel
theorem d_X12_feed_12 : decode mt_X12_feed.2.1 12 = .ok (.sipush 900, 3) := by decide +kernel
theorem d_X12_feed_15 : decode mt_X12_feed.2.1 15 = .ok (.if_icmp .le 5, 3) := by decide +kernel
theorem d_X12_feed_18 : decode mt_X12_feed.2.1 18 = .ok (.iconst (-1), 1) := by decide +kernel
theorem d_X12_feed_19 : decode mt_X12_feed.2.1 19 = .ok (.ireturn, 1) := by decide +kernel
theorem d_X12_feed_20 : decode mt_X12_feed.2.1 20 = .ok (.aload_n 0, 1) := by decide +kernel
theorem d_X12_feed_21 : decode mt_X12_feed.2.1 21 = .ok (.iload_n 1, 1) := by decide +kernel
theorem d_X12_feed_22 : decode mt_X12_feed.2.1 22 = .ok (.invokevirtual 226, 3) := by decide +kernel
theorem d_X12_feed_25 : decode mt_X12_feed.2.1 25 = .ok (.aload_n 0, 1) := by decide +kernel
theorem d_X12_feed_26 : decode mt_X12_feed.2.1 26 = .ok (.iload_n 2, 1) := by decide +kernel
theorem d_X12_feed_27 : decode mt_X12_feed.2.1 27 = .ok (.invokevirtual 226, 3) := by decide +kernel
theorem d_X12_feed_30 : decode mt_X12_feed.2.1 30 = .ok (.aload_n 0, 1) := by decide +kernel
theorem d_X12_feed_31 : decode mt_X12_feed.2.1 31 = .ok (.iload_n 3, 1) := by decide +kernel
theorem d_X12_feed_32 : decode mt_X12_feed.2.1 32 = .ok (.invokevirtual 226, 3) := by decide +kernel
theorem d_X12_feed_35 : decode mt_X12_feed.2.1 35 = .ok (.aload_n 0, 1) := by decide +kernel
theorem d_X12_feed_36 : decode mt_X12_feed.2.1 36 = .ok (.iload 4, 2) := by decide +kernel
theorem d_X12_feed_38 : decode mt_X12_feed.2.1 38 = .ok (.invokevirtual 226, 3) := by decide +kernel
theorem d_X12_feed_41 : decode mt_X12_feed.2.1 41 = .ok (.aload_n 0, 1) := by decide +kernel
theorem d_X12_feed_42 : decode mt_X12_feed.2.1 42 = .ok (.iload 5, 2) := by decide +kernel
theorem d_X12_feed_44 : decode mt_X12_feed.2.1 44 = .ok (.invokevirtual 226, 3) := by decide +kernel
theorem d_X12_feed_47 : decode mt_X12_feed.2.1 47 = .ok (.aload_n 0, 1) := by decide +kernel
theorem d_X12_feed_48 : decode mt_X12_feed.2.1 48 = .ok (.getfield 223, 3) := by decide +kernel
theorem d_X12_feed_51 : decode mt_X12_feed.2.1 51 = .ok (.ireturn, 1) := by decide +kernel
noncomputable def f_X12_feed_b0 (v0 v1 v2 v3 v4 v5 : Int) (σ : Mem) : Option (Int × Mem) :=
  (pf Sh σ 12 v0 1 0).bind fun σ1 =>
  (gf Sh σ1 12 v0 8).bind fun x2 =>
  if w32 (x2 + 20) ≤ 900 then
    (f_X12_lay v0 v1 σ1).bind fun r3 =>
    (f_X12_lay v0 v2 r3).bind fun r5 =>
    (f_X12_lay v0 v3 r5).bind fun r7 =>
    (f_X12_lay v0 v4 r7).bind fun r9 =>
    (f_X12_lay v0 v5 r9).bind fun r11 =>
    (gf Sh r11 12 v0 8).bind fun x13 =>
    some (x13, r11)
  else
    some ((-1), σ1)
theorem L_X12_feed_b0 {sc : Nat × (Nat → Int32)} {o : Int × Mem} {v0 v1 v2 v3 v4 v5 : Int} {σ : Mem} (h : f_X12_feed_b0 v0 v1 v2 v3 v4 v5 σ = some o) : E sc (Fm Sh (some (0, o.1)) Sh o.2) mt_X12_feed 2 Sh Sh 0 [(2, v0), (0, v1), (0, v2), (0, v3), (0, v4), (0, v5)] [] Sh σ := by
  unfold f_X12_feed_b0 at h
  refine E_aload_n d_X12_feed_0 rfl (by decide) ?_
  refine E_iconst d_X12_feed_1 (c32 rfl) ?_
  refine E_put d_X12_feed_2 okX12 fl_X12_70 ⟨by decide, rfl⟩ (Or.inl ⟨rfl, rfl⟩) (Or.inl rfl) h (fun σ1 h => ?_)
  refine E_aload_n d_X12_feed_5 rfl (by decide) ?_
  refine E_get d_X12_feed_6 okX12 fl_X12_223 ⟨by decide, rfl⟩ h (fun x2 h => ?_)
  refine E_bipush d_X12_feed_9 (c8 rfl) ?_
  refine E_iadd d_X12_feed_11 ?_
  refine E_sipush d_X12_feed_12 (c16 rfl) ?_
  refine E_icmp_le (tgt := 20) d_X12_feed_15 (by decide) h (fun _ h => ?_) (fun _ h => ?_)
  · refine E_aload_n d_X12_feed_20 rfl (by decide) ?_
    refine E_iload_n d_X12_feed_21 rfl ?_
    refine bd h (fun r3 q4 h => ?_)
    refine E_cVv (as := [(0, v1)]) (st := []) (a := v0) d_X12_feed_22 mk_X12_lay nl_X12_226 (by omega) ⟨rfl, rfl, Nat.le_of_ble_eq_true rfl⟩ okX12 rfl (L_X12_lay q4) ?_
    refine E_aload_n d_X12_feed_25 rfl (by decide) ?_
    refine E_iload_n d_X12_feed_26 rfl ?_
    refine bd h (fun r5 q6 h => ?_)
    refine E_cVv (as := [(0, v2)]) (st := []) (a := v0) d_X12_feed_27 mk_X12_lay nl_X12_226 (by omega) ⟨rfl, rfl, Nat.le_of_ble_eq_true rfl⟩ okX12 rfl (L_X12_lay q6) ?_
    refine E_aload_n d_X12_feed_30 rfl (by decide) ?_
    refine E_iload_n d_X12_feed_31 rfl ?_
    refine bd h (fun r7 q8 h => ?_)
    refine E_cVv (as := [(0, v3)]) (st := []) (a := v0) d_X12_feed_32 mk_X12_lay nl_X12_226 (by omega) ⟨rfl, rfl, Nat.le_of_ble_eq_true rfl⟩ okX12 rfl (L_X12_lay q8) ?_
    refine E_aload_n d_X12_feed_35 rfl (by decide) ?_
    refine E_iload d_X12_feed_36 rfl ?_
    refine bd h (fun r9 q10 h => ?_)
    refine E_cVv (as := [(0, v4)]) (st := []) (a := v0) d_X12_feed_38 mk_X12_lay nl_X12_226 (by omega) ⟨rfl, rfl, Nat.le_of_ble_eq_true rfl⟩ okX12 rfl (L_X12_lay q10) ?_
    refine E_aload_n d_X12_feed_41 rfl (by decide) ?_
    refine E_iload d_X12_feed_42 rfl ?_
    refine bd h (fun r11 q12 h => ?_)
    refine E_cVv (as := [(0, v5)]) (st := []) (a := v0) d_X12_feed_44 mk_X12_lay nl_X12_226 (by omega) ⟨rfl, rfl, Nat.le_of_ble_eq_true rfl⟩ okX12 rfl (L_X12_lay q12) ?_
    refine E_aload_n d_X12_feed_47 rfl (by decide) ?_
    refine E_get d_X12_feed_48 okX12 fl_X12_223 ⟨by decide, rfl⟩ h (fun x13 h => ?_)
    cases h
    exact E_iret d_X12_feed_51 rfl
  · refine E_iconst d_X12_feed_18 (c32 rfl) ?_
    cases h
    exact E_iret d_X12_feed_19 rfl
noncomputable def f_X12_feed (v0 v1 v2 v3 v4 v5 : Int) (σ : Mem) : Option (Int × Mem) := if isO Sh 12 v0 = true then f_X12_feed_b0 v0 v1 v2 v3 v4 v5 σ else none
theorem L_X12_feed {o : Int × Mem} {v0 v1 v2 v3 v4 v5 : Int} {σ : Mem} (h : f_X12_feed v0 v1 v2 v3 v4 v5 σ = some o) : (isO Sh 12 v0 = true ∧ Cn mt_X12_feed 2 [(2, v0), (0, v1), (0, v2), (0, v3), (0, v4), (0, v5)] Sh σ (some (0, o.1)) Sh o.2) := ⟨(ite_ok h).1, Cn_of mk_X12_feed.1.2.2.1 (Nat.le_of_ble_eq_true rfl) (fun sc => L_X12_feed_b0 (ite_ok h).2)⟩
theorem d_X12_look2_0 : decode mt_X12_look2.2.1 0 = .ok (.iload_n 1, 1) := by decide +kernel
theorem d_X12_look2_1 : decode mt_X12_look2.2.1 1 = .ok (.aload_n 0, 1) := by decide +kernel
theorem d_X12_look2_2 : decode mt_X12_look2.2.1 2 = .ok (.getfield 112, 3) := by decide +kernel
theorem d_X12_look2_5 : decode mt_X12_look2.2.1 5 = .ok (.if_icmp .ge 16, 3) := by decide +kernel
theorem d_X12_look2_8 : decode mt_X12_look2.2.1 8 = .ok (.aload_n 0, 1) := by decide +kernel
theorem d_X12_look2_9 : decode mt_X12_look2.2.1 9 = .ok (.getfield 24, 3) := by decide +kernel
theorem d_X12_look2_12 : decode mt_X12_look2.2.1 12 = .ok (.iload_n 1, 1) := by decide +kernel
theorem d_X12_look2_13 : decode mt_X12_look2.2.1 13 = .ok (.baload, 1) := by decide +kernel
theorem d_X12_look2_14 : decode mt_X12_look2.2.1 14 = .ok (.sipush 255, 3) := by decide +kernel
theorem d_X12_look2_17 : decode mt_X12_look2.2.1 17 = .ok (.iand, 1) := by decide +kernel
theorem d_X12_look2_18 : decode mt_X12_look2.2.1 18 = .ok (.goto 4, 3) := by decide +kernel
theorem d_X12_look2_21 : decode mt_X12_look2.2.1 21 = .ok (.iconst 0, 1) := by decide +kernel
theorem d_X12_look2_22 : decode mt_X12_look2.2.1 22 = .ok (.ireturn, 1) := by decide +kernel
noncomputable def f_X12_look2_b0 (v0 v1 : Int) (σ : Mem) : Option (Int) :=
  (gf Sh σ 12 v0 9).bind fun x1 =>
  if x1 ≤ v1 then
    some (0)
  else
    (gf Sh σ 12 v0 7).bind fun x2 =>
    (al Sh σ 22 x2 v1).bind fun x3 =>
    some (iand x3 255)
theorem L_X12_look2_b0 {sc : Nat × (Nat → Int32)} {o : Int} {σ : Mem} {v0 v1 : Int} (h : f_X12_look2_b0 v0 v1 σ = some o) : E sc (Fm Sh (some (0, o)) Sh σ) mt_X12_look2 1 Sh Sh 0 [(2, v0), (0, v1)] [] Sh σ := by
  unfold f_X12_look2_b0 at h
  refine E_iload_n d_X12_look2_0 rfl ?_
  refine E_aload_n d_X12_look2_1 rfl (by decide) ?_
  refine E_get d_X12_look2_2 okX12 fl_X12_112 ⟨by decide, rfl⟩ h (fun x1 h => ?_)
  refine E_icmp_ge (tgt := 21) d_X12_look2_5 (by decide) h (fun _ h => ?_) (fun _ h => ?_)
  · refine E_iconst d_X12_look2_21 (c32 rfl) ?_
    cases h
    exact E_iret d_X12_look2_22 rfl
  · refine E_aload_n d_X12_look2_8 rfl (by decide) ?_
    refine E_get d_X12_look2_9 okX12 fl_X12_24 ⟨by decide, rfl⟩ h (fun x2 h => ?_)
    refine E_iload_n d_X12_look2_12 rfl ?_
    refine E_baload d_X12_look2_13 (by decide : 22 = 22 ∨ 22 = 23) h (fun x3 h => ?_)
    refine E_sipush d_X12_look2_14 (c16 rfl) ?_
    refine E_iand d_X12_look2_17 ?_
    refine E_goto (tgt := 22) d_X12_look2_18 (by decide) ?_
    cases h
    exact E_iret d_X12_look2_22 rfl
noncomputable def f_X12_look2 (v0 v1 : Int) (σ : Mem) : Option (Int) := if isO Sh 12 v0 = true then f_X12_look2_b0 v0 v1 σ else none
theorem L_X12_look2 {o : Int} {v0 v1 : Int} {σ : Mem} (h : f_X12_look2 v0 v1 σ = some o) : (isO Sh 12 v0 = true ∧ Cn mt_X12_look2 1 [(2, v0), (0, v1)] Sh σ (some (0, o)) Sh σ) := ⟨(ite_ok h).1, Cn_of mk_X12_look2.1.2.2.1 (Nat.le_of_ble_eq_true rfl) (fun sc => L_X12_look2_b0 (ite_ok h).2)⟩
theorem d_X12_isLetter_0 : decode mt_X12_isLetter.2.1 0 = .ok (.iload_n 0, 1) := by decide +kernel
theorem d_X12_isLetter_1 : decode mt_X12_isLetter.2.1 1 = .ok (.bipush 97, 2) := by decide +kernel
theorem d_X12_isLetter_3 : decode mt_X12_isLetter.2.1 3 = .ok (.if_icmp .lt 13, 3) := by decide +kernel
theorem d_X12_isLetter_6 : decode mt_X12_isLetter.2.1 6 = .ok (.iload_n 0, 1) := by decide +kernel
theorem d_X12_isLetter_7 : decode mt_X12_isLetter.2.1 7 = .ok (.bipush 122, 2) := by decide +kernel
theorem d_X12_isLetter_9 : decode mt_X12_isLetter.2.1 9 = .ok (.if_icmp .gt 7, 3) := by decide +kernel
theorem d_X12_isLetter_12 : decode mt_X12_isLetter.2.1 12 = .ok (.iconst 1, 1) := by decide +kernel
theorem d_X12_isLetter_13 : decode mt_X12_isLetter.2.1 13 = .ok (.goto 4, 3) := by decide +kernel
theorem d_X12_isLetter_16 : decode mt_X12_isLetter.2.1 16 = .ok (.iconst 0, 1) := by decide +kernel
theorem d_X12_isLetter_17 : decode mt_X12_isLetter.2.1 17 = .ok (.ireturn, 1) := by decide +kernel
noncomputable def f_X12_isLetter_b0 (v0 : Int) (σ : Mem) : Option (Int) :=
  if v0 < 97 then
    some (0)
  else
    if 122 < v0 then
      some (0)
    else
      some (1)
theorem L_X12_isLetter_b0 {sc : Nat × (Nat → Int32)} {o : Int} {σ : Mem} {v0 : Int} (h : f_X12_isLetter_b0 v0 σ = some o) : E sc (Fm Sh (some (0, o)) Sh σ) mt_X12_isLetter 1 Sh Sh 0 [(0, v0)] [] Sh σ := by
  unfold f_X12_isLetter_b0 at h
  refine E_iload_n d_X12_isLetter_0 rfl ?_
  refine E_bipush d_X12_isLetter_1 (c8 rfl) ?_
  refine E_icmp_lt (tgt := 16) d_X12_isLetter_3 (by decide) h (fun _ h => ?_) (fun _ h => ?_)
  · refine E_iconst d_X12_isLetter_16 (c32 rfl) ?_
    cases h
    exact E_zret d_X12_isLetter_17 rfl (Or.inl rfl)
  · refine E_iload_n d_X12_isLetter_6 rfl ?_
    refine E_bipush d_X12_isLetter_7 (c8 rfl) ?_
    refine E_icmp_gt (tgt := 16) d_X12_isLetter_9 (by decide) h (fun _ h => ?_) (fun _ h => ?_)
    · refine E_iconst d_X12_isLetter_16 (c32 rfl) ?_
      cases h
      exact E_zret d_X12_isLetter_17 rfl (Or.inl rfl)
    · refine E_iconst d_X12_isLetter_12 (c32 rfl) ?_
      refine E_goto (tgt := 17) d_X12_isLetter_13 (by decide) ?_
      cases h
      exact E_zret d_X12_isLetter_17 rfl (Or.inr rfl)
noncomputable def f_X12_isLetter (v0 : Int) (σ : Mem) : Option (Int) := f_X12_isLetter_b0 v0 σ
theorem L_X12_isLetter {o : Int} {v0 : Int} {σ : Mem} (h : f_X12_isLetter v0 σ = some o) : Cn mt_X12_isLetter 1 [(0, v0)] Sh σ (some (0, o)) Sh σ := Cn_of mk_X12_isLetter.1.2.2.1 (Nat.le_of_ble_eq_true rfl) (fun sc => L_X12_isLetter_b0 h)
theorem d_X12_isDigit_0 : decode mt_X12_isDigit.2.1 0 = .ok (.iload_n 0, 1) := by decide +kernel
theorem d_X12_isDigit_1 : decode mt_X12_isDigit.2.1 1 = .ok (.bipush 48, 2) := by decide +kernel
theorem d_X12_isDigit_3 : decode mt_X12_isDigit.2.1 3 = .ok (.if_icmp .lt 13, 3) := by decide +kernel
theorem d_X12_isDigit_6 : decode mt_X12_isDigit.2.1 6 = .ok (.iload_n 0, 1) := by decide +kernel
theorem d_X12_isDigit_7 : decode mt_X12_isDigit.2.1 7 = .ok (.bipush 57, 2) := by decide +kernel
theorem d_X12_isDigit_9 : decode mt_X12_isDigit.2.1 9 = .ok (.if_icmp .gt 7, 3) := by decide +kernel
theorem d_X12_isDigit_12 : decode mt_X12_isDigit.2.1 12 = .ok (.iconst 1, 1) := by decide +kernel
theorem d_X12_isDigit_13 : decode mt_X12_isDigit.2.1 13 = .ok (.goto 4, 3) := by decide +kernel
theorem d_X12_isDigit_16 : decode mt_X12_isDigit.2.1 16 = .ok (.iconst 0, 1) := by decide +kernel
theorem d_X12_isDigit_17 : decode mt_X12_isDigit.2.1 17 = .ok (.ireturn, 1) := by decide +kernel
noncomputable def f_X12_isDigit_b0 (v0 : Int) (σ : Mem) : Option (Int) :=
  if v0 < 48 then
    some (0)
  else
    if 57 < v0 then
      some (0)
    else
      some (1)
theorem L_X12_isDigit_b0 {sc : Nat × (Nat → Int32)} {o : Int} {σ : Mem} {v0 : Int} (h : f_X12_isDigit_b0 v0 σ = some o) : E sc (Fm Sh (some (0, o)) Sh σ) mt_X12_isDigit 1 Sh Sh 0 [(0, v0)] [] Sh σ := by
  unfold f_X12_isDigit_b0 at h
  refine E_iload_n d_X12_isDigit_0 rfl ?_
  refine E_bipush d_X12_isDigit_1 (c8 rfl) ?_
  refine E_icmp_lt (tgt := 16) d_X12_isDigit_3 (by decide) h (fun _ h => ?_) (fun _ h => ?_)
  · refine E_iconst d_X12_isDigit_16 (c32 rfl) ?_
    cases h
    exact E_zret d_X12_isDigit_17 rfl (Or.inl rfl)
  · refine E_iload_n d_X12_isDigit_6 rfl ?_
    refine E_bipush d_X12_isDigit_7 (c8 rfl) ?_
    refine E_icmp_gt (tgt := 16) d_X12_isDigit_9 (by decide) h (fun _ h => ?_) (fun _ h => ?_)
    · refine E_iconst d_X12_isDigit_16 (c32 rfl) ?_
      cases h
      exact E_zret d_X12_isDigit_17 rfl (Or.inl rfl)
    · refine E_iconst d_X12_isDigit_12 (c32 rfl) ?_
      refine E_goto (tgt := 17) d_X12_isDigit_13 (by decide) ?_
      cases h
      exact E_zret d_X12_isDigit_17 rfl (Or.inr rfl)
noncomputable def f_X12_isDigit (v0 : Int) (σ : Mem) : Option (Int) := f_X12_isDigit_b0 v0 σ
theorem L_X12_isDigit {o : Int} {v0 : Int} {σ : Mem} (h : f_X12_isDigit v0 σ = some o) : Cn mt_X12_isDigit 1 [(0, v0)] Sh σ (some (0, o)) Sh σ := Cn_of mk_X12_isDigit.1.2.2.1 (Nat.le_of_ble_eq_true rfl) (fun sc => L_X12_isDigit_b0 h)
theorem d_X12_isSignByte_0 : decode mt_X12_isSignByte.2.1 0 = .ok (.iload_n 1, 1) := by decide +kernel
theorem d_X12_isSignByte_1 : decode mt_X12_isSignByte.2.1 1 = .ok (.bipush 59, 2) := by decide +kernel
theorem d_X12_isSignByte_3 : decode mt_X12_isSignByte.2.1 3 = .ok (.if_icmp .eq 21, 3) := by decide +kernel
theorem d_X12_isSignByte_6 : decode mt_X12_isSignByte.2.1 6 = .ok (.iload_n 1, 1) := by decide +kernel
theorem d_X12_isSignByte_7 : decode mt_X12_isSignByte.2.1 7 = .ok (.bipush 60, 2) := by decide +kernel
theorem d_X12_isSignByte_9 : decode mt_X12_isSignByte.2.1 9 = .ok (.if_icmp .eq 15, 3) := by decide +kernel
theorem d_X12_isSignByte_12 : decode mt_X12_isSignByte.2.1 12 = .ok (.iload_n 1, 1) := by decide +kernel
theorem d_X12_isSignByte_13 : decode mt_X12_isSignByte.2.1 13 = .ok (.bipush 62, 2) := by decide +kernel
theorem d_X12_isSignByte_15 : decode mt_X12_isSignByte.2.1 15 = .ok (.if_icmp .eq 9, 3) := by decide +kernel
theorem d_X12_isSignByte_18 : decode mt_X12_isSignByte.2.1 18 = .ok (.iload_n 1, 1) := by decide +kernel
theorem d_X12_isSignByte_19 : decode mt_X12_isSignByte.2.1 19 = .ok (.bipush 61, 2) := by decide +kernel
theorem d_X12_isSignByte_21 : decode mt_X12_isSignByte.2.1 21 = .ok (.if_icmp .ne 7, 3) := by decide +kernel
theorem d_X12_isSignByte_24 : decode mt_X12_isSignByte.2.1 24 = .ok (.iconst 1, 1) := by decide +kernel
theorem d_X12_isSignByte_25 : decode mt_X12_isSignByte.2.1 25 = .ok (.goto 4, 3) := by decide +kernel
theorem d_X12_isSignByte_28 : decode mt_X12_isSignByte.2.1 28 = .ok (.iconst 0, 1) := by decide +kernel
theorem d_X12_isSignByte_29 : decode mt_X12_isSignByte.2.1 29 = .ok (.ireturn, 1) := by decide +kernel
noncomputable def f_X12_isSignByte_b24 (σ : Mem) : Option (Int) :=
  some (1)
theorem L_X12_isSignByte_b24 {sc : Nat × (Nat → Int32)} {o : Int} {σ : Mem} (h : f_X12_isSignByte_b24  σ = some o) : E sc (Fm Sh (some (0, o)) Sh σ) mt_X12_isSignByte 1 Sh Sh 24 [(9, 0), (9, 0)] [] Sh σ := by
  unfold f_X12_isSignByte_b24 at h
  refine E_iconst d_X12_isSignByte_24 (c32 rfl) ?_
  refine E_goto (tgt := 29) d_X12_isSignByte_25 (by decide) ?_
  cases h
  exact E_zret d_X12_isSignByte_29 rfl (Or.inr rfl)
noncomputable def f_X12_isSignByte_b0 (v0 v1 : Int) (σ : Mem) : Option (Int) :=
  if v1 = 59 then
    f_X12_isSignByte_b24  σ
  else
    if v1 = 60 then
      f_X12_isSignByte_b24  σ
    else
      if v1 = 62 then
        f_X12_isSignByte_b24  σ
      else
        if v1 = 61 then
          f_X12_isSignByte_b24  σ
        else
          some (0)
theorem L_X12_isSignByte_b0 {sc : Nat × (Nat → Int32)} {o : Int} {σ : Mem} {v0 v1 : Int} (h : f_X12_isSignByte_b0 v0 v1 σ = some o) : E sc (Fm Sh (some (0, o)) Sh σ) mt_X12_isSignByte 1 Sh Sh 0 [(2, v0), (0, v1)] [] Sh σ := by
  unfold f_X12_isSignByte_b0 at h
  refine E_iload_n d_X12_isSignByte_0 rfl ?_
  refine E_bipush d_X12_isSignByte_1 (c8 rfl) ?_
  refine E_icmp_eq (tgt := 24) d_X12_isSignByte_3 (by decide) h (fun _ h => ?_) (fun _ h => ?_)
  · exact E_weak (ls' := [(9, 0), (9, 0)]) ⟨Or.inl rfl, Or.inl rfl, trivial⟩ (L_X12_isSignByte_b24 h)
  · refine E_iload_n d_X12_isSignByte_6 rfl ?_
    refine E_bipush d_X12_isSignByte_7 (c8 rfl) ?_
    refine E_icmp_eq (tgt := 24) d_X12_isSignByte_9 (by decide) h (fun _ h => ?_) (fun _ h => ?_)
    · exact E_weak (ls' := [(9, 0), (9, 0)]) ⟨Or.inl rfl, Or.inl rfl, trivial⟩ (L_X12_isSignByte_b24 h)
    · refine E_iload_n d_X12_isSignByte_12 rfl ?_
      refine E_bipush d_X12_isSignByte_13 (c8 rfl) ?_
      refine E_icmp_eq (tgt := 24) d_X12_isSignByte_15 (by decide) h (fun _ h => ?_) (fun _ h => ?_)
      · exact E_weak (ls' := [(9, 0), (9, 0)]) ⟨Or.inl rfl, Or.inl rfl, trivial⟩ (L_X12_isSignByte_b24 h)
      · refine E_iload_n d_X12_isSignByte_18 rfl ?_
        refine E_bipush d_X12_isSignByte_19 (c8 rfl) ?_
        refine E_icmp_ne (tgt := 28) d_X12_isSignByte_21 (by decide) h (fun _ h => ?_) (fun _ h => ?_)
        · exact E_weak (ls' := [(9, 0), (9, 0)]) ⟨Or.inl rfl, Or.inl rfl, trivial⟩ (L_X12_isSignByte_b24 h)
        · refine E_iconst d_X12_isSignByte_28 (c32 rfl) ?_
          cases h
          exact E_zret d_X12_isSignByte_29 rfl (Or.inl rfl)
noncomputable def f_X12_isSignByte (v0 v1 : Int) (σ : Mem) : Option (Int) := if isO Sh 12 v0 = true then f_X12_isSignByte_b0 v0 v1 σ else none
theorem L_X12_isSignByte {o : Int} {v0 v1 : Int} {σ : Mem} (h : f_X12_isSignByte v0 v1 σ = some o) : (isO Sh 12 v0 = true ∧ Cn mt_X12_isSignByte 1 [(2, v0), (0, v1)] Sh σ (some (0, o)) Sh σ) := ⟨(ite_ok h).1, Cn_of mk_X12_isSignByte.1.2.2.1 (Nat.le_of_ble_eq_true rfl) (fun sc => L_X12_isSignByte_b0 (ite_ok h).2)⟩
theorem d_X12_advance_0 : decode mt_X12_advance.2.1 0 = .ok (.aload_n 0, 1) := by decide +kernel
theorem d_X12_advance_1 : decode mt_X12_advance.2.1 1 = .ok (.aload_n 0, 1) := by decide +kernel
theorem d_X12_advance_2 : decode mt_X12_advance.2.1 2 = .ok (.getfield 115, 3) := by decide +kernel
theorem d_X12_advance_5 : decode mt_X12_advance.2.1 5 = .ok (.putfield 118, 3) := by decide +kernel
theorem d_X12_advance_8 : decode mt_X12_advance.2.1 8 = .ok (.aload_n 0, 1) := by decide +kernel
theorem d_X12_advance_9 : decode mt_X12_advance.2.1 9 = .ok (.getfield 118, 3) := by decide +kernel
theorem d_X12_advance_12 : decode mt_X12_advance.2.1 12 = .ok (.aload_n 0, 1) := by decide +kernel
theorem d_X12_advance_13 : decode mt_X12_advance.2.1 13 = .ok (.getfield 112, 3) := by decide +kernel
theorem d_X12_advance_16 : decode mt_X12_advance.2.1 16 = .ok (.if_icmp .ge 42, 3) := by decide +kernel
theorem d_X12_advance_19 : decode mt_X12_advance.2.1 19 = .ok (.aload_n 0, 1) := by decide +kernel
theorem d_X12_advance_20 : decode mt_X12_advance.2.1 20 = .ok (.aload_n 0, 1) := by decide +kernel
theorem d_X12_advance_21 : decode mt_X12_advance.2.1 21 = .ok (.getfield 118, 3) := by decide +kernel
theorem d_X12_advance_24 : decode mt_X12_advance.2.1 24 = .ok (.invokevirtual 121, 3) := by decide +kernel
theorem d_X12_advance_27 : decode mt_X12_advance.2.1 27 = .ok (.bipush 10, 2) := by decide +kernel
theorem d_X12_advance_29 : decode mt_X12_advance.2.1 29 = .ok (.if_icmp .eq 16, 3) := by decide +kernel
theorem d_X12_advance_32 : decode mt_X12_advance.2.1 32 = .ok (.aload_n 0, 1) := by decide +kernel
theorem d_X12_advance_33 : decode mt_X12_advance.2.1 33 = .ok (.aload_n 0, 1) := by decide +kernel
theorem d_X12_advance_34 : decode mt_X12_advance.2.1 34 = .ok (.getfield 118, 3) := by decide +kernel
theorem d_X12_advance_37 : decode mt_X12_advance.2.1 37 = .ok (.invokevirtual 121, 3) := by decide +kernel
theorem d_X12_advance_40 : decode mt_X12_advance.2.1 40 = .ok (.bipush 32, 2) := by decide +kernel
theorem d_X12_advance_42 : decode mt_X12_advance.2.1 42 = .ok (.if_icmp .ne 16, 3) := by decide +kernel
theorem d_X12_advance_45 : decode mt_X12_advance.2.1 45 = .ok (.aload_n 0, 1) := by decide +kernel
theorem d_X12_advance_46 : decode mt_X12_advance.2.1 46 = .ok (.dup, 1) := by decide +kernel
theorem d_X12_advance_47 : decode mt_X12_advance.2.1 47 = .ok (.getfield 118, 3) := by decide +kernel
theorem d_X12_advance_50 : decode mt_X12_advance.2.1 50 = .ok (.iconst 1, 1) := by decide +kernel
theorem d_X12_advance_51 : decode mt_X12_advance.2.1 51 = .ok (.iadd, 1) := by decide +kernel
theorem d_X12_advance_52 : decode mt_X12_advance.2.1 52 = .ok (.putfield 118, 3) := by decide +kernel
theorem d_X12_advance_55 : decode mt_X12_advance.2.1 55 = .ok (.goto (-47), 3) := by decide +kernel
theorem d_X12_advance_58 : decode mt_X12_advance.2.1 58 = .ok (.aload_n 0, 1) := by decide +kernel
theorem d_X12_advance_59 : decode mt_X12_advance.2.1 59 = .ok (.aload_n 0, 1) := by decide +kernel
theorem d_X12_advance_60 : decode mt_X12_advance.2.1 60 = .ok (.getfield 118, 3) := by decide +kernel
theorem d_X12_advance_63 : decode mt_X12_advance.2.1 63 = .ok (.putfield 115, 3) := by decide +kernel
theorem d_X12_advance_66 : decode mt_X12_advance.2.1 66 = .ok (.aload_n 0, 1) := by decide +kernel
theorem d_X12_advance_67 : decode mt_X12_advance.2.1 67 = .ok (.getfield 118, 3) := by decide +kernel
theorem d_X12_advance_70 : decode mt_X12_advance.2.1 70 = .ok (.aload_n 0, 1) := by decide +kernel
theorem d_X12_advance_71 : decode mt_X12_advance.2.1 71 = .ok (.getfield 112, 3) := by decide +kernel
theorem d_X12_advance_74 : decode mt_X12_advance.2.1 74 = .ok (.if_icmp .lt 9, 3) := by decide +kernel
theorem d_X12_advance_77 : decode mt_X12_advance.2.1 77 = .ok (.aload_n 0, 1) := by decide +kernel
theorem d_X12_advance_78 : decode mt_X12_advance.2.1 78 = .ok (.iconst 0, 1) := by decide +kernel
theorem d_X12_advance_79 : decode mt_X12_advance.2.1 79 = .ok (.putfield 124, 3) := by decide +kernel
theorem d_X12_advance_82 : decode mt_X12_advance.2.1 82 = .ok (.return_, 1) := by decide +kernel
theorem d_X12_advance_83 : decode mt_X12_advance.2.1 83 = .ok (.aload_n 0, 1) := by decide +kernel
theorem d_X12_advance_84 : decode mt_X12_advance.2.1 84 = .ok (.aload_n 0, 1) := by decide +kernel
theorem d_X12_advance_85 : decode mt_X12_advance.2.1 85 = .ok (.getfield 118, 3) := by decide +kernel
theorem d_X12_advance_88 : decode mt_X12_advance.2.1 88 = .ok (.invokevirtual 121, 3) := by decide +kernel
theorem d_X12_advance_91 : decode mt_X12_advance.2.1 91 = .ok (.istore_n 1, 1) := by decide +kernel
theorem d_X12_advance_92 : decode mt_X12_advance.2.1 92 = .ok (.iload_n 1, 1) := by decide +kernel
theorem d_X12_advance_93 : decode mt_X12_advance.2.1 93 = .ok (.invokestatic 127, 3) := by decide +kernel
theorem d_X12_advance_96 : decode mt_X12_advance.2.1 96 = .ok (.ifCond .eq 102, 3) := by decide +kernel
theorem d_X12_advance_99 : decode mt_X12_advance.2.1 99 = .ok (.aload_n 0, 1) := by decide +kernel
theorem d_X12_advance_100 : decode mt_X12_advance.2.1 100 = .ok (.iconst 1, 1) := by decide +kernel
theorem d_X12_advance_101 : decode mt_X12_advance.2.1 101 = .ok (.putfield 124, 3) := by decide +kernel
theorem d_X12_advance_104 : decode mt_X12_advance.2.1 104 = .ok (.aload_n 0, 1) := by decide +kernel
theorem d_X12_advance_105 : decode mt_X12_advance.2.1 105 = .ok (.lconst 0, 1) := by decide +kernel
theorem d_X12_advance_106 : decode mt_X12_advance.2.1 106 = .ok (.putfield 130, 3) := by decide +kernel
theorem d_X12_advance_109 : decode mt_X12_advance.2.1 109 = .ok (.aload_n 0, 1) := by decide +kernel
theorem d_X12_advance_110 : decode mt_X12_advance.2.1 110 = .ok (.aload_n 0, 1) := by decide +kernel
theorem d_X12_advance_111 : decode mt_X12_advance.2.1 111 = .ok (.getfield 115, 3) := by decide +kernel
theorem d_X12_advance_114 : decode mt_X12_advance.2.1 114 = .ok (.invokevirtual 121, 3) := by decide +kernel
theorem d_X12_advance_117 : decode mt_X12_advance.2.1 117 = .ok (.invokestatic 127, 3) := by decide +kernel
theorem d_X12_advance_120 : decode mt_X12_advance.2.1 120 = .ok (.ifCond .eq 62, 3) := by decide +kernel
theorem d_X12_advance_123 : decode mt_X12_advance.2.1 123 = .ok (.aload_n 0, 1) := by decide +kernel
theorem d_X12_advance_124 : decode mt_X12_advance.2.1 124 = .ok (.aload_n 0, 1) := by decide +kernel
theorem d_X12_advance_125 : decode mt_X12_advance.2.1 125 = .ok (.getfield 115, 3) := by decide +kernel
theorem d_X12_advance_128 : decode mt_X12_advance.2.1 128 = .ok (.aload_n 0, 1) := by decide +kernel
theorem d_X12_advance_129 : decode mt_X12_advance.2.1 129 = .ok (.getfield 118, 3) := by decide +kernel
theorem d_X12_advance_132 : decode mt_X12_advance.2.1 132 = .ok (.isub, 1) := by decide +kernel
theorem d_X12_advance_133 : decode mt_X12_advance.2.1 133 = .ok (.bipush 8, 2) := by decide +kernel
theorem d_X12_advance_135 : decode mt_X12_advance.2.1 135 = .ok (.if_icmp .ge 28, 3) := by decide +kernel
theorem d_X12_advance_138 : decode mt_X12_advance.2.1 138 = .ok (.aload_n 0, 1) := by decide +kernel
theorem d_X12_advance_139 : decode mt_X12_advance.2.1 139 = .ok (.getfield 130, 3) := by decide +kernel
theorem d_X12_advance_142 : decode mt_X12_advance.2.1 142 = .ok (.ldc2_w 133, 3) := by decide +kernel
theorem d_X12_advance_145 : decode mt_X12_advance.2.1 145 = .ok (.lmul, 1) := by decide +kernel
theorem d_X12_advance_146 : decode mt_X12_advance.2.1 146 = .ok (.aload_n 0, 1) := by decide +kernel
theorem d_X12_advance_147 : decode mt_X12_advance.2.1 147 = .ok (.aload_n 0, 1) := by decide +kernel
theorem d_X12_advance_148 : decode mt_X12_advance.2.1 148 = .ok (.getfield 115, 3) := by decide +kernel
theorem d_X12_advance_151 : decode mt_X12_advance.2.1 151 = .ok (.invokevirtual 121, 3) := by decide +kernel
theorem d_X12_advance_154 : decode mt_X12_advance.2.1 154 = .ok (.i2l, 1) := by decide +kernel
theorem d_X12_advance_155 : decode mt_X12_advance.2.1 155 = .ok (.ladd, 1) := by decide +kernel
theorem d_X12_advance_156 : decode mt_X12_advance.2.1 156 = .ok (.ldc2_w 135, 3) := by decide +kernel
theorem d_X12_advance_159 : decode mt_X12_advance.2.1 159 = .ok (.lsub, 1) := by decide +kernel
theorem d_X12_advance_160 : decode mt_X12_advance.2.1 160 = .ok (.goto 6, 3) := by decide +kernel
theorem d_X12_advance_163 : decode mt_X12_advance.2.1 163 = .ok (.ldc2_w 100, 3) := by decide +kernel
theorem d_X12_advance_166 : decode mt_X12_advance.2.1 166 = .ok (.putfield 130, 3) := by decide +kernel
theorem d_X12_advance_169 : decode mt_X12_advance.2.1 169 = .ok (.aload_n 0, 1) := by decide +kernel
theorem d_X12_advance_170 : decode mt_X12_advance.2.1 170 = .ok (.dup, 1) := by decide +kernel
theorem d_X12_advance_171 : decode mt_X12_advance.2.1 171 = .ok (.getfield 115, 3) := by decide +kernel
theorem d_X12_advance_174 : decode mt_X12_advance.2.1 174 = .ok (.iconst 1, 1) := by decide +kernel
theorem d_X12_advance_175 : decode mt_X12_advance.2.1 175 = .ok (.iadd, 1) := by decide +kernel
theorem d_X12_advance_176 : decode mt_X12_advance.2.1 176 = .ok (.putfield 115, 3) := by decide +kernel
theorem d_X12_advance_179 : decode mt_X12_advance.2.1 179 = .ok (.goto (-70), 3) := by decide +kernel
theorem d_X12_advance_182 : decode mt_X12_advance.2.1 182 = .ok (.aload_n 0, 1) := by decide +kernel
theorem d_X12_advance_183 : decode mt_X12_advance.2.1 183 = .ok (.aload_n 0, 1) := by decide +kernel
theorem d_X12_advance_184 : decode mt_X12_advance.2.1 184 = .ok (.getfield 115, 3) := by decide +kernel
theorem d_X12_advance_187 : decode mt_X12_advance.2.1 187 = .ok (.aload_n 0, 1) := by decide +kernel
theorem d_X12_advance_188 : decode mt_X12_advance.2.1 188 = .ok (.getfield 118, 3) := by decide +kernel
theorem d_X12_advance_191 : decode mt_X12_advance.2.1 191 = .ok (.isub, 1) := by decide +kernel
theorem d_X12_advance_192 : decode mt_X12_advance.2.1 192 = .ok (.putfield 137, 3) := by decide +kernel
theorem d_X12_advance_195 : decode mt_X12_advance.2.1 195 = .ok (.goto 135, 3) := by decide +kernel
theorem d_X12_advance_198 : decode mt_X12_advance.2.1 198 = .ok (.iload_n 1, 1) := by decide +kernel
theorem d_X12_advance_199 : decode mt_X12_advance.2.1 199 = .ok (.invokestatic 140, 3) := by decide +kernel
theorem d_X12_advance_202 : decode mt_X12_advance.2.1 202 = .ok (.ifCond .eq 96, 3) := by decide +kernel
theorem d_X12_advance_205 : decode mt_X12_advance.2.1 205 = .ok (.aload_n 0, 1) := by decide +kernel
theorem d_X12_advance_206 : decode mt_X12_advance.2.1 206 = .ok (.iconst 0, 1) := by decide +kernel
theorem d_X12_advance_207 : decode mt_X12_advance.2.1 207 = .ok (.putfield 143, 3) := by decide +kernel
theorem d_X12_advance_210 : decode mt_X12_advance.2.1 210 = .ok (.aload_n 0, 1) := by decide +kernel
theorem d_X12_advance_211 : decode mt_X12_advance.2.1 211 = .ok (.aload_n 0, 1) := by decide +kernel
theorem d_X12_advance_212 : decode mt_X12_advance.2.1 212 = .ok (.getfield 115, 3) := by decide +kernel
theorem d_X12_advance_215 : decode mt_X12_advance.2.1 215 = .ok (.invokevirtual 121, 3) := by decide +kernel
theorem d_X12_advance_218 : decode mt_X12_advance.2.1 218 = .ok (.invokestatic 140, 3) := by decide +kernel
theorem d_X12_advance_221 : decode mt_X12_advance.2.1 221 = .ok (.ifCond .eq 52, 3) := by decide +kernel
theorem d_X12_advance_224 : decode mt_X12_advance.2.1 224 = .ok (.aload_n 0, 1) := by decide +kernel
theorem d_X12_advance_225 : decode mt_X12_advance.2.1 225 = .ok (.getfield 115, 3) := by decide +kernel
theorem d_X12_advance_228 : decode mt_X12_advance.2.1 228 = .ok (.aload_n 0, 1) := by decide +kernel
theorem d_X12_advance_229 : decode mt_X12_advance.2.1 229 = .ok (.getfield 118, 3) := by decide +kernel
theorem d_X12_advance_232 : decode mt_X12_advance.2.1 232 = .ok (.isub, 1) := by decide +kernel
theorem d_X12_advance_233 : decode mt_X12_advance.2.1 233 = .ok (.iconst 4, 1) := by decide +kernel
theorem d_X12_advance_234 : decode mt_X12_advance.2.1 234 = .ok (.if_icmp .ge 26, 3) := by decide +kernel
theorem d_X12_advance_237 : decode mt_X12_advance.2.1 237 = .ok (.aload_n 0, 1) := by decide +kernel
theorem d_X12_advance_238 : decode mt_X12_advance.2.1 238 = .ok (.bipush 10, 2) := by decide +kernel
theorem d_X12_advance_240 : decode mt_X12_advance.2.1 240 = .ok (.aload_n 0, 1) := by decide +kernel
theorem d_X12_advance_241 : decode mt_X12_advance.2.1 241 = .ok (.getfield 143, 3) := by decide +kernel
theorem d_X12_advance_244 : decode mt_X12_advance.2.1 244 = .ok (.imul, 1) := by decide +kernel
theorem d_X12_advance_245 : decode mt_X12_advance.2.1 245 = .ok (.aload_n 0, 1) := by decide +kernel
theorem d_X12_advance_246 : decode mt_X12_advance.2.1 246 = .ok (.aload_n 0, 1) := by decide +kernel
theorem d_X12_advance_247 : decode mt_X12_advance.2.1 247 = .ok (.getfield 115, 3) := by decide +kernel
theorem d_X12_advance_250 : decode mt_X12_advance.2.1 250 = .ok (.invokevirtual 121, 3) := by decide +kernel
theorem d_X12_advance_253 : decode mt_X12_advance.2.1 253 = .ok (.iadd, 1) := by decide +kernel
theorem d_X12_advance_254 : decode mt_X12_advance.2.1 254 = .ok (.bipush 48, 2) := by decide +kernel
theorem d_X12_advance_256 : decode mt_X12_advance.2.1 256 = .ok (.isub, 1) := by decide +kernel
theorem d_X12_advance_257 : decode mt_X12_advance.2.1 257 = .ok (.putfield 143, 3) := by decide +kernel
theorem d_X12_advance_260 : decode mt_X12_advance.2.1 260 = .ok (.aload_n 0, 1) := by decide +kernel
theorem d_X12_advance_261 : decode mt_X12_advance.2.1 261 = .ok (.dup, 1) := by decide +kernel
theorem d_X12_advance_262 : decode mt_X12_advance.2.1 262 = .ok (.getfield 115, 3) := by decide +kernel
theorem d_X12_advance_265 : decode mt_X12_advance.2.1 265 = .ok (.iconst 1, 1) := by decide +kernel
theorem d_X12_advance_266 : decode mt_X12_advance.2.1 266 = .ok (.iadd, 1) := by decide +kernel
theorem d_X12_advance_267 : decode mt_X12_advance.2.1 267 = .ok (.putfield 115, 3) := by decide +kernel
theorem d_X12_advance_270 : decode mt_X12_advance.2.1 270 = .ok (.goto (-60), 3) := by decide +kernel
theorem d_X12_advance_273 : decode mt_X12_advance.2.1 273 = .ok (.aload_n 0, 1) := by decide +kernel
theorem d_X12_advance_274 : decode mt_X12_advance.2.1 274 = .ok (.aload_n 0, 1) := by decide +kernel
theorem d_X12_advance_275 : decode mt_X12_advance.2.1 275 = .ok (.getfield 115, 3) := by decide +kernel
theorem d_X12_advance_278 : decode mt_X12_advance.2.1 278 = .ok (.aload_n 0, 1) := by decide +kernel
theorem d_X12_advance_279 : decode mt_X12_advance.2.1 279 = .ok (.getfield 118, 3) := by decide +kernel
theorem d_X12_advance_282 : decode mt_X12_advance.2.1 282 = .ok (.isub, 1) := by decide +kernel
theorem d_X12_advance_283 : decode mt_X12_advance.2.1 283 = .ok (.iconst 4, 1) := by decide +kernel
theorem d_X12_advance_284 : decode mt_X12_advance.2.1 284 = .ok (.if_icmp .le 7, 3) := by decide +kernel
theorem d_X12_advance_287 : decode mt_X12_advance.2.1 287 = .ok (.iconst 4, 1) := by decide +kernel
theorem d_X12_advance_288 : decode mt_X12_advance.2.1 288 = .ok (.goto 4, 3) := by decide +kernel
theorem d_X12_advance_291 : decode mt_X12_advance.2.1 291 = .ok (.iconst 2, 1) := by decide +kernel
theorem d_X12_advance_292 : decode mt_X12_advance.2.1 292 = .ok (.putfield 124, 3) := by decide +kernel
theorem d_X12_advance_295 : decode mt_X12_advance.2.1 295 = .ok (.goto 35, 3) := by decide +kernel
theorem d_X12_advance_298 : decode mt_X12_advance.2.1 298 = .ok (.aload_n 0, 1) := by decide +kernel
theorem d_X12_advance_299 : decode mt_X12_advance.2.1 299 = .ok (.aload_n 0, 1) := by decide +kernel
theorem d_X12_advance_300 : decode mt_X12_advance.2.1 300 = .ok (.getfield 118, 3) := by decide +kernel
theorem d_X12_advance_303 : decode mt_X12_advance.2.1 303 = .ok (.iconst 1, 1) := by decide +kernel
theorem d_X12_advance_304 : decode mt_X12_advance.2.1 304 = .ok (.iadd, 1) := by decide +kernel
theorem d_X12_advance_305 : decode mt_X12_advance.2.1 305 = .ok (.putfield 115, 3) := by decide +kernel
theorem d_X12_advance_308 : decode mt_X12_advance.2.1 308 = .ok (.aload_n 0, 1) := by decide +kernel
theorem d_X12_advance_309 : decode mt_X12_advance.2.1 309 = .ok (.iload_n 1, 1) := by decide +kernel
theorem d_X12_advance_310 : decode mt_X12_advance.2.1 310 = .ok (.putfield 143, 3) := by decide +kernel
theorem d_X12_advance_313 : decode mt_X12_advance.2.1 313 = .ok (.aload_n 0, 1) := by decide +kernel
theorem d_X12_advance_314 : decode mt_X12_advance.2.1 314 = .ok (.aload_n 0, 1) := by decide +kernel
theorem d_X12_advance_315 : decode mt_X12_advance.2.1 315 = .ok (.iload_n 1, 1) := by decide +kernel
theorem d_X12_advance_316 : decode mt_X12_advance.2.1 316 = .ok (.invokevirtual 146, 3) := by decide +kernel
theorem d_X12_advance_319 : decode mt_X12_advance.2.1 319 = .ok (.ifCond .eq 7, 3) := by decide +kernel
theorem d_X12_advance_322 : decode mt_X12_advance.2.1 322 = .ok (.iconst 3, 1) := by decide +kernel
theorem d_X12_advance_323 : decode mt_X12_advance.2.1 323 = .ok (.goto 4, 3) := by decide +kernel
theorem d_X12_advance_326 : decode mt_X12_advance.2.1 326 = .ok (.iconst 4, 1) := by decide +kernel
theorem d_X12_advance_327 : decode mt_X12_advance.2.1 327 = .ok (.putfield 124, 3) := by decide +kernel
theorem d_X12_advance_330 : decode mt_X12_advance.2.1 330 = .ok (.return_, 1) := by decide +kernel
noncomputable def f_X12_advance_b45 (k8 : (Int → Mem → Option (Mem))) (v0 : Int) (σ : Mem) : Option (Mem) :=
  (gf Sh σ 12 v0 15).bind fun x67 =>
  (pf Sh σ 12 v0 15 (w32 (x67 + 1))).bind fun σ68 =>
  k8 v0 σ68
theorem L_X12_advance_b45 {sc : Nat × (Nat → Int32)} {o : Mem} {k8 : (Int → Mem → Option (Mem))} (hk8 : ∀ {v0 : Int} {σ : Mem}, k8 v0 σ = some o → E sc (Fm Sh none Sh o) mt_X12_advance 2 Sh Sh 8 [(2, v0), (9, 0)] [] Sh σ) {v0 : Int} {σ : Mem} (h : f_X12_advance_b45 k8 v0 σ = some o) : E sc (Fm Sh none Sh o) mt_X12_advance 2 Sh Sh 45 [(2, v0), (9, 0)] [] Sh σ := by
  unfold f_X12_advance_b45 at h
  refine E_aload_n d_X12_advance_45 rfl (by decide) ?_
  refine E_dupT d_X12_advance_46 (by decide) ?_
  refine E_get d_X12_advance_47 okX12 fl_X12_118 ⟨by decide, rfl⟩ h (fun x67 h => ?_)
  refine E_iconst d_X12_advance_50 (c32 rfl) ?_
  refine E_iadd d_X12_advance_51 ?_
  refine E_put d_X12_advance_52 okX12 fl_X12_118 ⟨by decide, rfl⟩ (Or.inl ⟨rfl, rfl⟩) (Or.inl rfl) h (fun σ68 h => ?_)
  refine E_goto (tgt := 8) d_X12_advance_55 (by decide) ?_
  exact (hk8 h)
noncomputable def f_X12_advance_b166 (k109 : (Int → Mem → Option (Mem))) (v0 s0 s1 : Int) (σ : Mem) : Option (Mem) :=
  (pf Sh σ 12 s1 19 s0).bind fun σ47 =>
  (gf Sh σ47 12 v0 16).bind fun x48 =>
  (pf Sh σ47 12 v0 16 (w32 (x48 + 1))).bind fun σ49 =>
  k109 v0 σ49
theorem L_X12_advance_b166 {sc : Nat × (Nat → Int32)} {o : Mem} {k109 : (Int → Mem → Option (Mem))} (hk109 : ∀ {v0 : Int} {σ : Mem}, k109 v0 σ = some o → E sc (Fm Sh none Sh o) mt_X12_advance 2 Sh Sh 109 [(2, v0), (9, 0)] [] Sh σ) {v0 s0 s1 : Int} {σ : Mem} (h : f_X12_advance_b166 k109 v0 s0 s1 σ = some o) : E sc (Fm Sh none Sh o) mt_X12_advance 2 Sh Sh 166 [(2, v0), (9, 0)] [(1, s0), (2, s1)] Sh σ := by
  unfold f_X12_advance_b166 at h
  refine E_put d_X12_advance_166 okX12 fl_X12_130 ⟨by decide, rfl⟩ (Or.inr (Or.inl ⟨rfl, rfl⟩)) (Or.inl rfl) h (fun σ47 h => ?_)
  refine E_aload_n d_X12_advance_169 rfl (by decide) ?_
  refine E_dupT d_X12_advance_170 (by decide) ?_
  refine E_get d_X12_advance_171 okX12 fl_X12_115 ⟨by decide, rfl⟩ h (fun x48 h => ?_)
  refine E_iconst d_X12_advance_174 (c32 rfl) ?_
  refine E_iadd d_X12_advance_175 ?_
  refine E_put d_X12_advance_176 okX12 fl_X12_115 ⟨by decide, rfl⟩ (Or.inl ⟨rfl, rfl⟩) (Or.inl rfl) h (fun σ49 h => ?_)
  refine E_goto (tgt := 109) d_X12_advance_179 (by decide) ?_
  exact (hk109 h)
noncomputable def f_X12_advance_b109 (k109 : (Int → Mem → Option (Mem))) (v0 : Int) (σ : Mem) : Option (Mem) :=
  (gf Sh σ 12 v0 16).bind fun x33 =>
  (f_X12_look2 v0 x33 σ).bind fun r34 =>
  (f_X12_isLetter r34 σ).bind fun r36 =>
  if r36 = 0 then
    (gf Sh σ 12 v0 16).bind fun x38 =>
    (gf Sh σ 12 v0 15).bind fun x39 =>
    (pf Sh σ 12 v0 18 (w32 (x38 - x39))).bind fun σ40 =>
    some σ40
  else
    (gf Sh σ 12 v0 16).bind fun x41 =>
    (gf Sh σ 12 v0 15).bind fun x42 =>
    if 8 ≤ w32 (x41 - x42) then
      f_X12_advance_b166 k109 v0 (-1) v0 σ
    else
      (gf Sh σ 12 v0 19).bind fun x43 =>
      (gf Sh σ 12 v0 16).bind fun x44 =>
      (f_X12_look2 v0 x44 σ).bind fun r45 =>
      f_X12_advance_b166 k109 v0 (w64 (w64 (w64 (x43 * 32) + r45) - 96)) v0 σ
theorem L_X12_advance_b109 {sc : Nat × (Nat → Int32)} {o : Mem} {k109 : (Int → Mem → Option (Mem))} (hk109 : ∀ {v0 : Int} {σ : Mem}, k109 v0 σ = some o → E sc (Fm Sh none Sh o) mt_X12_advance 2 Sh Sh 109 [(2, v0), (9, 0)] [] Sh σ) {v0 : Int} {σ : Mem} (h : f_X12_advance_b109 k109 v0 σ = some o) : E sc (Fm Sh none Sh o) mt_X12_advance 2 Sh Sh 109 [(2, v0), (9, 0)] [] Sh σ := by
  unfold f_X12_advance_b109 at h
  refine E_aload_n d_X12_advance_109 rfl (by decide) ?_
  refine E_aload_n d_X12_advance_110 rfl (by decide) ?_
  refine E_get d_X12_advance_111 okX12 fl_X12_115 ⟨by decide, rfl⟩ h (fun x33 h => ?_)
  refine bd h (fun r34 q35 h => ?_)
  refine E_cV (as := [(0, x33)]) (st := []) (a := v0) d_X12_advance_114 mk_X12_look2 nl_X12_121 (by omega) ⟨rfl, rfl, Nat.le_of_ble_eq_true rfl⟩ okX12 rfl (L_X12_look2 q35) ?_
  refine bd h (fun r36 q37 h => ?_)
  refine E_cS (as := [(0, r34)]) (st := []) d_X12_advance_117 mk_X12_isLetter nl_X12_127 (by omega) ⟨rfl, rfl, Nat.le_of_ble_eq_true rfl⟩ (L_X12_isLetter q37) ?_
  refine E_if_eq (tgt := 182) d_X12_advance_120 (by decide) h (fun _ h => ?_) (fun _ h => ?_)
  · refine E_aload_n d_X12_advance_182 rfl (by decide) ?_
    refine E_aload_n d_X12_advance_183 rfl (by decide) ?_
    refine E_get d_X12_advance_184 okX12 fl_X12_115 ⟨by decide, rfl⟩ h (fun x38 h => ?_)
    refine E_aload_n d_X12_advance_187 rfl (by decide) ?_
    refine E_get d_X12_advance_188 okX12 fl_X12_118 ⟨by decide, rfl⟩ h (fun x39 h => ?_)
    refine E_isub d_X12_advance_191 ?_
    refine E_put d_X12_advance_192 okX12 fl_X12_137 ⟨by decide, rfl⟩ (Or.inl ⟨rfl, rfl⟩) (Or.inl rfl) h (fun σ40 h => ?_)
    refine E_goto (tgt := 330) d_X12_advance_195 (by decide) ?_
    cases h
    exact E_vret d_X12_advance_330 rfl
  · refine E_aload_n d_X12_advance_123 rfl (by decide) ?_
    refine E_aload_n d_X12_advance_124 rfl (by decide) ?_
    refine E_get d_X12_advance_125 okX12 fl_X12_115 ⟨by decide, rfl⟩ h (fun x41 h => ?_)
    refine E_aload_n d_X12_advance_128 rfl (by decide) ?_
    refine E_get d_X12_advance_129 okX12 fl_X12_118 ⟨by decide, rfl⟩ h (fun x42 h => ?_)
    refine E_isub d_X12_advance_132 ?_
    refine E_bipush d_X12_advance_133 (c8 rfl) ?_
    refine E_icmp_ge (tgt := 163) d_X12_advance_135 (by decide) h (fun _ h => ?_) (fun _ h => ?_)
    · refine E_ldc2 d_X12_advance_163 kw_X12_100 ?_
      exact (L_X12_advance_b166 hk109 h)
    · refine E_aload_n d_X12_advance_138 rfl (by decide) ?_
      refine E_get d_X12_advance_139 okX12 fl_X12_130 ⟨by decide, rfl⟩ h (fun x43 h => ?_)
      refine E_ldc2 d_X12_advance_142 kw_X12_133 ?_
      refine E_lmul d_X12_advance_145 ?_
      refine E_aload_n d_X12_advance_146 rfl (by decide) ?_
      refine E_aload_n d_X12_advance_147 rfl (by decide) ?_
      refine E_get d_X12_advance_148 okX12 fl_X12_115 ⟨by decide, rfl⟩ h (fun x44 h => ?_)
      refine bd h (fun r45 q46 h => ?_)
      refine E_cV (as := [(0, x44)]) (st := [(1, w64 (x43 * 32)), (2, v0)]) (a := v0) d_X12_advance_151 mk_X12_look2 nl_X12_121 (by omega) ⟨rfl, rfl, Nat.le_of_ble_eq_true rfl⟩ okX12 rfl (L_X12_look2 q46) ?_
      refine E_i2l d_X12_advance_154 ?_
      refine E_ladd d_X12_advance_155 ?_
      refine E_ldc2 d_X12_advance_156 kw_X12_135 ?_
      refine E_lsub d_X12_advance_159 ?_
      refine E_goto (tgt := 166) d_X12_advance_160 (by decide) ?_
      exact (L_X12_advance_b166 hk109 h)
noncomputable def f_X12_advance_h109 (n : Nat) : Int → Mem → Option (Mem) := Nat.rec (motive := fun _ => Int → Mem → Option (Mem)) (fun _ _ => none) (fun _ ih => f_X12_advance_b109 (ih)) n
theorem L_X12_advance_h109 {sc : Nat × (Nat → Int32)} {o : Mem} : ∀ (n : Nat) {v0 : Int} {σ : Mem}, f_X12_advance_h109 n v0 σ = some o → E sc (Fm Sh none Sh o) mt_X12_advance 2 Sh Sh 109 [(2, v0), (9, 0)] [] Sh σ := by
  intro n
  induction n with
  | zero => intro v0 σ h; cases h
  | succ n ih => intro v0 σ h; exact L_X12_advance_b109 (@ih) h
noncomputable def f_X12_advance_b260 (k210 : (Int → Mem → Option (Mem))) (v0 : Int) (σ : Mem) : Option (Mem) :=
  (gf Sh σ 12 v0 16).bind fun x64 =>
  (pf Sh σ 12 v0 16 (w32 (x64 + 1))).bind fun σ65 =>
  k210 v0 σ65
theorem L_X12_advance_b260 {sc : Nat × (Nat → Int32)} {o : Mem} {k210 : (Int → Mem → Option (Mem))} (hk210 : ∀ {v0 : Int} {σ : Mem}, k210 v0 σ = some o → E sc (Fm Sh none Sh o) mt_X12_advance 2 Sh Sh 210 [(2, v0), (9, 0)] [] Sh σ) {v0 : Int} {σ : Mem} (h : f_X12_advance_b260 k210 v0 σ = some o) : E sc (Fm Sh none Sh o) mt_X12_advance 2 Sh Sh 260 [(2, v0), (9, 0)] [] Sh σ := by
  unfold f_X12_advance_b260 at h
  refine E_aload_n d_X12_advance_260 rfl (by decide) ?_
  refine E_dupT d_X12_advance_261 (by decide) ?_
  refine E_get d_X12_advance_262 okX12 fl_X12_115 ⟨by decide, rfl⟩ h (fun x64 h => ?_)
  refine E_iconst d_X12_advance_265 (c32 rfl) ?_
  refine E_iadd d_X12_advance_266 ?_
  refine E_put d_X12_advance_267 okX12 fl_X12_115 ⟨by decide, rfl⟩ (Or.inl ⟨rfl, rfl⟩) (Or.inl rfl) h (fun σ65 h => ?_)
  refine E_goto (tgt := 210) d_X12_advance_270 (by decide) ?_
  exact (hk210 h)
noncomputable def f_X12_advance_b292 (s0 s1 : Int) (σ : Mem) : Option (Mem) :=
  (pf Sh σ 12 s1 14 s0).bind fun σ66 =>
  some σ66
theorem L_X12_advance_b292 {sc : Nat × (Nat → Int32)} {o : Mem} {s0 s1 : Int} {σ : Mem} (h : f_X12_advance_b292 s0 s1 σ = some o) : E sc (Fm Sh none Sh o) mt_X12_advance 2 Sh Sh 292 [(9, 0), (9, 0)] [(0, s0), (2, s1)] Sh σ := by
  unfold f_X12_advance_b292 at h
  refine E_put d_X12_advance_292 okX12 fl_X12_124 ⟨by decide, rfl⟩ (Or.inl ⟨rfl, rfl⟩) (Or.inl rfl) h (fun σ66 h => ?_)
  refine E_goto (tgt := 330) d_X12_advance_295 (by decide) ?_
  cases h
  exact E_vret d_X12_advance_330 rfl
noncomputable def f_X12_advance_b210 (k210 : (Int → Mem → Option (Mem))) (v0 : Int) (σ : Mem) : Option (Mem) :=
  (gf Sh σ 12 v0 16).bind fun x50 =>
  (f_X12_look2 v0 x50 σ).bind fun r51 =>
  (f_X12_isDigit r51 σ).bind fun r53 =>
  if r53 = 0 then
    (gf Sh σ 12 v0 16).bind fun x55 =>
    (gf Sh σ 12 v0 15).bind fun x56 =>
    if w32 (x55 - x56) ≤ 4 then
      f_X12_advance_b292 2 v0 σ
    else
      f_X12_advance_b292 4 v0 σ
  else
    (gf Sh σ 12 v0 16).bind fun x57 =>
    (gf Sh σ 12 v0 15).bind fun x58 =>
    if 4 ≤ w32 (x57 - x58) then
      f_X12_advance_b260 k210 v0 σ
    else
      (gf Sh σ 12 v0 17).bind fun x59 =>
      (gf Sh σ 12 v0 16).bind fun x60 =>
      (f_X12_look2 v0 x60 σ).bind fun r61 =>
      (pf Sh σ 12 v0 17 (w32 (w32 (w32 (10 * x59) + r61) - 48))).bind fun σ63 =>
      f_X12_advance_b260 k210 v0 σ63
theorem L_X12_advance_b210 {sc : Nat × (Nat → Int32)} {o : Mem} {k210 : (Int → Mem → Option (Mem))} (hk210 : ∀ {v0 : Int} {σ : Mem}, k210 v0 σ = some o → E sc (Fm Sh none Sh o) mt_X12_advance 2 Sh Sh 210 [(2, v0), (9, 0)] [] Sh σ) {v0 : Int} {σ : Mem} (h : f_X12_advance_b210 k210 v0 σ = some o) : E sc (Fm Sh none Sh o) mt_X12_advance 2 Sh Sh 210 [(2, v0), (9, 0)] [] Sh σ := by
  unfold f_X12_advance_b210 at h
  refine E_aload_n d_X12_advance_210 rfl (by decide) ?_
  refine E_aload_n d_X12_advance_211 rfl (by decide) ?_
  refine E_get d_X12_advance_212 okX12 fl_X12_115 ⟨by decide, rfl⟩ h (fun x50 h => ?_)
  refine bd h (fun r51 q52 h => ?_)
  refine E_cV (as := [(0, x50)]) (st := []) (a := v0) d_X12_advance_215 mk_X12_look2 nl_X12_121 (by omega) ⟨rfl, rfl, Nat.le_of_ble_eq_true rfl⟩ okX12 rfl (L_X12_look2 q52) ?_
  refine bd h (fun r53 q54 h => ?_)
  refine E_cS (as := [(0, r51)]) (st := []) d_X12_advance_218 mk_X12_isDigit nl_X12_140 (by omega) ⟨rfl, rfl, Nat.le_of_ble_eq_true rfl⟩ (L_X12_isDigit q54) ?_
  refine E_if_eq (tgt := 273) d_X12_advance_221 (by decide) h (fun _ h => ?_) (fun _ h => ?_)
  · refine E_aload_n d_X12_advance_273 rfl (by decide) ?_
    refine E_aload_n d_X12_advance_274 rfl (by decide) ?_
    refine E_get d_X12_advance_275 okX12 fl_X12_115 ⟨by decide, rfl⟩ h (fun x55 h => ?_)
    refine E_aload_n d_X12_advance_278 rfl (by decide) ?_
    refine E_get d_X12_advance_279 okX12 fl_X12_118 ⟨by decide, rfl⟩ h (fun x56 h => ?_)
    refine E_isub d_X12_advance_282 ?_
    refine E_iconst d_X12_advance_283 (c32 rfl) ?_
    refine E_icmp_le (tgt := 291) d_X12_advance_284 (by decide) h (fun _ h => ?_) (fun _ h => ?_)
    · refine E_iconst d_X12_advance_291 (c32 rfl) ?_
      exact E_weak (ls' := [(9, 0), (9, 0)]) ⟨Or.inl rfl, Or.inl rfl, trivial⟩ (L_X12_advance_b292 h)
    · refine E_iconst d_X12_advance_287 (c32 rfl) ?_
      refine E_goto (tgt := 292) d_X12_advance_288 (by decide) ?_
      exact E_weak (ls' := [(9, 0), (9, 0)]) ⟨Or.inl rfl, Or.inl rfl, trivial⟩ (L_X12_advance_b292 h)
  · refine E_aload_n d_X12_advance_224 rfl (by decide) ?_
    refine E_get d_X12_advance_225 okX12 fl_X12_115 ⟨by decide, rfl⟩ h (fun x57 h => ?_)
    refine E_aload_n d_X12_advance_228 rfl (by decide) ?_
    refine E_get d_X12_advance_229 okX12 fl_X12_118 ⟨by decide, rfl⟩ h (fun x58 h => ?_)
    refine E_isub d_X12_advance_232 ?_
    refine E_iconst d_X12_advance_233 (c32 rfl) ?_
    refine E_icmp_ge (tgt := 260) d_X12_advance_234 (by decide) h (fun _ h => ?_) (fun _ h => ?_)
    · exact (L_X12_advance_b260 hk210 h)
    · refine E_aload_n d_X12_advance_237 rfl (by decide) ?_
      refine E_bipush d_X12_advance_238 (c8 rfl) ?_
      refine E_aload_n d_X12_advance_240 rfl (by decide) ?_
      refine E_get d_X12_advance_241 okX12 fl_X12_143 ⟨by decide, rfl⟩ h (fun x59 h => ?_)
      refine E_imul d_X12_advance_244 ?_
      refine E_aload_n d_X12_advance_245 rfl (by decide) ?_
      refine E_aload_n d_X12_advance_246 rfl (by decide) ?_
      refine E_get d_X12_advance_247 okX12 fl_X12_115 ⟨by decide, rfl⟩ h (fun x60 h => ?_)
      refine bd h (fun r61 q62 h => ?_)
      refine E_cV (as := [(0, x60)]) (st := [(0, w32 (10 * x59)), (2, v0)]) (a := v0) d_X12_advance_250 mk_X12_look2 nl_X12_121 (by omega) ⟨rfl, rfl, Nat.le_of_ble_eq_true rfl⟩ okX12 rfl (L_X12_look2 q62) ?_
      refine E_iadd d_X12_advance_253 ?_
      refine E_bipush d_X12_advance_254 (c8 rfl) ?_
      refine E_isub d_X12_advance_256 ?_
      refine E_put d_X12_advance_257 okX12 fl_X12_143 ⟨by decide, rfl⟩ (Or.inl ⟨rfl, rfl⟩) (Or.inl rfl) h (fun σ63 h => ?_)
      exact (L_X12_advance_b260 hk210 h)
noncomputable def f_X12_advance_h210 (n : Nat) : Int → Mem → Option (Mem) := Nat.rec (motive := fun _ => Int → Mem → Option (Mem)) (fun _ _ => none) (fun _ ih => f_X12_advance_b210 (ih)) n
theorem L_X12_advance_h210 {sc : Nat × (Nat → Int32)} {o : Mem} : ∀ (n : Nat) {v0 : Int} {σ : Mem}, f_X12_advance_h210 n v0 σ = some o → E sc (Fm Sh none Sh o) mt_X12_advance 2 Sh Sh 210 [(2, v0), (9, 0)] [] Sh σ := by
  intro n
  induction n with
  | zero => intro v0 σ h; cases h
  | succ n ih => intro v0 σ h; exact L_X12_advance_b210 (@ih) h
noncomputable def f_X12_advance_b58 (v0 : Int) (σ : Mem) : Option (Mem) :=
  (gf Sh σ 12 v0 15).bind fun x11 =>
  (pf Sh σ 12 v0 16 x11).bind fun σ12 =>
  (gf Sh σ12 12 v0 15).bind fun x13 =>
  (gf Sh σ12 12 v0 9).bind fun x14 =>
  if x13 < x14 then
    (gf Sh σ12 12 v0 15).bind fun x15 =>
    (f_X12_look2 v0 x15 σ12).bind fun r16 =>
    (f_X12_isLetter r16 σ12).bind fun r18 =>
    if r18 = 0 then
      (f_X12_isDigit r16 σ12).bind fun r20 =>
      if r20 = 0 then
        (gf Sh σ12 12 v0 15).bind fun x22 =>
        (pf Sh σ12 12 v0 16 (w32 (x22 + 1))).bind fun σ23 =>
        (pf Sh σ23 12 v0 17 r16).bind fun σ24 =>
        (f_X12_isSignByte v0 r16 σ24).bind fun r25 =>
        if r25 = 0 then
          (pf Sh σ24 12 v0 14 4).bind fun σ27 =>
          some σ27
        else
          (pf Sh σ24 12 v0 14 3).bind fun σ28 =>
          some σ28
      else
        (pf Sh σ12 12 v0 17 0).bind fun σ29 =>
        f_X12_advance_h210 FU v0 σ29
    else
      (pf Sh σ12 12 v0 14 1).bind fun σ30 =>
      (pf Sh σ30 12 v0 19 0).bind fun σ31 =>
      f_X12_advance_h109 FU v0 σ31
  else
    (pf Sh σ12 12 v0 14 0).bind fun σ32 =>
    some σ32
theorem L_X12_advance_b58 {sc : Nat × (Nat → Int32)} {o : Mem} {v0 : Int} {σ : Mem} (h : f_X12_advance_b58 v0 σ = some o) : E sc (Fm Sh none Sh o) mt_X12_advance 2 Sh Sh 58 [(2, v0), (9, 0)] [] Sh σ := by
  unfold f_X12_advance_b58 at h
  refine E_aload_n d_X12_advance_58 rfl (by decide) ?_
  refine E_aload_n d_X12_advance_59 rfl (by decide) ?_
  refine E_get d_X12_advance_60 okX12 fl_X12_118 ⟨by decide, rfl⟩ h (fun x11 h => ?_)
  refine E_put d_X12_advance_63 okX12 fl_X12_115 ⟨by decide, rfl⟩ (Or.inl ⟨rfl, rfl⟩) (Or.inl rfl) h (fun σ12 h => ?_)
  refine E_aload_n d_X12_advance_66 rfl (by decide) ?_
  refine E_get d_X12_advance_67 okX12 fl_X12_118 ⟨by decide, rfl⟩ h (fun x13 h => ?_)
  refine E_aload_n d_X12_advance_70 rfl (by decide) ?_
  refine E_get d_X12_advance_71 okX12 fl_X12_112 ⟨by decide, rfl⟩ h (fun x14 h => ?_)
  refine E_icmp_lt (tgt := 83) d_X12_advance_74 (by decide) h (fun _ h => ?_) (fun _ h => ?_)
  · refine E_aload_n d_X12_advance_83 rfl (by decide) ?_
    refine E_aload_n d_X12_advance_84 rfl (by decide) ?_
    refine E_get d_X12_advance_85 okX12 fl_X12_118 ⟨by decide, rfl⟩ h (fun x15 h => ?_)
    refine bd h (fun r16 q17 h => ?_)
    refine E_cV (as := [(0, x15)]) (st := []) (a := v0) d_X12_advance_88 mk_X12_look2 nl_X12_121 (by omega) ⟨rfl, rfl, Nat.le_of_ble_eq_true rfl⟩ okX12 rfl (L_X12_look2 q17) ?_
    refine E_istore_n d_X12_advance_91 (ls' := [(2, v0), (0, r16)]) ⟨by decide, rfl⟩ ?_
    refine E_iload_n d_X12_advance_92 rfl ?_
    refine bd h (fun r18 q19 h => ?_)
    refine E_cS (as := [(0, r16)]) (st := []) d_X12_advance_93 mk_X12_isLetter nl_X12_127 (by omega) ⟨rfl, rfl, Nat.le_of_ble_eq_true rfl⟩ (L_X12_isLetter q19) ?_
    refine E_if_eq (tgt := 198) d_X12_advance_96 (by decide) h (fun _ h => ?_) (fun _ h => ?_)
    · refine E_iload_n d_X12_advance_198 rfl ?_
      refine bd h (fun r20 q21 h => ?_)
      refine E_cS (as := [(0, r16)]) (st := []) d_X12_advance_199 mk_X12_isDigit nl_X12_140 (by omega) ⟨rfl, rfl, Nat.le_of_ble_eq_true rfl⟩ (L_X12_isDigit q21) ?_
      refine E_if_eq (tgt := 298) d_X12_advance_202 (by decide) h (fun _ h => ?_) (fun _ h => ?_)
      · refine E_aload_n d_X12_advance_298 rfl (by decide) ?_
        refine E_aload_n d_X12_advance_299 rfl (by decide) ?_
        refine E_get d_X12_advance_300 okX12 fl_X12_118 ⟨by decide, rfl⟩ h (fun x22 h => ?_)
        refine E_iconst d_X12_advance_303 (c32 rfl) ?_
        refine E_iadd d_X12_advance_304 ?_
        refine E_put d_X12_advance_305 okX12 fl_X12_115 ⟨by decide, rfl⟩ (Or.inl ⟨rfl, rfl⟩) (Or.inl rfl) h (fun σ23 h => ?_)
        refine E_aload_n d_X12_advance_308 rfl (by decide) ?_
        refine E_iload_n d_X12_advance_309 rfl ?_
        refine E_put d_X12_advance_310 okX12 fl_X12_143 ⟨by decide, rfl⟩ (Or.inl ⟨rfl, rfl⟩) (Or.inl rfl) h (fun σ24 h => ?_)
        refine E_aload_n d_X12_advance_313 rfl (by decide) ?_
        refine E_aload_n d_X12_advance_314 rfl (by decide) ?_
        refine E_iload_n d_X12_advance_315 rfl ?_
        refine bd h (fun r25 q26 h => ?_)
        refine E_cV (as := [(0, r16)]) (st := [(2, v0)]) (a := v0) d_X12_advance_316 mk_X12_isSignByte nl_X12_146 (by omega) ⟨rfl, rfl, Nat.le_of_ble_eq_true rfl⟩ okX12 rfl (L_X12_isSignByte q26) ?_
        refine E_if_eq (tgt := 326) d_X12_advance_319 (by decide) h (fun _ h => ?_) (fun _ h => ?_)
        · refine E_iconst d_X12_advance_326 (c32 rfl) ?_
          refine E_put d_X12_advance_327 okX12 fl_X12_124 ⟨by decide, rfl⟩ (Or.inl ⟨rfl, rfl⟩) (Or.inl rfl) h (fun σ27 h => ?_)
          cases h
          exact E_vret d_X12_advance_330 rfl
        · refine E_iconst d_X12_advance_322 (c32 rfl) ?_
          refine E_goto (tgt := 327) d_X12_advance_323 (by decide) ?_
          refine E_put d_X12_advance_327 okX12 fl_X12_124 ⟨by decide, rfl⟩ (Or.inl ⟨rfl, rfl⟩) (Or.inl rfl) h (fun σ28 h => ?_)
          cases h
          exact E_vret d_X12_advance_330 rfl
      · refine E_aload_n d_X12_advance_205 rfl (by decide) ?_
        refine E_iconst d_X12_advance_206 (c32 rfl) ?_
        refine E_put d_X12_advance_207 okX12 fl_X12_143 ⟨by decide, rfl⟩ (Or.inl ⟨rfl, rfl⟩) (Or.inl rfl) h (fun σ29 h => ?_)
        exact E_weak (ls' := [(2, v0), (9, 0)]) ⟨Or.inr rfl, Or.inl rfl, trivial⟩ (L_X12_advance_h210 FU h)
    · refine E_aload_n d_X12_advance_99 rfl (by decide) ?_
      refine E_iconst d_X12_advance_100 (c32 rfl) ?_
      refine E_put d_X12_advance_101 okX12 fl_X12_124 ⟨by decide, rfl⟩ (Or.inl ⟨rfl, rfl⟩) (Or.inl rfl) h (fun σ30 h => ?_)
      refine E_aload_n d_X12_advance_104 rfl (by decide) ?_
      refine E_lconst d_X12_advance_105 cl0 ?_
      refine E_put d_X12_advance_106 okX12 fl_X12_130 ⟨by decide, rfl⟩ (Or.inr (Or.inl ⟨rfl, rfl⟩)) (Or.inl rfl) h (fun σ31 h => ?_)
      exact E_weak (ls' := [(2, v0), (9, 0)]) ⟨Or.inr rfl, Or.inl rfl, trivial⟩ (L_X12_advance_h109 FU h)
  · refine E_aload_n d_X12_advance_77 rfl (by decide) ?_
    refine E_iconst d_X12_advance_78 (c32 rfl) ?_
    refine E_put d_X12_advance_79 okX12 fl_X12_124 ⟨by decide, rfl⟩ (Or.inl ⟨rfl, rfl⟩) (Or.inl rfl) h (fun σ32 h => ?_)
    cases h
    exact E_vret d_X12_advance_82 rfl
noncomputable def f_X12_advance_b8 (k8 : (Int → Mem → Option (Mem))) (v0 : Int) (σ : Mem) : Option (Mem) :=
  (gf Sh σ 12 v0 15).bind fun x3 =>
  (gf Sh σ 12 v0 9).bind fun x4 =>
  if x4 ≤ x3 then
    f_X12_advance_b58 v0 σ
  else
    (gf Sh σ 12 v0 15).bind fun x5 =>
    (f_X12_look2 v0 x5 σ).bind fun r6 =>
    if r6 = 10 then
      f_X12_advance_b45 k8 v0 σ
    else
      (gf Sh σ 12 v0 15).bind fun x8 =>
      (f_X12_look2 v0 x8 σ).bind fun r9 =>
      if r9 = 32 then
        f_X12_advance_b45 k8 v0 σ
      else
        f_X12_advance_b58 v0 σ
theorem L_X12_advance_b8 {sc : Nat × (Nat → Int32)} {o : Mem} {k8 : (Int → Mem → Option (Mem))} (hk8 : ∀ {v0 : Int} {σ : Mem}, k8 v0 σ = some o → E sc (Fm Sh none Sh o) mt_X12_advance 2 Sh Sh 8 [(2, v0), (9, 0)] [] Sh σ) {v0 : Int} {σ : Mem} (h : f_X12_advance_b8 k8 v0 σ = some o) : E sc (Fm Sh none Sh o) mt_X12_advance 2 Sh Sh 8 [(2, v0), (9, 0)] [] Sh σ := by
  unfold f_X12_advance_b8 at h
  refine E_aload_n d_X12_advance_8 rfl (by decide) ?_
  refine E_get d_X12_advance_9 okX12 fl_X12_118 ⟨by decide, rfl⟩ h (fun x3 h => ?_)
  refine E_aload_n d_X12_advance_12 rfl (by decide) ?_
  refine E_get d_X12_advance_13 okX12 fl_X12_112 ⟨by decide, rfl⟩ h (fun x4 h => ?_)
  refine E_icmp_ge (tgt := 58) d_X12_advance_16 (by decide) h (fun _ h => ?_) (fun _ h => ?_)
  · exact (L_X12_advance_b58 h)
  · refine E_aload_n d_X12_advance_19 rfl (by decide) ?_
    refine E_aload_n d_X12_advance_20 rfl (by decide) ?_
    refine E_get d_X12_advance_21 okX12 fl_X12_118 ⟨by decide, rfl⟩ h (fun x5 h => ?_)
    refine bd h (fun r6 q7 h => ?_)
    refine E_cV (as := [(0, x5)]) (st := []) (a := v0) d_X12_advance_24 mk_X12_look2 nl_X12_121 (by omega) ⟨rfl, rfl, Nat.le_of_ble_eq_true rfl⟩ okX12 rfl (L_X12_look2 q7) ?_
    refine E_bipush d_X12_advance_27 (c8 rfl) ?_
    refine E_icmp_eq (tgt := 45) d_X12_advance_29 (by decide) h (fun _ h => ?_) (fun _ h => ?_)
    · exact (L_X12_advance_b45 hk8 h)
    · refine E_aload_n d_X12_advance_32 rfl (by decide) ?_
      refine E_aload_n d_X12_advance_33 rfl (by decide) ?_
      refine E_get d_X12_advance_34 okX12 fl_X12_118 ⟨by decide, rfl⟩ h (fun x8 h => ?_)
      refine bd h (fun r9 q10 h => ?_)
      refine E_cV (as := [(0, x8)]) (st := []) (a := v0) d_X12_advance_37 mk_X12_look2 nl_X12_121 (by omega) ⟨rfl, rfl, Nat.le_of_ble_eq_true rfl⟩ okX12 rfl (L_X12_look2 q10) ?_
      refine E_bipush d_X12_advance_40 (c8 rfl) ?_
      refine E_icmp_ne (tgt := 58) d_X12_advance_42 (by decide) h (fun _ h => ?_) (fun _ h => ?_)
      · exact (L_X12_advance_b45 hk8 h)
      · exact (L_X12_advance_b58 h)
noncomputable def f_X12_advance_h8 (n : Nat) : Int → Mem → Option (Mem) := Nat.rec (motive := fun _ => Int → Mem → Option (Mem)) (fun _ _ => none) (fun _ ih => f_X12_advance_b8 (ih)) n
theorem L_X12_advance_h8 {sc : Nat × (Nat → Int32)} {o : Mem} : ∀ (n : Nat) {v0 : Int} {σ : Mem}, f_X12_advance_h8 n v0 σ = some o → E sc (Fm Sh none Sh o) mt_X12_advance 2 Sh Sh 8 [(2, v0), (9, 0)] [] Sh σ := by
  intro n
  induction n with
  | zero => intro v0 σ h; cases h
  | succ n ih => intro v0 σ h; exact L_X12_advance_b8 (@ih) h
noncomputable def f_X12_advance_b0 (v0 : Int) (σ : Mem) : Option (Mem) :=
  (gf Sh σ 12 v0 16).bind fun x1 =>
  (pf Sh σ 12 v0 15 x1).bind fun σ2 =>
  f_X12_advance_h8 FU v0 σ2
theorem L_X12_advance_b0 {sc : Nat × (Nat → Int32)} {o : Mem} {v0 : Int} {σ : Mem} (h : f_X12_advance_b0 v0 σ = some o) : E sc (Fm Sh none Sh o) mt_X12_advance 2 Sh Sh 0 [(2, v0), (9, 0)] [] Sh σ := by
  unfold f_X12_advance_b0 at h
  refine E_aload_n d_X12_advance_0 rfl (by decide) ?_
  refine E_aload_n d_X12_advance_1 rfl (by decide) ?_
  refine E_get d_X12_advance_2 okX12 fl_X12_115 ⟨by decide, rfl⟩ h (fun x1 h => ?_)
  refine E_put d_X12_advance_5 okX12 fl_X12_118 ⟨by decide, rfl⟩ (Or.inl ⟨rfl, rfl⟩) (Or.inl rfl) h (fun σ2 h => ?_)
  exact (L_X12_advance_h8 FU h)
noncomputable def f_X12_advance (v0 : Int) (σ : Mem) : Option (Mem) := if isO Sh 12 v0 = true then f_X12_advance_b0 v0 σ else none
theorem L_X12_advance {o : Mem} {v0 : Int} {σ : Mem} (h : f_X12_advance v0 σ = some o) : (isO Sh 12 v0 = true ∧ Cn mt_X12_advance 2 [(2, v0)] Sh σ none Sh o) := ⟨(ite_ok h).1, Cn_of mk_X12_advance.1.2.2.1 (Nat.le_of_ble_eq_true rfl) (fun sc => L_X12_advance_b0 (ite_ok h).2)⟩
theorem d_X12_starts_0 : decode mt_X12_starts.2.1 0 = .ok (.iload_n 1, 1) := by decide +kernel
theorem d_X12_starts_1 : decode mt_X12_starts.2.1 1 = .ok (.ifCond .lt 16, 3) := by decide +kernel
theorem d_X12_starts_4 : decode mt_X12_starts.2.1 4 = .ok (.iload_n 1, 1) := by decide +kernel
theorem d_X12_starts_5 : decode mt_X12_starts.2.1 5 = .ok (.aload_n 0, 1) := by decide +kernel
theorem d_X12_starts_6 : decode mt_X12_starts.2.1 6 = .ok (.getfield 223, 3) := by decide +kernel
theorem d_X12_starts_9 : decode mt_X12_starts.2.1 9 = .ok (.if_icmp .gt 8, 3) := by decide +kernel
theorem d_X12_starts_12 : decode mt_X12_starts.2.1 12 = .ok (.iload_n 1, 1) := by decide +kernel
theorem d_X12_starts_13 : decode mt_X12_starts.2.1 13 = .ok (.iload_n 2, 1) := by decide +kernel
theorem d_X12_starts_14 : decode mt_X12_starts.2.1 14 = .ok (.if_icmp .le 9, 3) := by decide +kernel
theorem d_X12_starts_17 : decode mt_X12_starts.2.1 17 = .ok (.aload_n 0, 1) := by decide +kernel
theorem d_X12_starts_18 : decode mt_X12_starts.2.1 18 = .ok (.iconst 5, 1) := by decide +kernel
theorem d_X12_starts_19 : decode mt_X12_starts.2.1 19 = .ok (.invokevirtual 85, 3) := by decide +kernel
theorem d_X12_starts_22 : decode mt_X12_starts.2.1 22 = .ok (.ireturn, 1) := by decide +kernel
theorem d_X12_starts_23 : decode mt_X12_starts.2.1 23 = .ok (.aload_n 0, 1) := by decide +kernel
theorem d_X12_starts_24 : decode mt_X12_starts.2.1 24 = .ok (.iload_n 1, 1) := by decide +kernel
theorem d_X12_starts_25 : decode mt_X12_starts.2.1 25 = .ok (.putfield 112, 3) := by decide +kernel
theorem d_X12_starts_28 : decode mt_X12_starts.2.1 28 = .ok (.aload_n 0, 1) := by decide +kernel
theorem d_X12_starts_29 : decode mt_X12_starts.2.1 29 = .ok (.iconst 0, 1) := by decide +kernel
theorem d_X12_starts_30 : decode mt_X12_starts.2.1 30 = .ok (.putfield 223, 3) := by decide +kernel
theorem d_X12_starts_33 : decode mt_X12_starts.2.1 33 = .ok (.aload_n 0, 1) := by decide +kernel
theorem d_X12_starts_34 : decode mt_X12_starts.2.1 34 = .ok (.iconst 0, 1) := by decide +kernel
theorem d_X12_starts_35 : decode mt_X12_starts.2.1 35 = .ok (.putfield 115, 3) := by decide +kernel
theorem d_X12_starts_38 : decode mt_X12_starts.2.1 38 = .ok (.aload_n 0, 1) := by decide +kernel
theorem d_X12_starts_39 : decode mt_X12_starts.2.1 39 = .ok (.iconst 0, 1) := by decide +kernel
theorem d_X12_starts_40 : decode mt_X12_starts.2.1 40 = .ok (.putfield 200, 3) := by decide +kernel
theorem d_X12_starts_43 : decode mt_X12_starts.2.1 43 = .ok (.aload_n 0, 1) := by decide +kernel
theorem d_X12_starts_44 : decode mt_X12_starts.2.1 44 = .ok (.invokevirtual 210, 3) := by decide +kernel
theorem d_X12_starts_47 : decode mt_X12_starts.2.1 47 = .ok (.iconst 1, 1) := by decide +kernel
theorem d_X12_starts_48 : decode mt_X12_starts.2.1 48 = .ok (.ireturn, 1) := by decide +kernel
noncomputable def f_X12_starts_b17 (v0 : Int) (σ : Mem) : Option (Int × Mem) :=
  (f_X12_no v0 5 σ).bind fun r8 =>
  (bz r8.1).bind fun _ =>
  some (r8.1, r8.2)
theorem L_X12_starts_b17 {sc : Nat × (Nat → Int32)} {o : Int × Mem} {v0 : Int} {σ : Mem} (h : f_X12_starts_b17 v0 σ = some o) : E sc (Fm Sh (some (0, o.1)) Sh o.2) mt_X12_starts 3 Sh Sh 17 [(2, v0), (9, 0), (9, 0)] [] Sh σ := by
  unfold f_X12_starts_b17 at h
  refine E_aload_n d_X12_starts_17 rfl (by decide) ?_
  refine E_iconst d_X12_starts_18 (c32 rfl) ?_
  refine bd h (fun r8 q9 h => ?_)
  refine E_cV (as := [(0, 5)]) (st := []) (a := v0) d_X12_starts_19 mk_X12_no nl_X12_85 (by omega) ⟨rfl, rfl, Nat.le_of_ble_eq_true rfl⟩ okX12 rfl (L_X12_no q9) ?_
  refine bd_bz h (fun q10 h => ?_)
  cases h
  exact E_zret d_X12_starts_22 rfl q10
noncomputable def f_X12_starts_b0 (v0 v1 v2 : Int) (σ : Mem) : Option (Int × Mem) :=
  if v1 < 0 then
    f_X12_starts_b17 v0 σ
  else
    (gf Sh σ 12 v0 8).bind fun x1 =>
    if x1 < v1 then
      f_X12_starts_b17 v0 σ
    else
      if v1 ≤ v2 then
        (pf Sh σ 12 v0 9 v1).bind fun σ2 =>
        (pf Sh σ2 12 v0 8 0).bind fun σ3 =>
        (pf Sh σ3 12 v0 16 0).bind fun σ4 =>
        (pf Sh σ4 12 v0 12 0).bind fun σ5 =>
        (f_X12_advance v0 σ5).bind fun r6 =>
        some (1, r6)
      else
        f_X12_starts_b17 v0 σ
theorem L_X12_starts_b0 {sc : Nat × (Nat → Int32)} {o : Int × Mem} {v0 v1 v2 : Int} {σ : Mem} (h : f_X12_starts_b0 v0 v1 v2 σ = some o) : E sc (Fm Sh (some (0, o.1)) Sh o.2) mt_X12_starts 3 Sh Sh 0 [(2, v0), (0, v1), (0, v2)] [] Sh σ := by
  unfold f_X12_starts_b0 at h
  refine E_iload_n d_X12_starts_0 rfl ?_
  refine E_if_lt (tgt := 17) d_X12_starts_1 (by decide) h (fun _ h => ?_) (fun _ h => ?_)
  · exact E_weak (ls' := [(2, v0), (9, 0), (9, 0)]) ⟨Or.inr rfl, Or.inl rfl, Or.inl rfl, trivial⟩ (L_X12_starts_b17 h)
  · refine E_iload_n d_X12_starts_4 rfl ?_
    refine E_aload_n d_X12_starts_5 rfl (by decide) ?_
    refine E_get d_X12_starts_6 okX12 fl_X12_223 ⟨by decide, rfl⟩ h (fun x1 h => ?_)
    refine E_icmp_gt (tgt := 17) d_X12_starts_9 (by decide) h (fun _ h => ?_) (fun _ h => ?_)
    · exact E_weak (ls' := [(2, v0), (9, 0), (9, 0)]) ⟨Or.inr rfl, Or.inl rfl, Or.inl rfl, trivial⟩ (L_X12_starts_b17 h)
    · refine E_iload_n d_X12_starts_12 rfl ?_
      refine E_iload_n d_X12_starts_13 rfl ?_
      refine E_icmp_le (tgt := 23) d_X12_starts_14 (by decide) h (fun _ h => ?_) (fun _ h => ?_)
      · refine E_aload_n d_X12_starts_23 rfl (by decide) ?_
        refine E_iload_n d_X12_starts_24 rfl ?_
        refine E_put d_X12_starts_25 okX12 fl_X12_112 ⟨by decide, rfl⟩ (Or.inl ⟨rfl, rfl⟩) (Or.inl rfl) h (fun σ2 h => ?_)
        refine E_aload_n d_X12_starts_28 rfl (by decide) ?_
        refine E_iconst d_X12_starts_29 (c32 rfl) ?_
        refine E_put d_X12_starts_30 okX12 fl_X12_223 ⟨by decide, rfl⟩ (Or.inl ⟨rfl, rfl⟩) (Or.inl rfl) h (fun σ3 h => ?_)
        refine E_aload_n d_X12_starts_33 rfl (by decide) ?_
        refine E_iconst d_X12_starts_34 (c32 rfl) ?_
        refine E_put d_X12_starts_35 okX12 fl_X12_115 ⟨by decide, rfl⟩ (Or.inl ⟨rfl, rfl⟩) (Or.inl rfl) h (fun σ4 h => ?_)
        refine E_aload_n d_X12_starts_38 rfl (by decide) ?_
        refine E_iconst d_X12_starts_39 (c32 rfl) ?_
        refine E_put d_X12_starts_40 okX12 fl_X12_200 ⟨by decide, rfl⟩ (Or.inl ⟨rfl, rfl⟩) (Or.inl rfl) h (fun σ5 h => ?_)
        refine E_aload_n d_X12_starts_43 rfl (by decide) ?_
        refine bd h (fun r6 q7 h => ?_)
        refine E_cVv (as := []) (st := []) (a := v0) d_X12_starts_44 mk_X12_advance nl_X12_210 (by omega) ⟨rfl, rfl, Nat.le_of_ble_eq_true rfl⟩ okX12 rfl (L_X12_advance q7) ?_
        refine E_iconst d_X12_starts_47 (c32 rfl) ?_
        cases h
        exact E_zret d_X12_starts_48 rfl (Or.inr rfl)
      · exact E_weak (ls' := [(2, v0), (9, 0), (9, 0)]) ⟨Or.inr rfl, Or.inl rfl, Or.inl rfl, trivial⟩ (L_X12_starts_b17 h)
noncomputable def f_X12_starts (v0 v1 v2 : Int) (σ : Mem) : Option (Int × Mem) := if isO Sh 12 v0 = true then f_X12_starts_b0 v0 v1 v2 σ else none
theorem L_X12_starts {o : Int × Mem} {v0 v1 v2 : Int} {σ : Mem} (h : f_X12_starts v0 v1 v2 σ = some o) : (isO Sh 12 v0 = true ∧ Cn mt_X12_starts 3 [(2, v0), (0, v1), (0, v2)] Sh σ (some (0, o.1)) Sh o.2) := ⟨(ite_ok h).1, Cn_of mk_X12_starts.1.2.2.1 (Nat.le_of_ble_eq_true rfl) (fun sc => L_X12_starts_b0 (ite_ok h).2)⟩
theorem d_X12_spelled_0 : decode mt_X12_spelled.2.1 0 = .ok (.iload_n 0, 1) := by decide +kernel
theorem d_X12_spelled_1 : decode mt_X12_spelled.2.1 1 = .ok (.i2l, 1) := by decide +kernel
theorem d_X12_spelled_2 : decode mt_X12_spelled.2.1 2 = .ok (.ldc2_w 135, 3) := by decide +kernel
theorem d_X12_spelled_5 : decode mt_X12_spelled.2.1 5 = .ok (.lsub, 1) := by decide +kernel
theorem d_X12_spelled_6 : decode mt_X12_spelled.2.1 6 = .ok (.ldc2_w 133, 3) := by decide +kernel
theorem d_X12_spelled_9 : decode mt_X12_spelled.2.1 9 = .ok (.lmul, 1) := by decide +kernel
theorem d_X12_spelled_10 : decode mt_X12_spelled.2.1 10 = .ok (.iload_n 1, 1) := by decide +kernel
theorem d_X12_spelled_11 : decode mt_X12_spelled.2.1 11 = .ok (.i2l, 1) := by decide +kernel
theorem d_X12_spelled_12 : decode mt_X12_spelled.2.1 12 = .ok (.ladd, 1) := by decide +kernel
theorem d_X12_spelled_13 : decode mt_X12_spelled.2.1 13 = .ok (.ldc2_w 135, 3) := by decide +kernel
theorem d_X12_spelled_16 : decode mt_X12_spelled.2.1 16 = .ok (.lsub, 1) := by decide +kernel
theorem d_X12_spelled_17 : decode mt_X12_spelled.2.1 17 = .ok (.lstore 6, 2) := by decide +kernel
theorem d_X12_spelled_19 : decode mt_X12_spelled.2.1 19 = .ok (.iload_n 2, 1) := by decide +kernel
theorem d_X12_spelled_20 : decode mt_X12_spelled.2.1 20 = .ok (.ifCond .le 19, 3) := by decide +kernel
theorem d_X12_spelled_23 : decode mt_X12_spelled.2.1 23 = .ok (.lload 6, 2) := by decide +kernel
theorem d_X12_spelled_25 : decode mt_X12_spelled.2.1 25 = .ok (.ldc2_w 133, 3) := by decide +kernel
theorem d_X12_spelled_28 : decode mt_X12_spelled.2.1 28 = .ok (.lmul, 1) := by decide +kernel
theorem d_X12_spelled_29 : decode mt_X12_spelled.2.1 29 = .ok (.iload_n 2, 1) := by decide +kernel
theorem d_X12_spelled_30 : decode mt_X12_spelled.2.1 30 = .ok (.i2l, 1) := by decide +kernel
theorem d_X12_spelled_31 : decode mt_X12_spelled.2.1 31 = .ok (.ladd, 1) := by decide +kernel
theorem d_X12_spelled_32 : decode mt_X12_spelled.2.1 32 = .ok (.ldc2_w 135, 3) := by decide +kernel
theorem d_X12_spelled_35 : decode mt_X12_spelled.2.1 35 = .ok (.lsub, 1) := by decide +kernel
theorem d_X12_spelled_36 : decode mt_X12_spelled.2.1 36 = .ok (.goto 5, 3) := by decide +kernel
theorem d_X12_spelled_39 : decode mt_X12_spelled.2.1 39 = .ok (.lload 6, 2) := by decide +kernel
theorem d_X12_spelled_41 : decode mt_X12_spelled.2.1 41 = .ok (.lstore 6, 2) := by decide +kernel
theorem d_X12_spelled_43 : decode mt_X12_spelled.2.1 43 = .ok (.iload_n 3, 1) := by decide +kernel
theorem d_X12_spelled_44 : decode mt_X12_spelled.2.1 44 = .ok (.ifCond .le 19, 3) := by decide +kernel
theorem d_X12_spelled_47 : decode mt_X12_spelled.2.1 47 = .ok (.lload 6, 2) := by decide +kernel
theorem d_X12_spelled_49 : decode mt_X12_spelled.2.1 49 = .ok (.ldc2_w 133, 3) := by decide +kernel
theorem d_X12_spelled_52 : decode mt_X12_spelled.2.1 52 = .ok (.lmul, 1) := by decide +kernel
theorem d_X12_spelled_53 : decode mt_X12_spelled.2.1 53 = .ok (.iload_n 3, 1) := by decide +kernel
theorem d_X12_spelled_54 : decode mt_X12_spelled.2.1 54 = .ok (.i2l, 1) := by decide +kernel
theorem d_X12_spelled_55 : decode mt_X12_spelled.2.1 55 = .ok (.ladd, 1) := by decide +kernel
theorem d_X12_spelled_56 : decode mt_X12_spelled.2.1 56 = .ok (.ldc2_w 135, 3) := by decide +kernel
theorem d_X12_spelled_59 : decode mt_X12_spelled.2.1 59 = .ok (.lsub, 1) := by decide +kernel
theorem d_X12_spelled_60 : decode mt_X12_spelled.2.1 60 = .ok (.goto 5, 3) := by decide +kernel
theorem d_X12_spelled_63 : decode mt_X12_spelled.2.1 63 = .ok (.lload 6, 2) := by decide +kernel
theorem d_X12_spelled_65 : decode mt_X12_spelled.2.1 65 = .ok (.lstore 6, 2) := by decide +kernel
theorem d_X12_spelled_67 : decode mt_X12_spelled.2.1 67 = .ok (.iload 4, 2) := by decide +kernel
theorem d_X12_spelled_69 : decode mt_X12_spelled.2.1 69 = .ok (.ifCond .le 20, 3) := by decide +kernel
theorem d_X12_spelled_72 : decode mt_X12_spelled.2.1 72 = .ok (.lload 6, 2) := by decide +kernel
theorem d_X12_spelled_74 : decode mt_X12_spelled.2.1 74 = .ok (.ldc2_w 133, 3) := by decide +kernel
theorem d_X12_spelled_77 : decode mt_X12_spelled.2.1 77 = .ok (.lmul, 1) := by decide +kernel
theorem d_X12_spelled_78 : decode mt_X12_spelled.2.1 78 = .ok (.iload 4, 2) := by decide +kernel
theorem d_X12_spelled_80 : decode mt_X12_spelled.2.1 80 = .ok (.i2l, 1) := by decide +kernel
theorem d_X12_spelled_81 : decode mt_X12_spelled.2.1 81 = .ok (.ladd, 1) := by decide +kernel
theorem d_X12_spelled_82 : decode mt_X12_spelled.2.1 82 = .ok (.ldc2_w 135, 3) := by decide +kernel
theorem d_X12_spelled_85 : decode mt_X12_spelled.2.1 85 = .ok (.lsub, 1) := by decide +kernel
theorem d_X12_spelled_86 : decode mt_X12_spelled.2.1 86 = .ok (.goto 5, 3) := by decide +kernel
theorem d_X12_spelled_89 : decode mt_X12_spelled.2.1 89 = .ok (.lload 6, 2) := by decide +kernel
theorem d_X12_spelled_91 : decode mt_X12_spelled.2.1 91 = .ok (.lstore 6, 2) := by decide +kernel
theorem d_X12_spelled_93 : decode mt_X12_spelled.2.1 93 = .ok (.iload 5, 2) := by decide +kernel
theorem d_X12_spelled_95 : decode mt_X12_spelled.2.1 95 = .ok (.ifCond .le 20, 3) := by decide +kernel
theorem d_X12_spelled_98 : decode mt_X12_spelled.2.1 98 = .ok (.lload 6, 2) := by decide +kernel
theorem d_X12_spelled_100 : decode mt_X12_spelled.2.1 100 = .ok (.ldc2_w 133, 3) := by decide +kernel
theorem d_X12_spelled_103 : decode mt_X12_spelled.2.1 103 = .ok (.lmul, 1) := by decide +kernel
theorem d_X12_spelled_104 : decode mt_X12_spelled.2.1 104 = .ok (.iload 5, 2) := by decide +kernel
theorem d_X12_spelled_106 : decode mt_X12_spelled.2.1 106 = .ok (.i2l, 1) := by decide +kernel
theorem d_X12_spelled_107 : decode mt_X12_spelled.2.1 107 = .ok (.ladd, 1) := by decide +kernel
theorem d_X12_spelled_108 : decode mt_X12_spelled.2.1 108 = .ok (.ldc2_w 135, 3) := by decide +kernel
theorem d_X12_spelled_111 : decode mt_X12_spelled.2.1 111 = .ok (.lsub, 1) := by decide +kernel
theorem d_X12_spelled_112 : decode mt_X12_spelled.2.1 112 = .ok (.goto 5, 3) := by decide +kernel
theorem d_X12_spelled_115 : decode mt_X12_spelled.2.1 115 = .ok (.lload 6, 2) := by decide +kernel
theorem d_X12_spelled_117 : decode mt_X12_spelled.2.1 117 = .ok (.lreturn, 1) := by decide +kernel
noncomputable def f_X12_spelled_b91 (v5 s0 : Int) (σ : Mem) : Option (Int) :=
  if v5 ≤ 0 then
    some (s0)
  else
    some (w64 (w64 (w64 (s0 * 32) + v5) - 96))
theorem L_X12_spelled_b91 {sc : Nat × (Nat → Int32)} {o : Int} {σ : Mem} {v5 s0 : Int} (h : f_X12_spelled_b91 v5 s0 σ = some o) : E sc (Fm Sh (some (1, o)) Sh σ) mt_X12_spelled 1 Sh Sh 91 [(9, 0), (9, 0), (9, 0), (9, 0), (9, 0), (0, v5), (9, 0), (9, 0)] [(1, s0)] Sh σ := by
  unfold f_X12_spelled_b91 at h
  refine E_lstore d_X12_spelled_91 (ls' := [(9, 0), (9, 0), (9, 0), (9, 0), (9, 0), (0, v5), (1, s0), (9, 0)]) ⟨by decide, rfl⟩ ?_
  refine E_iload d_X12_spelled_93 rfl ?_
  refine E_if_le (tgt := 115) d_X12_spelled_95 (by decide) h (fun _ h => ?_) (fun _ h => ?_)
  · refine E_lload d_X12_spelled_115 rfl ?_
    cases h
    exact E_lret d_X12_spelled_117 rfl
  · refine E_lload d_X12_spelled_98 rfl ?_
    refine E_ldc2 d_X12_spelled_100 kw_X12_133 ?_
    refine E_lmul d_X12_spelled_103 ?_
    refine E_iload d_X12_spelled_104 rfl ?_
    refine E_i2l d_X12_spelled_106 ?_
    refine E_ladd d_X12_spelled_107 ?_
    refine E_ldc2 d_X12_spelled_108 kw_X12_135 ?_
    refine E_lsub d_X12_spelled_111 ?_
    refine E_goto (tgt := 117) d_X12_spelled_112 (by decide) ?_
    cases h
    exact E_lret d_X12_spelled_117 rfl
noncomputable def f_X12_spelled_b65 (v4 v5 s0 : Int) (σ : Mem) : Option (Int) :=
  if v4 ≤ 0 then
    f_X12_spelled_b91 v5 s0 σ
  else
    f_X12_spelled_b91 v5 (w64 (w64 (w64 (s0 * 32) + v4) - 96)) σ
theorem L_X12_spelled_b65 {sc : Nat × (Nat → Int32)} {o : Int} {σ : Mem} {v4 v5 s0 : Int} (h : f_X12_spelled_b65 v4 v5 s0 σ = some o) : E sc (Fm Sh (some (1, o)) Sh σ) mt_X12_spelled 1 Sh Sh 65 [(9, 0), (9, 0), (9, 0), (9, 0), (0, v4), (0, v5), (9, 0), (9, 0)] [(1, s0)] Sh σ := by
  unfold f_X12_spelled_b65 at h
  refine E_lstore d_X12_spelled_65 (ls' := [(9, 0), (9, 0), (9, 0), (9, 0), (0, v4), (0, v5), (1, s0), (9, 0)]) ⟨by decide, rfl⟩ ?_
  refine E_iload d_X12_spelled_67 rfl ?_
  refine E_if_le (tgt := 89) d_X12_spelled_69 (by decide) h (fun _ h => ?_) (fun _ h => ?_)
  · refine E_lload d_X12_spelled_89 rfl ?_
    exact E_weak (ls' := [(9, 0), (9, 0), (9, 0), (9, 0), (9, 0), (0, v5), (9, 0), (9, 0)]) ⟨Or.inl rfl, Or.inl rfl, Or.inl rfl, Or.inl rfl, Or.inl rfl, Or.inr rfl, Or.inl rfl, Or.inl rfl, trivial⟩ (L_X12_spelled_b91 h)
  · refine E_lload d_X12_spelled_72 rfl ?_
    refine E_ldc2 d_X12_spelled_74 kw_X12_133 ?_
    refine E_lmul d_X12_spelled_77 ?_
    refine E_iload d_X12_spelled_78 rfl ?_
    refine E_i2l d_X12_spelled_80 ?_
    refine E_ladd d_X12_spelled_81 ?_
    refine E_ldc2 d_X12_spelled_82 kw_X12_135 ?_
    refine E_lsub d_X12_spelled_85 ?_
    refine E_goto (tgt := 91) d_X12_spelled_86 (by decide) ?_
    exact E_weak (ls' := [(9, 0), (9, 0), (9, 0), (9, 0), (9, 0), (0, v5), (9, 0), (9, 0)]) ⟨Or.inl rfl, Or.inl rfl, Or.inl rfl, Or.inl rfl, Or.inl rfl, Or.inr rfl, Or.inl rfl, Or.inl rfl, trivial⟩ (L_X12_spelled_b91 h)
noncomputable def f_X12_spelled_b41 (v3 v4 v5 s0 : Int) (σ : Mem) : Option (Int) :=
  if v3 ≤ 0 then
    f_X12_spelled_b65 v4 v5 s0 σ
  else
    f_X12_spelled_b65 v4 v5 (w64 (w64 (w64 (s0 * 32) + v3) - 96)) σ
theorem L_X12_spelled_b41 {sc : Nat × (Nat → Int32)} {o : Int} {σ : Mem} {v3 v4 v5 s0 : Int} (h : f_X12_spelled_b41 v3 v4 v5 s0 σ = some o) : E sc (Fm Sh (some (1, o)) Sh σ) mt_X12_spelled 1 Sh Sh 41 [(9, 0), (9, 0), (9, 0), (0, v3), (0, v4), (0, v5), (9, 0), (9, 0)] [(1, s0)] Sh σ := by
  unfold f_X12_spelled_b41 at h
  refine E_lstore d_X12_spelled_41 (ls' := [(9, 0), (9, 0), (9, 0), (0, v3), (0, v4), (0, v5), (1, s0), (9, 0)]) ⟨by decide, rfl⟩ ?_
  refine E_iload_n d_X12_spelled_43 rfl ?_
  refine E_if_le (tgt := 63) d_X12_spelled_44 (by decide) h (fun _ h => ?_) (fun _ h => ?_)
  · refine E_lload d_X12_spelled_63 rfl ?_
    exact E_weak (ls' := [(9, 0), (9, 0), (9, 0), (9, 0), (0, v4), (0, v5), (9, 0), (9, 0)]) ⟨Or.inl rfl, Or.inl rfl, Or.inl rfl, Or.inl rfl, Or.inr rfl, Or.inr rfl, Or.inl rfl, Or.inl rfl, trivial⟩ (L_X12_spelled_b65 h)
  · refine E_lload d_X12_spelled_47 rfl ?_
    refine E_ldc2 d_X12_spelled_49 kw_X12_133 ?_
    refine E_lmul d_X12_spelled_52 ?_
    refine E_iload_n d_X12_spelled_53 rfl ?_
    refine E_i2l d_X12_spelled_54 ?_
    refine E_ladd d_X12_spelled_55 ?_
    refine E_ldc2 d_X12_spelled_56 kw_X12_135 ?_
    refine E_lsub d_X12_spelled_59 ?_
    refine E_goto (tgt := 65) d_X12_spelled_60 (by decide) ?_
    exact E_weak (ls' := [(9, 0), (9, 0), (9, 0), (9, 0), (0, v4), (0, v5), (9, 0), (9, 0)]) ⟨Or.inl rfl, Or.inl rfl, Or.inl rfl, Or.inl rfl, Or.inr rfl, Or.inr rfl, Or.inl rfl, Or.inl rfl, trivial⟩ (L_X12_spelled_b65 h)
noncomputable def f_X12_spelled_b0 (v0 v1 v2 v3 v4 v5 : Int) (σ : Mem) : Option (Int) :=
  if v2 ≤ 0 then
    f_X12_spelled_b41 v3 v4 v5 (w64 (w64 (w64 ((w64 (v0 - 96)) * 32) + v1) - 96)) σ
  else
    f_X12_spelled_b41 v3 v4 v5 (w64 (w64 (w64 ((w64 (w64 (w64 ((w64 (v0 - 96)) * 32) + v1) - 96)) * 32) + v2) - 96)) σ
theorem L_X12_spelled_b0 {sc : Nat × (Nat → Int32)} {o : Int} {σ : Mem} {v0 v1 v2 v3 v4 v5 : Int} (h : f_X12_spelled_b0 v0 v1 v2 v3 v4 v5 σ = some o) : E sc (Fm Sh (some (1, o)) Sh σ) mt_X12_spelled 1 Sh Sh 0 [(0, v0), (0, v1), (0, v2), (0, v3), (0, v4), (0, v5), (9, 0), (9, 0)] [] Sh σ := by
  unfold f_X12_spelled_b0 at h
  refine E_iload_n d_X12_spelled_0 rfl ?_
  refine E_i2l d_X12_spelled_1 ?_
  refine E_ldc2 d_X12_spelled_2 kw_X12_135 ?_
  refine E_lsub d_X12_spelled_5 ?_
  refine E_ldc2 d_X12_spelled_6 kw_X12_133 ?_
  refine E_lmul d_X12_spelled_9 ?_
  refine E_iload_n d_X12_spelled_10 rfl ?_
  refine E_i2l d_X12_spelled_11 ?_
  refine E_ladd d_X12_spelled_12 ?_
  refine E_ldc2 d_X12_spelled_13 kw_X12_135 ?_
  refine E_lsub d_X12_spelled_16 ?_
  refine E_lstore d_X12_spelled_17 (ls' := [(0, v0), (0, v1), (0, v2), (0, v3), (0, v4), (0, v5), (1, w64 (w64 (w64 ((w64 (v0 - 96)) * 32) + v1) - 96)), (9, 0)]) ⟨by decide, rfl⟩ ?_
  refine E_iload_n d_X12_spelled_19 rfl ?_
  refine E_if_le (tgt := 39) d_X12_spelled_20 (by decide) h (fun _ h => ?_) (fun _ h => ?_)
  · refine E_lload d_X12_spelled_39 rfl ?_
    exact E_weak (ls' := [(9, 0), (9, 0), (9, 0), (0, v3), (0, v4), (0, v5), (9, 0), (9, 0)]) ⟨Or.inl rfl, Or.inl rfl, Or.inl rfl, Or.inr rfl, Or.inr rfl, Or.inr rfl, Or.inl rfl, Or.inl rfl, trivial⟩ (L_X12_spelled_b41 h)
  · refine E_lload d_X12_spelled_23 rfl ?_
    refine E_ldc2 d_X12_spelled_25 kw_X12_133 ?_
    refine E_lmul d_X12_spelled_28 ?_
    refine E_iload_n d_X12_spelled_29 rfl ?_
    refine E_i2l d_X12_spelled_30 ?_
    refine E_ladd d_X12_spelled_31 ?_
    refine E_ldc2 d_X12_spelled_32 kw_X12_135 ?_
    refine E_lsub d_X12_spelled_35 ?_
    refine E_goto (tgt := 41) d_X12_spelled_36 (by decide) ?_
    exact E_weak (ls' := [(9, 0), (9, 0), (9, 0), (0, v3), (0, v4), (0, v5), (9, 0), (9, 0)]) ⟨Or.inl rfl, Or.inl rfl, Or.inl rfl, Or.inr rfl, Or.inr rfl, Or.inr rfl, Or.inl rfl, Or.inl rfl, trivial⟩ (L_X12_spelled_b41 h)
noncomputable def f_X12_spelled (v0 v1 v2 v3 v4 v5 : Int) (σ : Mem) : Option (Int) := f_X12_spelled_b0 v0 v1 v2 v3 v4 v5 σ
theorem L_X12_spelled {o : Int} {v0 v1 v2 v3 v4 v5 : Int} {σ : Mem} (h : f_X12_spelled v0 v1 v2 v3 v4 v5 σ = some o) : Cn mt_X12_spelled 1 [(0, v0), (0, v1), (0, v2), (0, v3), (0, v4), (0, v5)] Sh σ (some (1, o)) Sh σ := Cn_of mk_X12_spelled.1.2.2.1 (Nat.le_of_ble_eq_true rfl) (fun sc => L_X12_spelled_b0 h)
theorem d_X12_isWord_0 : decode mt_X12_isWord.2.1 0 = .ok (.aload_n 0, 1) := by decide +kernel
theorem d_X12_isWord_1 : decode mt_X12_isWord.2.1 1 = .ok (.getfield 124, 3) := by decide +kernel
theorem d_X12_isWord_4 : decode mt_X12_isWord.2.1 4 = .ok (.iconst 1, 1) := by decide +kernel
theorem d_X12_isWord_5 : decode mt_X12_isWord.2.1 5 = .ok (.if_icmp .ne 16, 3) := by decide +kernel
theorem d_X12_isWord_8 : decode mt_X12_isWord.2.1 8 = .ok (.aload_n 0, 1) := by decide +kernel
theorem d_X12_isWord_9 : decode mt_X12_isWord.2.1 9 = .ok (.getfield 130, 3) := by decide +kernel
theorem d_X12_isWord_12 : decode mt_X12_isWord.2.1 12 = .ok (.lload_n 1, 1) := by decide +kernel
theorem d_X12_isWord_13 : decode mt_X12_isWord.2.1 13 = .ok (.lcmp, 1) := by decide +kernel
theorem d_X12_isWord_14 : decode mt_X12_isWord.2.1 14 = .ok (.ifCond .ne 7, 3) := by decide +kernel
theorem d_X12_isWord_17 : decode mt_X12_isWord.2.1 17 = .ok (.iconst 1, 1) := by decide +kernel
theorem d_X12_isWord_18 : decode mt_X12_isWord.2.1 18 = .ok (.goto 4, 3) := by decide +kernel
theorem d_X12_isWord_21 : decode mt_X12_isWord.2.1 21 = .ok (.iconst 0, 1) := by decide +kernel
theorem d_X12_isWord_22 : decode mt_X12_isWord.2.1 22 = .ok (.ireturn, 1) := by decide +kernel
noncomputable def f_X12_isWord_b0 (v0 v1 : Int) (σ : Mem) : Option (Int) :=
  (gf Sh σ 12 v0 14).bind fun x1 =>
  if x1 = 1 then
    (gf Sh σ 12 v0 19).bind fun x2 =>
    if lcmp x2 v1 = 0 then
      some (1)
    else
      some (0)
  else
    some (0)
theorem L_X12_isWord_b0 {sc : Nat × (Nat → Int32)} {o : Int} {σ : Mem} {v0 v1 : Int} (h : f_X12_isWord_b0 v0 v1 σ = some o) : E sc (Fm Sh (some (0, o)) Sh σ) mt_X12_isWord 1 Sh Sh 0 [(2, v0), (1, v1), (9, 0)] [] Sh σ := by
  unfold f_X12_isWord_b0 at h
  refine E_aload_n d_X12_isWord_0 rfl (by decide) ?_
  refine E_get d_X12_isWord_1 okX12 fl_X12_124 ⟨by decide, rfl⟩ h (fun x1 h => ?_)
  refine E_iconst d_X12_isWord_4 (c32 rfl) ?_
  refine E_icmp_ne (tgt := 21) d_X12_isWord_5 (by decide) h (fun _ h => ?_) (fun _ h => ?_)
  · refine E_aload_n d_X12_isWord_8 rfl (by decide) ?_
    refine E_get d_X12_isWord_9 okX12 fl_X12_130 ⟨by decide, rfl⟩ h (fun x2 h => ?_)
    refine E_lload_n d_X12_isWord_12 rfl ?_
    refine E_lcmp d_X12_isWord_13 ?_
    refine E_if_ne (tgt := 21) d_X12_isWord_14 (by decide) h (fun _ h => ?_) (fun _ h => ?_)
    · refine E_iconst d_X12_isWord_17 (c32 rfl) ?_
      refine E_goto (tgt := 22) d_X12_isWord_18 (by decide) ?_
      cases h
      exact E_zret d_X12_isWord_22 rfl (Or.inr rfl)
    · refine E_iconst d_X12_isWord_21 (c32 rfl) ?_
      cases h
      exact E_zret d_X12_isWord_22 rfl (Or.inl rfl)
  · refine E_iconst d_X12_isWord_21 (c32 rfl) ?_
    cases h
    exact E_zret d_X12_isWord_22 rfl (Or.inl rfl)
noncomputable def f_X12_isWord (v0 v1 : Int) (σ : Mem) : Option (Int) := if isO Sh 12 v0 = true then f_X12_isWord_b0 v0 v1 σ else none
theorem L_X12_isWord {o : Int} {v0 v1 : Int} {σ : Mem} (h : f_X12_isWord v0 v1 σ = some o) : (isO Sh 12 v0 = true ∧ Cn mt_X12_isWord 1 [(2, v0), (1, v1)] Sh σ (some (0, o)) Sh σ) := ⟨(ite_ok h).1, Cn_of mk_X12_isWord.1.2.2.1 (Nat.le_of_ble_eq_true rfl) (fun sc => L_X12_isWord_b0 (ite_ok h).2)⟩
theorem d_X12_isOdds_0 : decode mt_X12_isOdds.2.1 0 = .ok (.aload_n 0, 1) := by decide +kernel
theorem d_X12_isOdds_1 : decode mt_X12_isOdds.2.1 1 = .ok (.bipush 111, 2) := by decide +kernel
theorem d_X12_isOdds_3 : decode mt_X12_isOdds.2.1 3 = .ok (.bipush 100, 2) := by decide +kernel
theorem d_X12_isOdds_5 : decode mt_X12_isOdds.2.1 5 = .ok (.bipush 100, 2) := by decide +kernel
theorem d_X12_isOdds_7 : decode mt_X12_isOdds.2.1 7 = .ok (.bipush 115, 2) := by decide +kernel
theorem d_X12_isOdds_9 : decode mt_X12_isOdds.2.1 9 = .ok (.iconst 0, 1) := by decide +kernel
theorem d_X12_isOdds_10 : decode mt_X12_isOdds.2.1 10 = .ok (.iconst 0, 1) := by decide +kernel
theorem d_X12_isOdds_11 : decode mt_X12_isOdds.2.1 11 = .ok (.invokestatic 149, 3) := by decide +kernel
theorem d_X12_isOdds_14 : decode mt_X12_isOdds.2.1 14 = .ok (.invokevirtual 153, 3) := by decide +kernel
theorem d_X12_isOdds_17 : decode mt_X12_isOdds.2.1 17 = .ok (.ireturn, 1) := by decide +kernel
noncomputable def f_X12_isOdds_b0 (v0 : Int) (σ : Mem) : Option (Int) :=
  (f_X12_spelled 111 100 100 115 0 0 σ).bind fun r1 =>
  (f_X12_isWord v0 r1 σ).bind fun r3 =>
  (bz r3).bind fun _ =>
  some (r3)
theorem L_X12_isOdds_b0 {sc : Nat × (Nat → Int32)} {o : Int} {σ : Mem} {v0 : Int} (h : f_X12_isOdds_b0 v0 σ = some o) : E sc (Fm Sh (some (0, o)) Sh σ) mt_X12_isOdds 2 Sh Sh 0 [(2, v0)] [] Sh σ := by
  unfold f_X12_isOdds_b0 at h
  refine E_aload_n d_X12_isOdds_0 rfl (by decide) ?_
  refine E_bipush d_X12_isOdds_1 (c8 rfl) ?_
  refine E_bipush d_X12_isOdds_3 (c8 rfl) ?_
  refine E_bipush d_X12_isOdds_5 (c8 rfl) ?_
  refine E_bipush d_X12_isOdds_7 (c8 rfl) ?_
  refine E_iconst d_X12_isOdds_9 (c32 rfl) ?_
  refine E_iconst d_X12_isOdds_10 (c32 rfl) ?_
  refine bd h (fun r1 q2 h => ?_)
  refine E_cS (as := [(0, 111), (0, 100), (0, 100), (0, 115), (0, 0), (0, 0)]) (st := [(2, v0)]) d_X12_isOdds_11 mk_X12_spelled nl_X12_149 (by omega) ⟨rfl, rfl, Nat.le_of_ble_eq_true rfl⟩ (L_X12_spelled q2) ?_
  refine bd h (fun r3 q4 h => ?_)
  refine E_cV (as := [(1, r1)]) (st := []) (a := v0) d_X12_isOdds_14 mk_X12_isWord nl_X12_153 (by omega) ⟨rfl, rfl, Nat.le_of_ble_eq_true rfl⟩ okX12 rfl (L_X12_isWord q4) ?_
  refine bd_bz h (fun q5 h => ?_)
  cases h
  exact E_zret d_X12_isOdds_17 rfl q5
noncomputable def f_X12_isOdds (v0 : Int) (σ : Mem) : Option (Int) := if isO Sh 12 v0 = true then f_X12_isOdds_b0 v0 σ else none
theorem L_X12_isOdds {o : Int} {v0 : Int} {σ : Mem} (h : f_X12_isOdds v0 σ = some o) : (isO Sh 12 v0 = true ∧ Cn mt_X12_isOdds 2 [(2, v0)] Sh σ (some (0, o)) Sh σ) := ⟨(ite_ok h).1, Cn_of mk_X12_isOdds.1.2.2.1 (Nat.le_of_ble_eq_true rfl) (fun sc => L_X12_isOdds_b0 (ite_ok h).2)⟩
theorem d_X12_fail_0 : decode mt_X12_fail.2.1 0 = .ok (.aload_n 0, 1) := by decide +kernel
theorem d_X12_fail_1 : decode mt_X12_fail.2.1 1 = .ok (.getfield 200, 3) := by decide +kernel
theorem d_X12_fail_4 : decode mt_X12_fail.2.1 4 = .ok (.ifCond .le 4, 3) := by decide +kernel
theorem d_X12_fail_7 : decode mt_X12_fail.2.1 7 = .ok (.return_, 1) := by decide +kernel
theorem d_X12_fail_8 : decode mt_X12_fail.2.1 8 = .ok (.aload_n 0, 1) := by decide +kernel
theorem d_X12_fail_9 : decode mt_X12_fail.2.1 9 = .ok (.iload_n 1, 1) := by decide +kernel
theorem d_X12_fail_10 : decode mt_X12_fail.2.1 10 = .ok (.putfield 200, 3) := by decide +kernel
theorem d_X12_fail_13 : decode mt_X12_fail.2.1 13 = .ok (.aload_n 0, 1) := by decide +kernel
theorem d_X12_fail_14 : decode mt_X12_fail.2.1 14 = .ok (.iload_n 2, 1) := by decide +kernel
theorem d_X12_fail_15 : decode mt_X12_fail.2.1 15 = .ok (.putfield 203, 3) := by decide +kernel
theorem d_X12_fail_18 : decode mt_X12_fail.2.1 18 = .ok (.return_, 1) := by decide +kernel
noncomputable def f_X12_fail_b0 (v0 v1 v2 : Int) (σ : Mem) : Option (Mem) :=
  (gf Sh σ 12 v0 12).bind fun x1 =>
  if x1 ≤ 0 then
    (pf Sh σ 12 v0 12 v1).bind fun σ2 =>
    (pf Sh σ2 12 v0 13 v2).bind fun σ3 =>
    some σ3
  else
    some σ
theorem L_X12_fail_b0 {sc : Nat × (Nat → Int32)} {o : Mem} {v0 v1 v2 : Int} {σ : Mem} (h : f_X12_fail_b0 v0 v1 v2 σ = some o) : E sc (Fm Sh none Sh o) mt_X12_fail 1 Sh Sh 0 [(2, v0), (0, v1), (0, v2)] [] Sh σ := by
  unfold f_X12_fail_b0 at h
  refine E_aload_n d_X12_fail_0 rfl (by decide) ?_
  refine E_get d_X12_fail_1 okX12 fl_X12_200 ⟨by decide, rfl⟩ h (fun x1 h => ?_)
  refine E_if_le (tgt := 8) d_X12_fail_4 (by decide) h (fun _ h => ?_) (fun _ h => ?_)
  · refine E_aload_n d_X12_fail_8 rfl (by decide) ?_
    refine E_iload_n d_X12_fail_9 rfl ?_
    refine E_put d_X12_fail_10 okX12 fl_X12_200 ⟨by decide, rfl⟩ (Or.inl ⟨rfl, rfl⟩) (Or.inl rfl) h (fun σ2 h => ?_)
    refine E_aload_n d_X12_fail_13 rfl (by decide) ?_
    refine E_iload_n d_X12_fail_14 rfl ?_
    refine E_put d_X12_fail_15 okX12 fl_X12_203 ⟨by decide, rfl⟩ (Or.inl ⟨rfl, rfl⟩) (Or.inl rfl) h (fun σ3 h => ?_)
    cases h
    exact E_vret d_X12_fail_18 rfl
  · cases h
    exact E_vret d_X12_fail_7 rfl
noncomputable def f_X12_fail (v0 v1 v2 : Int) (σ : Mem) : Option (Mem) := if isO Sh 12 v0 = true then f_X12_fail_b0 v0 v1 v2 σ else none
theorem L_X12_fail {o : Mem} {v0 v1 v2 : Int} {σ : Mem} (h : f_X12_fail v0 v1 v2 σ = some o) : (isO Sh 12 v0 = true ∧ Cn mt_X12_fail 1 [(2, v0), (0, v1), (0, v2)] Sh σ none Sh o) := ⟨(ite_ok h).1, Cn_of mk_X12_fail.1.2.2.1 (Nat.le_of_ble_eq_true rfl) (fun sc => L_X12_fail_b0 (ite_ok h).2)⟩
theorem d_X12_amiss_0 : decode mt_X12_amiss.2.1 0 = .ok (.aload_n 0, 1) := by decide +kernel
theorem d_X12_amiss_1 : decode mt_X12_amiss.2.1 1 = .ok (.aload_n 0, 1) := by decide +kernel
theorem d_X12_amiss_2 : decode mt_X12_amiss.2.1 2 = .ok (.getfield 124, 3) := by decide +kernel
theorem d_X12_amiss_5 : decode mt_X12_amiss.2.1 5 = .ok (.iconst 4, 1) := by decide +kernel
theorem d_X12_amiss_6 : decode mt_X12_amiss.2.1 6 = .ok (.if_icmp .ne 7, 3) := by decide +kernel
theorem d_X12_amiss_9 : decode mt_X12_amiss.2.1 9 = .ok (.iconst 1, 1) := by decide +kernel
theorem d_X12_amiss_10 : decode mt_X12_amiss.2.1 10 = .ok (.goto 4, 3) := by decide +kernel
theorem d_X12_amiss_13 : decode mt_X12_amiss.2.1 13 = .ok (.iconst 2, 1) := by decide +kernel
theorem d_X12_amiss_14 : decode mt_X12_amiss.2.1 14 = .ok (.aload_n 0, 1) := by decide +kernel
theorem d_X12_amiss_15 : decode mt_X12_amiss.2.1 15 = .ok (.getfield 118, 3) := by decide +kernel
theorem d_X12_amiss_18 : decode mt_X12_amiss.2.1 18 = .ok (.invokevirtual 206, 3) := by decide +kernel
theorem d_X12_amiss_21 : decode mt_X12_amiss.2.1 21 = .ok (.return_, 1) := by decide +kernel
noncomputable def f_X12_amiss_b14 (v0 s0 s1 : Int) (σ : Mem) : Option (Mem) :=
  (gf Sh σ 12 v0 15).bind fun x2 =>
  (f_X12_fail s1 s0 x2 σ).bind fun r3 =>
  some r3
theorem L_X12_amiss_b14 {sc : Nat × (Nat → Int32)} {o : Mem} {v0 s0 s1 : Int} {σ : Mem} (h : f_X12_amiss_b14 v0 s0 s1 σ = some o) : E sc (Fm Sh none Sh o) mt_X12_amiss 2 Sh Sh 14 [(2, v0)] [(0, s0), (2, s1)] Sh σ := by
  unfold f_X12_amiss_b14 at h
  refine E_aload_n d_X12_amiss_14 rfl (by decide) ?_
  refine E_get d_X12_amiss_15 okX12 fl_X12_118 ⟨by decide, rfl⟩ h (fun x2 h => ?_)
  refine bd h (fun r3 q4 h => ?_)
  refine E_cVv (as := [(0, s0), (0, x2)]) (st := []) (a := s1) d_X12_amiss_18 mk_X12_fail nl_X12_206 (by omega) ⟨rfl, rfl, Nat.le_of_ble_eq_true rfl⟩ okX12 rfl (L_X12_fail q4) ?_
  cases h
  exact E_vret d_X12_amiss_21 rfl
noncomputable def f_X12_amiss_b0 (v0 : Int) (σ : Mem) : Option (Mem) :=
  (gf Sh σ 12 v0 14).bind fun x1 =>
  if x1 = 4 then
    f_X12_amiss_b14 v0 1 v0 σ
  else
    f_X12_amiss_b14 v0 2 v0 σ
theorem L_X12_amiss_b0 {sc : Nat × (Nat → Int32)} {o : Mem} {v0 : Int} {σ : Mem} (h : f_X12_amiss_b0 v0 σ = some o) : E sc (Fm Sh none Sh o) mt_X12_amiss 2 Sh Sh 0 [(2, v0)] [] Sh σ := by
  unfold f_X12_amiss_b0 at h
  refine E_aload_n d_X12_amiss_0 rfl (by decide) ?_
  refine E_aload_n d_X12_amiss_1 rfl (by decide) ?_
  refine E_get d_X12_amiss_2 okX12 fl_X12_124 ⟨by decide, rfl⟩ h (fun x1 h => ?_)
  refine E_iconst d_X12_amiss_5 (c32 rfl) ?_
  refine E_icmp_ne (tgt := 13) d_X12_amiss_6 (by decide) h (fun _ h => ?_) (fun _ h => ?_)
  · refine E_iconst d_X12_amiss_9 (c32 rfl) ?_
    refine E_goto (tgt := 14) d_X12_amiss_10 (by decide) ?_
    exact (L_X12_amiss_b14 h)
  · refine E_iconst d_X12_amiss_13 (c32 rfl) ?_
    exact (L_X12_amiss_b14 h)
noncomputable def f_X12_amiss (v0 : Int) (σ : Mem) : Option (Mem) := if isO Sh 12 v0 = true then f_X12_amiss_b0 v0 σ else none
theorem L_X12_amiss {o : Mem} {v0 : Int} {σ : Mem} (h : f_X12_amiss v0 σ = some o) : (isO Sh 12 v0 = true ∧ Cn mt_X12_amiss 2 [(2, v0)] Sh σ none Sh o) := ⟨(ite_ok h).1, Cn_of mk_X12_amiss.1.2.2.1 (Nat.le_of_ble_eq_true rfl) (fun sc => L_X12_amiss_b0 (ite_ok h).2)⟩
theorem d_X12_isIn_0 : decode mt_X12_isIn.2.1 0 = .ok (.lload_n 0, 1) := by decide +kernel
theorem d_X12_isIn_1 : decode mt_X12_isIn.2.1 1 = .ok (.lload_n 2, 1) := by decide +kernel
theorem d_X12_isIn_2 : decode mt_X12_isIn.2.1 2 = .ok (.lcmp, 1) := by decide +kernel
theorem d_X12_isIn_3 : decode mt_X12_isIn.2.1 3 = .ok (.ifCond .lt 14, 3) := by decide +kernel
theorem d_X12_isIn_6 : decode mt_X12_isIn.2.1 6 = .ok (.lload_n 0, 1) := by decide +kernel
theorem d_X12_isIn_7 : decode mt_X12_isIn.2.1 7 = .ok (.lload 4, 2) := by decide +kernel
theorem d_X12_isIn_9 : decode mt_X12_isIn.2.1 9 = .ok (.lcmp, 1) := by decide +kernel
theorem d_X12_isIn_10 : decode mt_X12_isIn.2.1 10 = .ok (.ifCond .gt 7, 3) := by decide +kernel
theorem d_X12_isIn_13 : decode mt_X12_isIn.2.1 13 = .ok (.iconst 1, 1) := by decide +kernel
theorem d_X12_isIn_14 : decode mt_X12_isIn.2.1 14 = .ok (.goto 4, 3) := by decide +kernel
theorem d_X12_isIn_17 : decode mt_X12_isIn.2.1 17 = .ok (.iconst 0, 1) := by decide +kernel
theorem d_X12_isIn_18 : decode mt_X12_isIn.2.1 18 = .ok (.ireturn, 1) := by decide +kernel
noncomputable def f_X12_isIn_b0 (v0 v2 v4 : Int) (σ : Mem) : Option (Int) :=
  if lcmp v0 v2 < 0 then
    some (0)
  else
    if 0 < lcmp v0 v4 then
      some (0)
    else
      some (1)
theorem L_X12_isIn_b0 {sc : Nat × (Nat → Int32)} {o : Int} {σ : Mem} {v0 v2 v4 : Int} (h : f_X12_isIn_b0 v0 v2 v4 σ = some o) : E sc (Fm Sh (some (0, o)) Sh σ) mt_X12_isIn 1 Sh Sh 0 [(1, v0), (9, 0), (1, v2), (9, 0), (1, v4), (9, 0)] [] Sh σ := by
  unfold f_X12_isIn_b0 at h
  refine E_lload_n d_X12_isIn_0 rfl ?_
  refine E_lload_n d_X12_isIn_1 rfl ?_
  refine E_lcmp d_X12_isIn_2 ?_
  refine E_if_lt (tgt := 17) d_X12_isIn_3 (by decide) h (fun _ h => ?_) (fun _ h => ?_)
  · refine E_iconst d_X12_isIn_17 (c32 rfl) ?_
    cases h
    exact E_zret d_X12_isIn_18 rfl (Or.inl rfl)
  · refine E_lload_n d_X12_isIn_6 rfl ?_
    refine E_lload d_X12_isIn_7 rfl ?_
    refine E_lcmp d_X12_isIn_9 ?_
    refine E_if_gt (tgt := 17) d_X12_isIn_10 (by decide) h (fun _ h => ?_) (fun _ h => ?_)
    · refine E_iconst d_X12_isIn_17 (c32 rfl) ?_
      cases h
      exact E_zret d_X12_isIn_18 rfl (Or.inl rfl)
    · refine E_iconst d_X12_isIn_13 (c32 rfl) ?_
      refine E_goto (tgt := 18) d_X12_isIn_14 (by decide) ?_
      cases h
      exact E_zret d_X12_isIn_18 rfl (Or.inr rfl)
noncomputable def f_X12_isIn (v0 v2 v4 : Int) (σ : Mem) : Option (Int) := f_X12_isIn_b0 v0 v2 v4 σ
theorem L_X12_isIn {o : Int} {v0 v2 v4 : Int} {σ : Mem} (h : f_X12_isIn v0 v2 v4 σ = some o) : Cn mt_X12_isIn 1 [(1, v0), (1, v2), (1, v4)] Sh σ (some (0, o)) Sh σ := Cn_of mk_X12_isIn.1.2.2.1 (Nat.le_of_ble_eq_true rfl) (fun sc => L_X12_isIn_b0 h)
theorem d_X12_count_0 : decode mt_X12_count.2.1 0 = .ok (.aload_n 0, 1) := by decide +kernel
theorem d_X12_count_1 : decode mt_X12_count.2.1 1 = .ok (.getfield 200, 3) := by decide +kernel
theorem d_X12_count_4 : decode mt_X12_count.2.1 4 = .ok (.ifCond .ne 15, 3) := by decide +kernel
theorem d_X12_count_7 : decode mt_X12_count.2.1 7 = .ok (.aload_n 0, 1) := by decide +kernel
theorem d_X12_count_8 : decode mt_X12_count.2.1 8 = .ok (.getfield 124, 3) := by decide +kernel
theorem d_X12_count_11 : decode mt_X12_count.2.1 11 = .ok (.iconst 2, 1) := by decide +kernel
theorem d_X12_count_12 : decode mt_X12_count.2.1 12 = .ok (.if_icmp .eq 7, 3) := by decide +kernel
theorem d_X12_count_15 : decode mt_X12_count.2.1 15 = .ok (.aload_n 0, 1) := by decide +kernel
theorem d_X12_count_16 : decode mt_X12_count.2.1 16 = .ok (.invokevirtual 213, 3) := by decide +kernel
theorem d_X12_count_19 : decode mt_X12_count.2.1 19 = .ok (.aload_n 0, 1) := by decide +kernel
theorem d_X12_count_20 : decode mt_X12_count.2.1 20 = .ok (.getfield 200, 3) := by decide +kernel
theorem d_X12_count_23 : decode mt_X12_count.2.1 23 = .ok (.ifCond .ne 27, 3) := by decide +kernel
theorem d_X12_count_26 : decode mt_X12_count.2.1 26 = .ok (.aload_n 0, 1) := by decide +kernel
theorem d_X12_count_27 : decode mt_X12_count.2.1 27 = .ok (.getfield 143, 3) := by decide +kernel
theorem d_X12_count_30 : decode mt_X12_count.2.1 30 = .ok (.i2l, 1) := by decide +kernel
theorem d_X12_count_31 : decode mt_X12_count.2.1 31 = .ok (.iload_n 1, 1) := by decide +kernel
theorem d_X12_count_32 : decode mt_X12_count.2.1 32 = .ok (.i2l, 1) := by decide +kernel
theorem d_X12_count_33 : decode mt_X12_count.2.1 33 = .ok (.iload_n 2, 1) := by decide +kernel
theorem d_X12_count_34 : decode mt_X12_count.2.1 34 = .ok (.i2l, 1) := by decide +kernel
theorem d_X12_count_35 : decode mt_X12_count.2.1 35 = .ok (.invokestatic 104, 3) := by decide +kernel
theorem d_X12_count_38 : decode mt_X12_count.2.1 38 = .ok (.ifCond .ne 12, 3) := by decide +kernel
theorem d_X12_count_41 : decode mt_X12_count.2.1 41 = .ok (.aload_n 0, 1) := by decide +kernel
theorem d_X12_count_42 : decode mt_X12_count.2.1 42 = .ok (.iconst 4, 1) := by decide +kernel
theorem d_X12_count_43 : decode mt_X12_count.2.1 43 = .ok (.aload_n 0, 1) := by decide +kernel
theorem d_X12_count_44 : decode mt_X12_count.2.1 44 = .ok (.getfield 118, 3) := by decide +kernel
theorem d_X12_count_47 : decode mt_X12_count.2.1 47 = .ok (.invokevirtual 206, 3) := by decide +kernel
theorem d_X12_count_50 : decode mt_X12_count.2.1 50 = .ok (.aload_n 0, 1) := by decide +kernel
theorem d_X12_count_51 : decode mt_X12_count.2.1 51 = .ok (.getfield 200, 3) := by decide +kernel
theorem d_X12_count_54 : decode mt_X12_count.2.1 54 = .ok (.ifCond .le 5, 3) := by decide +kernel
theorem d_X12_count_57 : decode mt_X12_count.2.1 57 = .ok (.iconst 0, 1) := by decide +kernel
theorem d_X12_count_58 : decode mt_X12_count.2.1 58 = .ok (.ireturn, 1) := by decide +kernel
theorem d_X12_count_59 : decode mt_X12_count.2.1 59 = .ok (.aload_n 0, 1) := by decide +kernel
theorem d_X12_count_60 : decode mt_X12_count.2.1 60 = .ok (.getfield 143, 3) := by decide +kernel
theorem d_X12_count_63 : decode mt_X12_count.2.1 63 = .ok (.istore_n 3, 1) := by decide +kernel
theorem d_X12_count_64 : decode mt_X12_count.2.1 64 = .ok (.aload_n 0, 1) := by decide +kernel
theorem d_X12_count_65 : decode mt_X12_count.2.1 65 = .ok (.invokevirtual 210, 3) := by decide +kernel
theorem d_X12_count_68 : decode mt_X12_count.2.1 68 = .ok (.iload_n 3, 1) := by decide +kernel
theorem d_X12_count_69 : decode mt_X12_count.2.1 69 = .ok (.ireturn, 1) := by decide +kernel
noncomputable def f_X12_count_b50 (v0 : Int) (σ : Mem) : Option (Int × Mem) :=
  (gf Sh σ 12 v0 12).bind fun x12 =>
  if x12 ≤ 0 then
    (gf Sh σ 12 v0 17).bind fun x13 =>
    (f_X12_advance v0 σ).bind fun r14 =>
    some (x13, r14)
  else
    some (0, σ)
theorem L_X12_count_b50 {sc : Nat × (Nat → Int32)} {o : Int × Mem} {v0 : Int} {σ : Mem} (h : f_X12_count_b50 v0 σ = some o) : E sc (Fm Sh (some (0, o.1)) Sh o.2) mt_X12_count 3 Sh Sh 50 [(2, v0), (9, 0), (9, 0), (9, 0)] [] Sh σ := by
  unfold f_X12_count_b50 at h
  refine E_aload_n d_X12_count_50 rfl (by decide) ?_
  refine E_get d_X12_count_51 okX12 fl_X12_200 ⟨by decide, rfl⟩ h (fun x12 h => ?_)
  refine E_if_le (tgt := 59) d_X12_count_54 (by decide) h (fun _ h => ?_) (fun _ h => ?_)
  · refine E_aload_n d_X12_count_59 rfl (by decide) ?_
    refine E_get d_X12_count_60 okX12 fl_X12_143 ⟨by decide, rfl⟩ h (fun x13 h => ?_)
    refine E_istore_n d_X12_count_63 (ls' := [(2, v0), (9, 0), (9, 0), (0, x13)]) ⟨by decide, rfl⟩ ?_
    refine E_aload_n d_X12_count_64 rfl (by decide) ?_
    refine bd h (fun r14 q15 h => ?_)
    refine E_cVv (as := []) (st := []) (a := v0) d_X12_count_65 mk_X12_advance nl_X12_210 (by omega) ⟨rfl, rfl, Nat.le_of_ble_eq_true rfl⟩ okX12 rfl (L_X12_advance q15) ?_
    refine E_iload_n d_X12_count_68 rfl ?_
    cases h
    exact E_iret d_X12_count_69 rfl
  · refine E_iconst d_X12_count_57 (c32 rfl) ?_
    cases h
    exact E_iret d_X12_count_58 rfl
noncomputable def f_X12_count_b19 (v0 v1 v2 : Int) (σ : Mem) : Option (Int × Mem) :=
  (gf Sh σ 12 v0 12).bind fun x5 =>
  if x5 = 0 then
    (gf Sh σ 12 v0 17).bind fun x6 =>
    (f_X12_isIn x6 v1 v2 σ).bind fun r7 =>
    if r7 = 0 then
      (gf Sh σ 12 v0 15).bind fun x9 =>
      (f_X12_fail v0 4 x9 σ).bind fun r10 =>
      f_X12_count_b50 v0 r10
    else
      f_X12_count_b50 v0 σ
  else
    f_X12_count_b50 v0 σ
theorem L_X12_count_b19 {sc : Nat × (Nat → Int32)} {o : Int × Mem} {v0 v1 v2 : Int} {σ : Mem} (h : f_X12_count_b19 v0 v1 v2 σ = some o) : E sc (Fm Sh (some (0, o.1)) Sh o.2) mt_X12_count 3 Sh Sh 19 [(2, v0), (0, v1), (0, v2), (9, 0)] [] Sh σ := by
  unfold f_X12_count_b19 at h
  refine E_aload_n d_X12_count_19 rfl (by decide) ?_
  refine E_get d_X12_count_20 okX12 fl_X12_200 ⟨by decide, rfl⟩ h (fun x5 h => ?_)
  refine E_if_ne (tgt := 50) d_X12_count_23 (by decide) h (fun _ h => ?_) (fun _ h => ?_)
  · refine E_aload_n d_X12_count_26 rfl (by decide) ?_
    refine E_get d_X12_count_27 okX12 fl_X12_143 ⟨by decide, rfl⟩ h (fun x6 h => ?_)
    refine E_i2l d_X12_count_30 ?_
    refine E_iload_n d_X12_count_31 rfl ?_
    refine E_i2l d_X12_count_32 ?_
    refine E_iload_n d_X12_count_33 rfl ?_
    refine E_i2l d_X12_count_34 ?_
    refine bd h (fun r7 q8 h => ?_)
    refine E_cS (as := [(1, x6), (1, v1), (1, v2)]) (st := []) d_X12_count_35 mk_X12_isIn nl_X12_104 (by omega) ⟨rfl, rfl, Nat.le_of_ble_eq_true rfl⟩ (L_X12_isIn q8) ?_
    refine E_if_ne (tgt := 50) d_X12_count_38 (by decide) h (fun _ h => ?_) (fun _ h => ?_)
    · refine E_aload_n d_X12_count_41 rfl (by decide) ?_
      refine E_iconst d_X12_count_42 (c32 rfl) ?_
      refine E_aload_n d_X12_count_43 rfl (by decide) ?_
      refine E_get d_X12_count_44 okX12 fl_X12_118 ⟨by decide, rfl⟩ h (fun x9 h => ?_)
      refine bd h (fun r10 q11 h => ?_)
      refine E_cVv (as := [(0, 4), (0, x9)]) (st := []) (a := v0) d_X12_count_47 mk_X12_fail nl_X12_206 (by omega) ⟨rfl, rfl, Nat.le_of_ble_eq_true rfl⟩ okX12 rfl (L_X12_fail q11) ?_
      exact E_weak (ls' := [(2, v0), (9, 0), (9, 0), (9, 0)]) ⟨Or.inr rfl, Or.inl rfl, Or.inl rfl, Or.inl rfl, trivial⟩ (L_X12_count_b50 h)
    · exact E_weak (ls' := [(2, v0), (9, 0), (9, 0), (9, 0)]) ⟨Or.inr rfl, Or.inl rfl, Or.inl rfl, Or.inl rfl, trivial⟩ (L_X12_count_b50 h)
  · exact E_weak (ls' := [(2, v0), (9, 0), (9, 0), (9, 0)]) ⟨Or.inr rfl, Or.inl rfl, Or.inl rfl, Or.inl rfl, trivial⟩ (L_X12_count_b50 h)
noncomputable def f_X12_count_b0 (v0 v1 v2 : Int) (σ : Mem) : Option (Int × Mem) :=
  (gf Sh σ 12 v0 12).bind fun x1 =>
  if x1 = 0 then
    (gf Sh σ 12 v0 14).bind fun x2 =>
    if x2 = 2 then
      f_X12_count_b19 v0 v1 v2 σ
    else
      (f_X12_amiss v0 σ).bind fun r3 =>
      f_X12_count_b19 v0 v1 v2 r3
  else
    f_X12_count_b19 v0 v1 v2 σ
theorem L_X12_count_b0 {sc : Nat × (Nat → Int32)} {o : Int × Mem} {v0 v1 v2 : Int} {σ : Mem} (h : f_X12_count_b0 v0 v1 v2 σ = some o) : E sc (Fm Sh (some (0, o.1)) Sh o.2) mt_X12_count 3 Sh Sh 0 [(2, v0), (0, v1), (0, v2), (9, 0)] [] Sh σ := by
  unfold f_X12_count_b0 at h
  refine E_aload_n d_X12_count_0 rfl (by decide) ?_
  refine E_get d_X12_count_1 okX12 fl_X12_200 ⟨by decide, rfl⟩ h (fun x1 h => ?_)
  refine E_if_ne (tgt := 19) d_X12_count_4 (by decide) h (fun _ h => ?_) (fun _ h => ?_)
  · refine E_aload_n d_X12_count_7 rfl (by decide) ?_
    refine E_get d_X12_count_8 okX12 fl_X12_124 ⟨by decide, rfl⟩ h (fun x2 h => ?_)
    refine E_iconst d_X12_count_11 (c32 rfl) ?_
    refine E_icmp_eq (tgt := 19) d_X12_count_12 (by decide) h (fun _ h => ?_) (fun _ h => ?_)
    · exact (L_X12_count_b19 h)
    · refine E_aload_n d_X12_count_15 rfl (by decide) ?_
      refine bd h (fun r3 q4 h => ?_)
      refine E_cVv (as := []) (st := []) (a := v0) d_X12_count_16 mk_X12_amiss nl_X12_213 (by omega) ⟨rfl, rfl, Nat.le_of_ble_eq_true rfl⟩ okX12 rfl (L_X12_amiss q4) ?_
      exact (L_X12_count_b19 h)
  · exact (L_X12_count_b19 h)
noncomputable def f_X12_count (v0 v1 v2 : Int) (σ : Mem) : Option (Int × Mem) := if isO Sh 12 v0 = true then f_X12_count_b0 v0 v1 v2 σ else none
theorem L_X12_count {o : Int × Mem} {v0 v1 v2 : Int} {σ : Mem} (h : f_X12_count v0 v1 v2 σ = some o) : (isO Sh 12 v0 = true ∧ Cn mt_X12_count 3 [(2, v0), (0, v1), (0, v2)] Sh σ (some (0, o.1)) Sh o.2) := ⟨(ite_ok h).1, Cn_of mk_X12_count.1.2.2.1 (Nat.le_of_ble_eq_true rfl) (fun sc => L_X12_count_b0 (ite_ok h).2)⟩
theorem d_X12_readOdds_0 : decode mt_X12_readOdds.2.1 0 = .ok (.aload_n 0, 1) := by decide +kernel
theorem d_X12_readOdds_1 : decode mt_X12_readOdds.2.1 1 = .ok (.getfield 238, 3) := by decide +kernel
theorem d_X12_readOdds_4 : decode mt_X12_readOdds.2.1 4 = .ok (.ifCond .eq 12, 3) := by decide +kernel
theorem d_X12_readOdds_7 : decode mt_X12_readOdds.2.1 7 = .ok (.aload_n 0, 1) := by decide +kernel
theorem d_X12_readOdds_8 : decode mt_X12_readOdds.2.1 8 = .ok (.iconst 5, 1) := by decide +kernel
theorem d_X12_readOdds_9 : decode mt_X12_readOdds.2.1 9 = .ok (.aload_n 0, 1) := by decide +kernel
theorem d_X12_readOdds_10 : decode mt_X12_readOdds.2.1 10 = .ok (.getfield 118, 3) := by decide +kernel
theorem d_X12_readOdds_13 : decode mt_X12_readOdds.2.1 13 = .ok (.invokevirtual 206, 3) := by decide +kernel
theorem d_X12_readOdds_16 : decode mt_X12_readOdds.2.1 16 = .ok (.aload_n 0, 1) := by decide +kernel
theorem d_X12_readOdds_17 : decode mt_X12_readOdds.2.1 17 = .ok (.getfield 200, 3) := by decide +kernel
theorem d_X12_readOdds_20 : decode mt_X12_readOdds.2.1 20 = .ok (.ifCond .le 4, 3) := by decide +kernel
theorem d_X12_readOdds_23 : decode mt_X12_readOdds.2.1 23 = .ok (.return_, 1) := by decide +kernel
theorem d_X12_readOdds_24 : decode mt_X12_readOdds.2.1 24 = .ok (.aload_n 0, 1) := by decide +kernel
theorem d_X12_readOdds_25 : decode mt_X12_readOdds.2.1 25 = .ok (.iconst 1, 1) := by decide +kernel
theorem d_X12_readOdds_26 : decode mt_X12_readOdds.2.1 26 = .ok (.putfield 238, 3) := by decide +kernel
theorem d_X12_readOdds_29 : decode mt_X12_readOdds.2.1 29 = .ok (.aload_n 0, 1) := by decide +kernel
theorem d_X12_readOdds_30 : decode mt_X12_readOdds.2.1 30 = .ok (.invokevirtual 210, 3) := by decide +kernel
theorem d_X12_readOdds_33 : decode mt_X12_readOdds.2.1 33 = .ok (.aload_n 0, 1) := by decide +kernel
theorem d_X12_readOdds_34 : decode mt_X12_readOdds.2.1 34 = .ok (.getfield 35, 3) := by decide +kernel
theorem d_X12_readOdds_37 : decode mt_X12_readOdds.2.1 37 = .ok (.sipush 1310, 3) := by decide +kernel
theorem d_X12_readOdds_40 : decode mt_X12_readOdds.2.1 40 = .ok (.aload_n 0, 1) := by decide +kernel
theorem d_X12_readOdds_41 : decode mt_X12_readOdds.2.1 41 = .ok (.iconst 0, 1) := by decide +kernel
theorem d_X12_readOdds_42 : decode mt_X12_readOdds.2.1 42 = .ok (.bipush 16, 2) := by decide +kernel
theorem d_X12_readOdds_44 : decode mt_X12_readOdds.2.1 44 = .ok (.invokevirtual 220, 3) := by decide +kernel
theorem d_X12_readOdds_47 : decode mt_X12_readOdds.2.1 47 = .ok (.iastore, 1) := by decide +kernel
theorem d_X12_readOdds_48 : decode mt_X12_readOdds.2.1 48 = .ok (.return_, 1) := by decide +kernel
noncomputable def f_X12_readOdds_b16 (v0 : Int) (σ : Mem) : Option (Mem) :=
  (gf Sh σ 12 v0 12).bind fun x5 =>
  if x5 ≤ 0 then
    (pf Sh σ 12 v0 24 1).bind fun σ6 =>
    (f_X12_advance v0 σ6).bind fun r7 =>
    (gf Sh r7 12 v0 20).bind fun x9 =>
    (f_X12_count v0 0 16 r7).bind fun r10 =>
    (st_ Sh r10.2 20 x9 1310 r10.1).bind fun σ12 =>
    some σ12
  else
    some σ
theorem L_X12_readOdds_b16 {sc : Nat × (Nat → Int32)} {o : Mem} {v0 : Int} {σ : Mem} (h : f_X12_readOdds_b16 v0 σ = some o) : E sc (Fm Sh none Sh o) mt_X12_readOdds 4 Sh Sh 16 [(2, v0)] [] Sh σ := by
  unfold f_X12_readOdds_b16 at h
  refine E_aload_n d_X12_readOdds_16 rfl (by decide) ?_
  refine E_get d_X12_readOdds_17 okX12 fl_X12_200 ⟨by decide, rfl⟩ h (fun x5 h => ?_)
  refine E_if_le (tgt := 24) d_X12_readOdds_20 (by decide) h (fun _ h => ?_) (fun _ h => ?_)
  · refine E_aload_n d_X12_readOdds_24 rfl (by decide) ?_
    refine E_iconst d_X12_readOdds_25 (c32 rfl) ?_
    refine E_put d_X12_readOdds_26 okX12 fl_X12_238 ⟨by decide, rfl⟩ (Or.inr (Or.inr (Or.inl ⟨rfl, rfl, (Or.inr rfl)⟩))) (Or.inl rfl) h (fun σ6 h => ?_)
    refine E_aload_n d_X12_readOdds_29 rfl (by decide) ?_
    refine bd h (fun r7 q8 h => ?_)
    refine E_cVv (as := []) (st := []) (a := v0) d_X12_readOdds_30 mk_X12_advance nl_X12_210 (by omega) ⟨rfl, rfl, Nat.le_of_ble_eq_true rfl⟩ okX12 rfl (L_X12_advance q8) ?_
    refine E_aload_n d_X12_readOdds_33 rfl (by decide) ?_
    refine E_get d_X12_readOdds_34 okX12 fl_X12_35 ⟨by decide, rfl⟩ h (fun x9 h => ?_)
    refine E_sipush d_X12_readOdds_37 (c16 rfl) ?_
    refine E_aload_n d_X12_readOdds_40 rfl (by decide) ?_
    refine E_iconst d_X12_readOdds_41 (c32 rfl) ?_
    refine E_bipush d_X12_readOdds_42 (c8 rfl) ?_
    refine bd h (fun r10 q11 h => ?_)
    refine E_cV (as := [(0, 0), (0, 16)]) (st := [(0, 1310), (2, x9)]) (a := v0) d_X12_readOdds_44 mk_X12_count nl_X12_220 (by omega) ⟨rfl, rfl, Nat.le_of_ble_eq_true rfl⟩ okX12 rfl (L_X12_count q11) ?_
    refine E_iastore d_X12_readOdds_47 h (fun σ12 h => ?_)
    cases h
    exact E_vret d_X12_readOdds_48 rfl
  · cases h
    exact E_vret d_X12_readOdds_23 rfl
noncomputable def f_X12_readOdds_b0 (v0 : Int) (σ : Mem) : Option (Mem) :=
  (gf Sh σ 12 v0 24).bind fun x1 =>
  if x1 = 0 then
    f_X12_readOdds_b16 v0 σ
  else
    (gf Sh σ 12 v0 15).bind fun x2 =>
    (f_X12_fail v0 5 x2 σ).bind fun r3 =>
    f_X12_readOdds_b16 v0 r3
theorem L_X12_readOdds_b0 {sc : Nat × (Nat → Int32)} {o : Mem} {v0 : Int} {σ : Mem} (h : f_X12_readOdds_b0 v0 σ = some o) : E sc (Fm Sh none Sh o) mt_X12_readOdds 4 Sh Sh 0 [(2, v0)] [] Sh σ := by
  unfold f_X12_readOdds_b0 at h
  refine E_aload_n d_X12_readOdds_0 rfl (by decide) ?_
  refine E_get d_X12_readOdds_1 okX12 fl_X12_238 ⟨by decide, rfl⟩ h (fun x1 h => ?_)
  refine E_if_eq (tgt := 16) d_X12_readOdds_4 (by decide) h (fun _ h => ?_) (fun _ h => ?_)
  · exact (L_X12_readOdds_b16 h)
  · refine E_aload_n d_X12_readOdds_7 rfl (by decide) ?_
    refine E_iconst d_X12_readOdds_8 (c32 rfl) ?_
    refine E_aload_n d_X12_readOdds_9 rfl (by decide) ?_
    refine E_get d_X12_readOdds_10 okX12 fl_X12_118 ⟨by decide, rfl⟩ h (fun x2 h => ?_)
    refine bd h (fun r3 q4 h => ?_)
    refine E_cVv (as := [(0, 5), (0, x2)]) (st := []) (a := v0) d_X12_readOdds_13 mk_X12_fail nl_X12_206 (by omega) ⟨rfl, rfl, Nat.le_of_ble_eq_true rfl⟩ okX12 rfl (L_X12_fail q4) ?_
    exact (L_X12_readOdds_b16 h)
noncomputable def f_X12_readOdds (v0 : Int) (σ : Mem) : Option (Mem) := if isO Sh 12 v0 = true then f_X12_readOdds_b0 v0 σ else none
theorem L_X12_readOdds {o : Mem} {v0 : Int} {σ : Mem} (h : f_X12_readOdds v0 σ = some o) : (isO Sh 12 v0 = true ∧ Cn mt_X12_readOdds 4 [(2, v0)] Sh σ none Sh o) := ⟨(ite_ok h).1, Cn_of mk_X12_readOdds.1.2.2.1 (Nat.le_of_ble_eq_true rfl) (fun sc => L_X12_readOdds_b0 (ite_ok h).2)⟩
theorem d_X12_isStone_0 : decode mt_X12_isStone.2.1 0 = .ok (.aload_n 0, 1) := by decide +kernel
theorem d_X12_isStone_1 : decode mt_X12_isStone.2.1 1 = .ok (.bipush 115, 2) := by decide +kernel
theorem d_X12_isStone_3 : decode mt_X12_isStone.2.1 3 = .ok (.bipush 116, 2) := by decide +kernel
theorem d_X12_isStone_5 : decode mt_X12_isStone.2.1 5 = .ok (.bipush 111, 2) := by decide +kernel
theorem d_X12_isStone_7 : decode mt_X12_isStone.2.1 7 = .ok (.bipush 110, 2) := by decide +kernel
theorem d_X12_isStone_9 : decode mt_X12_isStone.2.1 9 = .ok (.bipush 101, 2) := by decide +kernel
theorem d_X12_isStone_11 : decode mt_X12_isStone.2.1 11 = .ok (.iconst 0, 1) := by decide +kernel
theorem d_X12_isStone_12 : decode mt_X12_isStone.2.1 12 = .ok (.invokestatic 149, 3) := by decide +kernel
theorem d_X12_isStone_15 : decode mt_X12_isStone.2.1 15 = .ok (.invokevirtual 153, 3) := by decide +kernel
theorem d_X12_isStone_18 : decode mt_X12_isStone.2.1 18 = .ok (.ireturn, 1) := by decide +kernel
noncomputable def f_X12_isStone_b0 (v0 : Int) (σ : Mem) : Option (Int) :=
  (f_X12_spelled 115 116 111 110 101 0 σ).bind fun r1 =>
  (f_X12_isWord v0 r1 σ).bind fun r3 =>
  (bz r3).bind fun _ =>
  some (r3)
theorem L_X12_isStone_b0 {sc : Nat × (Nat → Int32)} {o : Int} {σ : Mem} {v0 : Int} (h : f_X12_isStone_b0 v0 σ = some o) : E sc (Fm Sh (some (0, o)) Sh σ) mt_X12_isStone 2 Sh Sh 0 [(2, v0)] [] Sh σ := by
  unfold f_X12_isStone_b0 at h
  refine E_aload_n d_X12_isStone_0 rfl (by decide) ?_
  refine E_bipush d_X12_isStone_1 (c8 rfl) ?_
  refine E_bipush d_X12_isStone_3 (c8 rfl) ?_
  refine E_bipush d_X12_isStone_5 (c8 rfl) ?_
  refine E_bipush d_X12_isStone_7 (c8 rfl) ?_
  refine E_bipush d_X12_isStone_9 (c8 rfl) ?_
  refine E_iconst d_X12_isStone_11 (c32 rfl) ?_
  refine bd h (fun r1 q2 h => ?_)
  refine E_cS (as := [(0, 115), (0, 116), (0, 111), (0, 110), (0, 101), (0, 0)]) (st := [(2, v0)]) d_X12_isStone_12 mk_X12_spelled nl_X12_149 (by omega) ⟨rfl, rfl, Nat.le_of_ble_eq_true rfl⟩ (L_X12_spelled q2) ?_
  refine bd h (fun r3 q4 h => ?_)
  refine E_cV (as := [(1, r1)]) (st := []) (a := v0) d_X12_isStone_15 mk_X12_isWord nl_X12_153 (by omega) ⟨rfl, rfl, Nat.le_of_ble_eq_true rfl⟩ okX12 rfl (L_X12_isWord q4) ?_
  refine bd_bz h (fun q5 h => ?_)
  cases h
  exact E_zret d_X12_isStone_18 rfl q5
noncomputable def f_X12_isStone (v0 : Int) (σ : Mem) : Option (Int) := if isO Sh 12 v0 = true then f_X12_isStone_b0 v0 σ else none
theorem L_X12_isStone {o : Int} {v0 : Int} {σ : Mem} (h : f_X12_isStone v0 σ = some o) : (isO Sh 12 v0 = true ∧ Cn mt_X12_isStone 2 [(2, v0)] Sh σ (some (0, o)) Sh σ) := ⟨(ite_ok h).1, Cn_of mk_X12_isStone.1.2.2.1 (Nat.le_of_ble_eq_true rfl) (fun sc => L_X12_isStone_b0 (ite_ok h).2)⟩
theorem d_X12_isLenient_0 : decode mt_X12_isLenient.2.1 0 = .ok (.aload_n 0, 1) := by decide +kernel
theorem d_X12_isLenient_1 : decode mt_X12_isLenient.2.1 1 = .ok (.bipush 108, 2) := by decide +kernel
theorem d_X12_isLenient_3 : decode mt_X12_isLenient.2.1 3 = .ok (.bipush 101, 2) := by decide +kernel
theorem d_X12_isLenient_5 : decode mt_X12_isLenient.2.1 5 = .ok (.bipush 110, 2) := by decide +kernel
theorem d_X12_isLenient_7 : decode mt_X12_isLenient.2.1 7 = .ok (.bipush 105, 2) := by decide +kernel
theorem d_X12_isLenient_9 : decode mt_X12_isLenient.2.1 9 = .ok (.bipush 101, 2) := by decide +kernel
theorem d_X12_isLenient_11 : decode mt_X12_isLenient.2.1 11 = .ok (.bipush 110, 2) := by decide +kernel
theorem d_X12_isLenient_13 : decode mt_X12_isLenient.2.1 13 = .ok (.invokestatic 149, 3) := by decide +kernel
theorem d_X12_isLenient_16 : decode mt_X12_isLenient.2.1 16 = .ok (.ldc2_w 133, 3) := by decide +kernel
theorem d_X12_isLenient_19 : decode mt_X12_isLenient.2.1 19 = .ok (.lmul, 1) := by decide +kernel
theorem d_X12_isLenient_20 : decode mt_X12_isLenient.2.1 20 = .ok (.ldc2_w 157, 3) := by decide +kernel
theorem d_X12_isLenient_23 : decode mt_X12_isLenient.2.1 23 = .ok (.ladd, 1) := by decide +kernel
theorem d_X12_isLenient_24 : decode mt_X12_isLenient.2.1 24 = .ok (.ldc2_w 135, 3) := by decide +kernel
theorem d_X12_isLenient_27 : decode mt_X12_isLenient.2.1 27 = .ok (.lsub, 1) := by decide +kernel
theorem d_X12_isLenient_28 : decode mt_X12_isLenient.2.1 28 = .ok (.invokevirtual 153, 3) := by decide +kernel
theorem d_X12_isLenient_31 : decode mt_X12_isLenient.2.1 31 = .ok (.ireturn, 1) := by decide +kernel
noncomputable def f_X12_isLenient_b0 (v0 : Int) (σ : Mem) : Option (Int) :=
  (f_X12_spelled 108 101 110 105 101 110 σ).bind fun r1 =>
  (f_X12_isWord v0 (w64 (w64 (w64 (r1 * 32) + 116) - 96)) σ).bind fun r3 =>
  (bz r3).bind fun _ =>
  some (r3)
theorem L_X12_isLenient_b0 {sc : Nat × (Nat → Int32)} {o : Int} {σ : Mem} {v0 : Int} (h : f_X12_isLenient_b0 v0 σ = some o) : E sc (Fm Sh (some (0, o)) Sh σ) mt_X12_isLenient 2 Sh Sh 0 [(2, v0)] [] Sh σ := by
  unfold f_X12_isLenient_b0 at h
  refine E_aload_n d_X12_isLenient_0 rfl (by decide) ?_
  refine E_bipush d_X12_isLenient_1 (c8 rfl) ?_
  refine E_bipush d_X12_isLenient_3 (c8 rfl) ?_
  refine E_bipush d_X12_isLenient_5 (c8 rfl) ?_
  refine E_bipush d_X12_isLenient_7 (c8 rfl) ?_
  refine E_bipush d_X12_isLenient_9 (c8 rfl) ?_
  refine E_bipush d_X12_isLenient_11 (c8 rfl) ?_
  refine bd h (fun r1 q2 h => ?_)
  refine E_cS (as := [(0, 108), (0, 101), (0, 110), (0, 105), (0, 101), (0, 110)]) (st := [(2, v0)]) d_X12_isLenient_13 mk_X12_spelled nl_X12_149 (by omega) ⟨rfl, rfl, Nat.le_of_ble_eq_true rfl⟩ (L_X12_spelled q2) ?_
  refine E_ldc2 d_X12_isLenient_16 kw_X12_133 ?_
  refine E_lmul d_X12_isLenient_19 ?_
  refine E_ldc2 d_X12_isLenient_20 kw_X12_157 ?_
  refine E_ladd d_X12_isLenient_23 ?_
  refine E_ldc2 d_X12_isLenient_24 kw_X12_135 ?_
  refine E_lsub d_X12_isLenient_27 ?_
  refine bd h (fun r3 q4 h => ?_)
  refine E_cV (as := [(1, w64 (w64 (w64 (r1 * 32) + 116) - 96))]) (st := []) (a := v0) d_X12_isLenient_28 mk_X12_isWord nl_X12_153 (by omega) ⟨rfl, rfl, Nat.le_of_ble_eq_true rfl⟩ okX12 rfl (L_X12_isWord q4) ?_
  refine bd_bz h (fun q5 h => ?_)
  cases h
  exact E_zret d_X12_isLenient_31 rfl q5
noncomputable def f_X12_isLenient (v0 : Int) (σ : Mem) : Option (Int) := if isO Sh 12 v0 = true then f_X12_isLenient_b0 v0 σ else none
theorem L_X12_isLenient {o : Int} {v0 : Int} {σ : Mem} (h : f_X12_isLenient v0 σ = some o) : (isO Sh 12 v0 = true ∧ Cn mt_X12_isLenient 2 [(2, v0)] Sh σ (some (0, o)) Sh σ) := ⟨(ite_ok h).1, Cn_of mk_X12_isLenient.1.2.2.1 (Nat.le_of_ble_eq_true rfl) (fun sc => L_X12_isLenient_b0 (ite_ok h).2)⟩
theorem d_X12_isStrong_0 : decode mt_X12_isStrong.2.1 0 = .ok (.aload_n 0, 1) := by decide +kernel
theorem d_X12_isStrong_1 : decode mt_X12_isStrong.2.1 1 = .ok (.bipush 115, 2) := by decide +kernel
theorem d_X12_isStrong_3 : decode mt_X12_isStrong.2.1 3 = .ok (.bipush 116, 2) := by decide +kernel
theorem d_X12_isStrong_5 : decode mt_X12_isStrong.2.1 5 = .ok (.bipush 114, 2) := by decide +kernel
theorem d_X12_isStrong_7 : decode mt_X12_isStrong.2.1 7 = .ok (.bipush 111, 2) := by decide +kernel
theorem d_X12_isStrong_9 : decode mt_X12_isStrong.2.1 9 = .ok (.bipush 110, 2) := by decide +kernel
theorem d_X12_isStrong_11 : decode mt_X12_isStrong.2.1 11 = .ok (.bipush 103, 2) := by decide +kernel
theorem d_X12_isStrong_13 : decode mt_X12_isStrong.2.1 13 = .ok (.invokestatic 149, 3) := by decide +kernel
theorem d_X12_isStrong_16 : decode mt_X12_isStrong.2.1 16 = .ok (.invokevirtual 153, 3) := by decide +kernel
theorem d_X12_isStrong_19 : decode mt_X12_isStrong.2.1 19 = .ok (.ireturn, 1) := by decide +kernel
noncomputable def f_X12_isStrong_b0 (v0 : Int) (σ : Mem) : Option (Int) :=
  (f_X12_spelled 115 116 114 111 110 103 σ).bind fun r1 =>
  (f_X12_isWord v0 r1 σ).bind fun r3 =>
  (bz r3).bind fun _ =>
  some (r3)
theorem L_X12_isStrong_b0 {sc : Nat × (Nat → Int32)} {o : Int} {σ : Mem} {v0 : Int} (h : f_X12_isStrong_b0 v0 σ = some o) : E sc (Fm Sh (some (0, o)) Sh σ) mt_X12_isStrong 2 Sh Sh 0 [(2, v0)] [] Sh σ := by
  unfold f_X12_isStrong_b0 at h
  refine E_aload_n d_X12_isStrong_0 rfl (by decide) ?_
  refine E_bipush d_X12_isStrong_1 (c8 rfl) ?_
  refine E_bipush d_X12_isStrong_3 (c8 rfl) ?_
  refine E_bipush d_X12_isStrong_5 (c8 rfl) ?_
  refine E_bipush d_X12_isStrong_7 (c8 rfl) ?_
  refine E_bipush d_X12_isStrong_9 (c8 rfl) ?_
  refine E_bipush d_X12_isStrong_11 (c8 rfl) ?_
  refine bd h (fun r1 q2 h => ?_)
  refine E_cS (as := [(0, 115), (0, 116), (0, 114), (0, 111), (0, 110), (0, 103)]) (st := [(2, v0)]) d_X12_isStrong_13 mk_X12_spelled nl_X12_149 (by omega) ⟨rfl, rfl, Nat.le_of_ble_eq_true rfl⟩ (L_X12_spelled q2) ?_
  refine bd h (fun r3 q4 h => ?_)
  refine E_cV (as := [(1, r1)]) (st := []) (a := v0) d_X12_isStrong_16 mk_X12_isWord nl_X12_153 (by omega) ⟨rfl, rfl, Nat.le_of_ble_eq_true rfl⟩ okX12 rfl (L_X12_isWord q4) ?_
  refine bd_bz h (fun q5 h => ?_)
  cases h
  exact E_zret d_X12_isStrong_19 rfl q5
noncomputable def f_X12_isStrong (v0 : Int) (σ : Mem) : Option (Int) := if isO Sh 12 v0 = true then f_X12_isStrong_b0 v0 σ else none
theorem L_X12_isStrong {o : Int} {v0 : Int} {σ : Mem} (h : f_X12_isStrong v0 σ = some o) : (isO Sh 12 v0 = true ∧ Cn mt_X12_isStrong 2 [(2, v0)] Sh σ (some (0, o)) Sh σ) := ⟨(ite_ok h).1, Cn_of mk_X12_isStrong.1.2.2.1 (Nat.le_of_ble_eq_true rfl) (fun sc => L_X12_isStrong_b0 (ite_ok h).2)⟩
theorem d_X12_isGap_0 : decode mt_X12_isGap.2.1 0 = .ok (.aload_n 0, 1) := by decide +kernel
theorem d_X12_isGap_1 : decode mt_X12_isGap.2.1 1 = .ok (.bipush 103, 2) := by decide +kernel
theorem d_X12_isGap_3 : decode mt_X12_isGap.2.1 3 = .ok (.bipush 97, 2) := by decide +kernel
theorem d_X12_isGap_5 : decode mt_X12_isGap.2.1 5 = .ok (.bipush 112, 2) := by decide +kernel
theorem d_X12_isGap_7 : decode mt_X12_isGap.2.1 7 = .ok (.iconst 0, 1) := by decide +kernel
theorem d_X12_isGap_8 : decode mt_X12_isGap.2.1 8 = .ok (.iconst 0, 1) := by decide +kernel
theorem d_X12_isGap_9 : decode mt_X12_isGap.2.1 9 = .ok (.iconst 0, 1) := by decide +kernel
theorem d_X12_isGap_10 : decode mt_X12_isGap.2.1 10 = .ok (.invokestatic 149, 3) := by decide +kernel
theorem d_X12_isGap_13 : decode mt_X12_isGap.2.1 13 = .ok (.invokevirtual 153, 3) := by decide +kernel
theorem d_X12_isGap_16 : decode mt_X12_isGap.2.1 16 = .ok (.ireturn, 1) := by decide +kernel
noncomputable def f_X12_isGap_b0 (v0 : Int) (σ : Mem) : Option (Int) :=
  (f_X12_spelled 103 97 112 0 0 0 σ).bind fun r1 =>
  (f_X12_isWord v0 r1 σ).bind fun r3 =>
  (bz r3).bind fun _ =>
  some (r3)
theorem L_X12_isGap_b0 {sc : Nat × (Nat → Int32)} {o : Int} {σ : Mem} {v0 : Int} (h : f_X12_isGap_b0 v0 σ = some o) : E sc (Fm Sh (some (0, o)) Sh σ) mt_X12_isGap 2 Sh Sh 0 [(2, v0)] [] Sh σ := by
  unfold f_X12_isGap_b0 at h
  refine E_aload_n d_X12_isGap_0 rfl (by decide) ?_
  refine E_bipush d_X12_isGap_1 (c8 rfl) ?_
  refine E_bipush d_X12_isGap_3 (c8 rfl) ?_
  refine E_bipush d_X12_isGap_5 (c8 rfl) ?_
  refine E_iconst d_X12_isGap_7 (c32 rfl) ?_
  refine E_iconst d_X12_isGap_8 (c32 rfl) ?_
  refine E_iconst d_X12_isGap_9 (c32 rfl) ?_
  refine bd h (fun r1 q2 h => ?_)
  refine E_cS (as := [(0, 103), (0, 97), (0, 112), (0, 0), (0, 0), (0, 0)]) (st := [(2, v0)]) d_X12_isGap_10 mk_X12_spelled nl_X12_149 (by omega) ⟨rfl, rfl, Nat.le_of_ble_eq_true rfl⟩ (L_X12_spelled q2) ?_
  refine bd h (fun r3 q4 h => ?_)
  refine E_cV (as := [(1, r1)]) (st := []) (a := v0) d_X12_isGap_13 mk_X12_isWord nl_X12_153 (by omega) ⟨rfl, rfl, Nat.le_of_ble_eq_true rfl⟩ okX12 rfl (L_X12_isWord q4) ?_
  refine bd_bz h (fun q5 h => ?_)
  cases h
  exact E_zret d_X12_isGap_16 rfl q5
noncomputable def f_X12_isGap (v0 : Int) (σ : Mem) : Option (Int) := if isO Sh 12 v0 = true then f_X12_isGap_b0 v0 σ else none
theorem L_X12_isGap {o : Int} {v0 : Int} {σ : Mem} (h : f_X12_isGap v0 σ = some o) : (isO Sh 12 v0 = true ∧ Cn mt_X12_isGap 2 [(2, v0)] Sh σ (some (0, o)) Sh σ) := ⟨(ite_ok h).1, Cn_of mk_X12_isGap.1.2.2.1 (Nat.le_of_ble_eq_true rfl) (fun sc => L_X12_isGap_b0 (ite_ok h).2)⟩
theorem d_X12_isCrow_0 : decode mt_X12_isCrow.2.1 0 = .ok (.aload_n 0, 1) := by decide +kernel
theorem d_X12_isCrow_1 : decode mt_X12_isCrow.2.1 1 = .ok (.bipush 99, 2) := by decide +kernel
theorem d_X12_isCrow_3 : decode mt_X12_isCrow.2.1 3 = .ok (.bipush 114, 2) := by decide +kernel
theorem d_X12_isCrow_5 : decode mt_X12_isCrow.2.1 5 = .ok (.bipush 111, 2) := by decide +kernel
theorem d_X12_isCrow_7 : decode mt_X12_isCrow.2.1 7 = .ok (.bipush 119, 2) := by decide +kernel
theorem d_X12_isCrow_9 : decode mt_X12_isCrow.2.1 9 = .ok (.iconst 0, 1) := by decide +kernel
theorem d_X12_isCrow_10 : decode mt_X12_isCrow.2.1 10 = .ok (.iconst 0, 1) := by decide +kernel
theorem d_X12_isCrow_11 : decode mt_X12_isCrow.2.1 11 = .ok (.invokestatic 149, 3) := by decide +kernel
theorem d_X12_isCrow_14 : decode mt_X12_isCrow.2.1 14 = .ok (.invokevirtual 153, 3) := by decide +kernel
theorem d_X12_isCrow_17 : decode mt_X12_isCrow.2.1 17 = .ok (.ireturn, 1) := by decide +kernel
noncomputable def f_X12_isCrow_b0 (v0 : Int) (σ : Mem) : Option (Int) :=
  (f_X12_spelled 99 114 111 119 0 0 σ).bind fun r1 =>
  (f_X12_isWord v0 r1 σ).bind fun r3 =>
  (bz r3).bind fun _ =>
  some (r3)
theorem L_X12_isCrow_b0 {sc : Nat × (Nat → Int32)} {o : Int} {σ : Mem} {v0 : Int} (h : f_X12_isCrow_b0 v0 σ = some o) : E sc (Fm Sh (some (0, o)) Sh σ) mt_X12_isCrow 2 Sh Sh 0 [(2, v0)] [] Sh σ := by
  unfold f_X12_isCrow_b0 at h
  refine E_aload_n d_X12_isCrow_0 rfl (by decide) ?_
  refine E_bipush d_X12_isCrow_1 (c8 rfl) ?_
  refine E_bipush d_X12_isCrow_3 (c8 rfl) ?_
  refine E_bipush d_X12_isCrow_5 (c8 rfl) ?_
  refine E_bipush d_X12_isCrow_7 (c8 rfl) ?_
  refine E_iconst d_X12_isCrow_9 (c32 rfl) ?_
  refine E_iconst d_X12_isCrow_10 (c32 rfl) ?_
  refine bd h (fun r1 q2 h => ?_)
  refine E_cS (as := [(0, 99), (0, 114), (0, 111), (0, 119), (0, 0), (0, 0)]) (st := [(2, v0)]) d_X12_isCrow_11 mk_X12_spelled nl_X12_149 (by omega) ⟨rfl, rfl, Nat.le_of_ble_eq_true rfl⟩ (L_X12_spelled q2) ?_
  refine bd h (fun r3 q4 h => ?_)
  refine E_cV (as := [(1, r1)]) (st := []) (a := v0) d_X12_isCrow_14 mk_X12_isWord nl_X12_153 (by omega) ⟨rfl, rfl, Nat.le_of_ble_eq_true rfl⟩ okX12 rfl (L_X12_isWord q4) ?_
  refine bd_bz h (fun q5 h => ?_)
  cases h
  exact E_zret d_X12_isCrow_17 rfl q5
noncomputable def f_X12_isCrow (v0 : Int) (σ : Mem) : Option (Int) := if isO Sh 12 v0 = true then f_X12_isCrow_b0 v0 σ else none
theorem L_X12_isCrow {o : Int} {v0 : Int} {σ : Mem} (h : f_X12_isCrow v0 σ = some o) : (isO Sh 12 v0 = true ∧ Cn mt_X12_isCrow 2 [(2, v0)] Sh σ (some (0, o)) Sh σ) := ⟨(ite_ok h).1, Cn_of mk_X12_isCrow.1.2.2.1 (Nat.le_of_ble_eq_true rfl) (fun sc => L_X12_isCrow_b0 (ite_ok h).2)⟩
