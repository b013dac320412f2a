theorem d_X12_fitsBy_0 : decode mt_X12_fitsBy.2.1 0 = .ok (.aload_n 0, 1) := by decide +kernel
theorem d_X12_fitsBy_1 : decode mt_X12_fitsBy.2.1 1 = .ok (.iconst 0, 1) := by decide +kernel
theorem d_X12_fitsBy_2 : decode mt_X12_fitsBy.2.1 2 = .ok (.putfield 70, 3) := by decide +kernel
theorem d_X12_fitsBy_5 : decode mt_X12_fitsBy.2.1 5 = .ok (.aload_n 0, 1) := by decide +kernel
theorem d_X12_fitsBy_6 : decode mt_X12_fitsBy.2.1 6 = .ok (.aload_n 0, 1) := by decide +kernel
theorem d_X12_fitsBy_7 : decode mt_X12_fitsBy.2.1 7 = .ok (.iload_n 1, 1) := by decide +kernel
theorem d_X12_fitsBy_8 : decode mt_X12_fitsBy.2.1 8 = .ok (.iload_n 2, 1) := by decide +kernel
theorem d_X12_fitsBy_9 : decode mt_X12_fitsBy.2.1 9 = .ok (.invokevirtual 402, 3) := by decide +kernel
theorem d_X12_fitsBy_12 : decode mt_X12_fitsBy.2.1 12 = .ok (.putfield 73, 3) := by decide +kernel
theorem d_X12_fitsBy_15 : decode mt_X12_fitsBy.2.1 15 = .ok (.aload_n 0, 1) := by decide +kernel
theorem d_X12_fitsBy_16 : decode mt_X12_fitsBy.2.1 16 = .ok (.getfield 73, 3) := by decide +kernel
theorem d_X12_fitsBy_19 : decode mt_X12_fitsBy.2.1 19 = .ok (.ifCond .le 5, 3) := by decide +kernel
theorem d_X12_fitsBy_22 : decode mt_X12_fitsBy.2.1 22 = .ok (.iconst (-1), 1) := by decide +kernel
theorem d_X12_fitsBy_23 : decode mt_X12_fitsBy.2.1 23 = .ok (.ireturn, 1) := by decide +kernel
theorem d_X12_fitsBy_24 : decode mt_X12_fitsBy.2.1 24 = .ok (.iload_n 3, 1) := by decide +kernel
theorem d_X12_fitsBy_25 : decode mt_X12_fitsBy.2.1 25 = .ok (.i2l, 1) := by decide +kernel
theorem d_X12_fitsBy_26 : decode mt_X12_fitsBy.2.1 26 = .ok (.lconst 0, 1) := by decide +kernel
theorem d_X12_fitsBy_27 : decode mt_X12_fitsBy.2.1 27 = .ok (.lconst 1, 1) := by decide +kernel
theorem d_X12_fitsBy_28 : decode mt_X12_fitsBy.2.1 28 = .ok (.invokestatic 104, 3) := by decide +kernel
theorem d_X12_fitsBy_31 : decode mt_X12_fitsBy.2.1 31 = .ok (.ifCond .ne 9, 3) := by decide +kernel
theorem d_X12_fitsBy_34 : decode mt_X12_fitsBy.2.1 34 = .ok (.aload_n 0, 1) := by decide +kernel
theorem d_X12_fitsBy_35 : decode mt_X12_fitsBy.2.1 35 = .ok (.iconst 5, 1) := by decide +kernel
theorem d_X12_fitsBy_36 : decode mt_X12_fitsBy.2.1 36 = .ok (.invokevirtual 318, 3) := by decide +kernel
theorem d_X12_fitsBy_39 : decode mt_X12_fitsBy.2.1 39 = .ok (.ireturn, 1) := by decide +kernel
theorem d_X12_fitsBy_40 : decode mt_X12_fitsBy.2.1 40 = .ok (.aload_n 0, 1) := by decide +kernel
theorem d_X12_fitsBy_41 : decode mt_X12_fitsBy.2.1 41 = .ok (.iload_n 1, 1) := by decide +kernel
theorem d_X12_fitsBy_42 : decode mt_X12_fitsBy.2.1 42 = .ok (.iload_n 2, 1) := by decide +kernel
theorem d_X12_fitsBy_43 : decode mt_X12_fitsBy.2.1 43 = .ok (.invokevirtual 405, 3) := by decide +kernel
theorem d_X12_fitsBy_46 : decode mt_X12_fitsBy.2.1 46 = .ok (.iconst (-1), 1) := by decide +kernel
theorem d_X12_fitsBy_47 : decode mt_X12_fitsBy.2.1 47 = .ok (.istore 4, 2) := by decide +kernel
theorem d_X12_fitsBy_49 : decode mt_X12_fitsBy.2.1 49 = .ok (.iconst 0, 1) := by decide +kernel
theorem d_X12_fitsBy_50 : decode mt_X12_fitsBy.2.1 50 = .ok (.istore 5, 2) := by decide +kernel
theorem d_X12_fitsBy_52 : decode mt_X12_fitsBy.2.1 52 = .ok (.iload 5, 2) := by decide +kernel
theorem d_X12_fitsBy_54 : decode mt_X12_fitsBy.2.1 54 = .ok (.bipush 60, 2) := by decide +kernel
theorem d_X12_fitsBy_56 : decode mt_X12_fitsBy.2.1 56 = .ok (.if_icmp .gt 33, 3) := by decide +kernel
theorem d_X12_fitsBy_59 : decode mt_X12_fitsBy.2.1 59 = .ok (.aload_n 0, 1) := by decide +kernel
theorem d_X12_fitsBy_60 : decode mt_X12_fitsBy.2.1 60 = .ok (.getfield 47, 3) := by decide +kernel
theorem d_X12_fitsBy_63 : decode mt_X12_fitsBy.2.1 63 = .ok (.iload 5, 2) := by decide +kernel
theorem d_X12_fitsBy_65 : decode mt_X12_fitsBy.2.1 65 = .ok (.baload, 1) := by decide +kernel
theorem d_X12_fitsBy_66 : decode mt_X12_fitsBy.2.1 66 = .ok (.ifCond .eq 17, 3) := by decide +kernel
theorem d_X12_fitsBy_69 : decode mt_X12_fitsBy.2.1 69 = .ok (.iload 4, 2) := by decide +kernel
theorem d_X12_fitsBy_71 : decode mt_X12_fitsBy.2.1 71 = .ok (.ifCond .lt 8, 3) := by decide +kernel
theorem d_X12_fitsBy_74 : decode mt_X12_fitsBy.2.1 74 = .ok (.iload_n 3, 1) := by decide +kernel
theorem d_X12_fitsBy_75 : decode mt_X12_fitsBy.2.1 75 = .ok (.iconst 1, 1) := by decide +kernel
theorem d_X12_fitsBy_76 : decode mt_X12_fitsBy.2.1 76 = .ok (.if_icmp .ne 7, 3) := by decide +kernel
theorem d_X12_fitsBy_79 : decode mt_X12_fitsBy.2.1 79 = .ok (.iload 5, 2) := by decide +kernel
theorem d_X12_fitsBy_81 : decode mt_X12_fitsBy.2.1 81 = .ok (.istore 4, 2) := by decide +kernel
theorem d_X12_fitsBy_83 : decode mt_X12_fitsBy.2.1 83 = .ok (.iinc 5 1, 3) := by decide +kernel
theorem d_X12_fitsBy_86 : decode mt_X12_fitsBy.2.1 86 = .ok (.goto (-34), 3) := by decide +kernel
theorem d_X12_fitsBy_89 : decode mt_X12_fitsBy.2.1 89 = .ok (.iload 4, 2) := by decide +kernel
theorem d_X12_fitsBy_91 : decode mt_X12_fitsBy.2.1 91 = .ok (.ifCond .ge 12, 3) := by decide +kernel
theorem d_X12_fitsBy_94 : decode mt_X12_fitsBy.2.1 94 = .ok (.aload_n 0, 1) := by decide +kernel
theorem d_X12_fitsBy_95 : decode mt_X12_fitsBy.2.1 95 = .ok (.bipush 8, 2) := by decide +kernel
theorem d_X12_fitsBy_97 : decode mt_X12_fitsBy.2.1 97 = .ok (.invokevirtual 318, 3) := by decide +kernel
theorem d_X12_fitsBy_100 : decode mt_X12_fitsBy.2.1 100 = .ok (.goto 5, 3) := by decide +kernel
theorem d_X12_fitsBy_103 : decode mt_X12_fitsBy.2.1 103 = .ok (.iload 4, 2) := by decide +kernel
theorem d_X12_fitsBy_105 : decode mt_X12_fitsBy.2.1 105 = .ok (.ireturn, 1) := by decide +kernel
noncomputable def f_X12_fitsBy_b83 (k52 : (Int → Int → Int → Int → Mem → Option (Int × Mem))) (v0 v3 v4 v5 : Int) (σ : Mem) : Option (Int × Mem) :=
  k52 v0 v3 v4 (w32 (v5 + 1)) σ
theorem L_X12_fitsBy_b83 {sc : Nat × (Nat → Int32)} {o : Int × Mem} {k52 : (Int → Int → Int → Int → Mem → Option (Int × Mem))} (hk52 : ∀ {v0 v3 v4 v5 : Int} {σ : Mem}, k52 v0 v3 v4 v5 σ = some o → E sc (Fm Sh (some (0, o.1)) Sh o.2) mt_X12_fitsBy 6 Sh Sh 52 [(2, v0), (9, 0), (9, 0), (0, v3), (0, v4), (0, v5)] [] Sh σ) {v0 v3 v4 v5 : Int} {σ : Mem} (h : f_X12_fitsBy_b83 k52 v0 v3 v4 v5 σ = some o) : E sc (Fm Sh (some (0, o.1)) Sh o.2) mt_X12_fitsBy 6 Sh Sh 83 [(2, v0), (9, 0), (9, 0), (0, v3), (0, v4), (0, v5)] [] Sh σ := by
  unfold f_X12_fitsBy_b83 at h
  refine E_iinc d_X12_fitsBy_83 (ls' := [(2, v0), (9, 0), (9, 0), (0, v3), (0, v4), (0, w32 (v5 + 1))]) rfl ⟨by decide, rfl⟩ ?_
  refine E_goto (tgt := 52) d_X12_fitsBy_86 (by decide) ?_
  exact (hk52 h)
noncomputable def f_X12_fitsBy_b79 (k52 : (Int → Int → Int → Int → Mem → Option (Int × Mem))) (v0 v3 v5 : Int) (σ : Mem) : Option (Int × Mem) :=
  f_X12_fitsBy_b83 k52 v0 v3 v5 v5 σ
theorem L_X12_fitsBy_b79 {sc : Nat × (Nat → Int32)} {o : Int × Mem} {k52 : (Int → Int → Int → Int → Mem → Option (Int × Mem))} (hk52 : ∀ {v0 v3 v4 v5 : Int} {σ : Mem}, k52 v0 v3 v4 v5 σ = some o → E sc (Fm Sh (some (0, o.1)) Sh o.2) mt_X12_fitsBy 6 Sh Sh 52 [(2, v0), (9, 0), (9, 0), (0, v3), (0, v4), (0, v5)] [] Sh σ) {v0 v3 v5 : Int} {σ : Mem} (h : f_X12_fitsBy_b79 k52 v0 v3 v5 σ = some o) : E sc (Fm Sh (some (0, o.1)) Sh o.2) mt_X12_fitsBy 6 Sh Sh 79 [(2, v0), (9, 0), (9, 0), (0, v3), (9, 0), (0, v5)] [] Sh σ := by
  unfold f_X12_fitsBy_b79 at h
  refine E_iload d_X12_fitsBy_79 rfl ?_
  refine E_istore d_X12_fitsBy_81 (ls' := [(2, v0), (9, 0), (9, 0), (0, v3), (0, v5), (0, v5)]) ⟨by decide, rfl⟩ ?_
  exact (L_X12_fitsBy_b83 hk52 h)
noncomputable def f_X12_fitsBy_b52 (k52 : (Int → Int → Int → Int → Mem → Option (Int × Mem))) (v0 v3 v4 v5 : Int) (σ : Mem) : Option (Int × Mem) :=
  if 60 < v5 then
    if 0 ≤ v4 then
      some (v4, σ)
    else
      (f_X12_refuse v0 8 σ).bind fun r12 =>
      some (r12.1, r12.2)
  else
    (gf Sh σ 12 v0 27).bind fun x14 =>
    (al Sh σ 23 x14 v5).bind fun x15 =>
    if x15 = 0 then
      f_X12_fitsBy_b83 k52 v0 v3 v4 v5 σ
    else
      if v4 < 0 then
        f_X12_fitsBy_b79 k52 v0 v3 v5 σ
      else
        if v3 = 1 then
          f_X12_fitsBy_b79 k52 v0 v3 v5 σ
        else
          f_X12_fitsBy_b83 k52 v0 v3 v4 v5 σ
theorem L_X12_fitsBy_b52 {sc : Nat × (Nat → Int32)} {o : Int × Mem} {k52 : (Int → Int → Int → Int → Mem → Option (Int × Mem))} (hk52 : ∀ {v0 v3 v4 v5 : Int} {σ : Mem}, k52 v0 v3 v4 v5 σ = some o → E sc (Fm Sh (some (0, o.1)) Sh o.2) mt_X12_fitsBy 6 Sh Sh 52 [(2, v0), (9, 0), (9, 0), (0, v3), (0, v4), (0, v5)] [] Sh σ) {v0 v3 v4 v5 : Int} {σ : Mem} (h : f_X12_fitsBy_b52 k52 v0 v3 v4 v5 σ = some o) : E sc (Fm Sh (some (0, o.1)) Sh o.2) mt_X12_fitsBy 6 Sh Sh 52 [(2, v0), (9, 0), (9, 0), (0, v3), (0, v4), (0, v5)] [] Sh σ := by
  unfold f_X12_fitsBy_b52 at h
  refine E_iload d_X12_fitsBy_52 rfl ?_
  refine E_bipush d_X12_fitsBy_54 (c8 rfl) ?_
  refine E_icmp_gt (tgt := 89) d_X12_fitsBy_56 (by decide) h (fun _ h => ?_) (fun _ h => ?_)
  · refine E_iload d_X12_fitsBy_89 rfl ?_
    refine E_if_ge (tgt := 103) d_X12_fitsBy_91 (by decide) h (fun _ h => ?_) (fun _ h => ?_)
    · refine E_iload d_X12_fitsBy_103 rfl ?_
      cases h
      exact E_iret d_X12_fitsBy_105 rfl
    · refine E_aload_n d_X12_fitsBy_94 rfl (by decide) ?_
      refine E_bipush d_X12_fitsBy_95 (c8 rfl) ?_
      refine bd h (fun r12 q13 h => ?_)
      refine E_cV (as := [(0, 8)]) (st := []) (a := v0) d_X12_fitsBy_97 mk_X12_refuse nl_X12_318 (by omega) ⟨rfl, rfl, Nat.le_of_ble_eq_true rfl⟩ okX12 rfl (L_X12_refuse q13) ?_
      refine E_goto (tgt := 105) d_X12_fitsBy_100 (by decide) ?_
      cases h
      exact E_iret d_X12_fitsBy_105 rfl
  · refine E_aload_n d_X12_fitsBy_59 rfl (by decide) ?_
    refine E_get d_X12_fitsBy_60 okX12 fl_X12_47 ⟨by decide, rfl⟩ h (fun x14 h => ?_)
    refine E_iload d_X12_fitsBy_63 rfl ?_
    refine E_baload d_X12_fitsBy_65 (by decide : 23 = 22 ∨ 23 = 23) h (fun x15 h => ?_)
    refine E_if_eq (tgt := 83) d_X12_fitsBy_66 (by decide) h (fun _ h => ?_) (fun _ h => ?_)
    · exact (L_X12_fitsBy_b83 hk52 h)
    · refine E_iload d_X12_fitsBy_69 rfl ?_
      refine E_if_lt (tgt := 79) d_X12_fitsBy_71 (by decide) h (fun _ h => ?_) (fun _ h => ?_)
      · exact E_weak (ls' := [(2, v0), (9, 0), (9, 0), (0, v3), (9, 0), (0, v5)]) ⟨Or.inr rfl, Or.inl rfl, Or.inl rfl, Or.inr rfl, Or.inl rfl, Or.inr rfl, trivial⟩ (L_X12_fitsBy_b79 hk52 h)
      · refine E_iload_n d_X12_fitsBy_74 rfl ?_
        refine E_iconst d_X12_fitsBy_75 (c32 rfl) ?_
        refine E_icmp_ne (tgt := 83) d_X12_fitsBy_76 (by decide) h (fun _ h => ?_) (fun _ h => ?_)
        · exact E_weak (ls' := [(2, v0), (9, 0), (9, 0), (0, v3), (9, 0), (0, v5)]) ⟨Or.inr rfl, Or.inl rfl, Or.inl rfl, Or.inr rfl, Or.inl rfl, Or.inr rfl, trivial⟩ (L_X12_fitsBy_b79 hk52 h)
        · exact (L_X12_fitsBy_b83 hk52 h)
noncomputable def f_X12_fitsBy_h52 (n : Nat) : Int → Int → Int → Int → Mem → Option (Int × Mem) := Nat.rec (motive := fun _ => Int → Int → Int → Int → Mem → Option (Int × Mem)) (fun _ _ _ _ _ => none) (fun _ ih => f_X12_fitsBy_b52 (ih)) n
theorem L_X12_fitsBy_h52 {sc : Nat × (Nat → Int32)} {o : Int × Mem} : ∀ (n : Nat) {v0 v3 v4 v5 : Int} {σ : Mem}, f_X12_fitsBy_h52 n v0 v3 v4 v5 σ = some o → E sc (Fm Sh (some (0, o.1)) Sh o.2) mt_X12_fitsBy 6 Sh Sh 52 [(2, v0), (9, 0), (9, 0), (0, v3), (0, v4), (0, v5)] [] Sh σ := by
  intro n
  induction n with
  | zero => intro v0 v3 v4 v5 σ h; cases h
  | succ n ih => intro v0 v3 v4 v5 σ h; exact L_X12_fitsBy_b52 (@ih) h
noncomputable def f_X12_fitsBy_b0 (v0 v1 v2 v3 : Int) (σ : Mem) : Option (Int × Mem) :=
  (pf Sh σ 12 v0 1 0).bind fun σ1 =>
  (f_X12_whyNoFits v0 v1 v2 σ1).bind fun r2 =>
  (pf Sh σ1 12 v0 0 r2).bind fun σ4 =>
  (gf Sh σ4 12 v0 0).bind fun x5 =>
  if x5 ≤ 0 then
    (f_X12_isIn v3 0 1 σ4).bind fun r6 =>
    if r6 = 0 then
      (f_X12_refuse v0 5 σ4).bind fun r8 =>
      some (r8.1, r8.2)
    else
      (f_X12_laysFits v0 v1 v2 σ4).bind fun r10 =>
      f_X12_fitsBy_h52 FU v0 v3 (-1) 0 r10
  else
    some ((-1), σ4)
theorem L_X12_fitsBy_b0 {sc : Nat × (Nat → Int32)} {o : Int × Mem} {v0 v1 v2 v3 : Int} {σ : Mem} (h : f_X12_fitsBy_b0 v0 v1 v2 v3 σ = some o) : E sc (Fm Sh (some (0, o.1)) Sh o.2) mt_X12_fitsBy 6 Sh Sh 0 [(2, v0), (0, v1), (0, v2), (0, v3), (9, 0), (9, 0)] [] Sh σ := by
  unfold f_X12_fitsBy_b0 at h
  refine E_aload_n d_X12_fitsBy_0 rfl (by decide) ?_
  refine E_iconst d_X12_fitsBy_1 (c32 rfl) ?_
  refine E_put d_X12_fitsBy_2 okX12 fl_X12_70 ⟨by decide, rfl⟩ (Or.inl ⟨rfl, rfl⟩) (Or.inl rfl) h (fun σ1 h => ?_)
  refine E_aload_n d_X12_fitsBy_5 rfl (by decide) ?_
  refine E_aload_n d_X12_fitsBy_6 rfl (by decide) ?_
  refine E_iload_n d_X12_fitsBy_7 rfl ?_
  refine E_iload_n d_X12_fitsBy_8 rfl ?_
  refine bd h (fun r2 q3 h => ?_)
  refine E_cV (as := [(0, v1), (0, v2)]) (st := [(2, v0)]) (a := v0) d_X12_fitsBy_9 mk_X12_whyNoFits nl_X12_402 (by omega) ⟨rfl, rfl, Nat.le_of_ble_eq_true rfl⟩ okX12 rfl (L_X12_whyNoFits q3) ?_
  refine E_put d_X12_fitsBy_12 okX12 fl_X12_73 ⟨by decide, rfl⟩ (Or.inl ⟨rfl, rfl⟩) (Or.inl rfl) h (fun σ4 h => ?_)
  refine E_aload_n d_X12_fitsBy_15 rfl (by decide) ?_
  refine E_get d_X12_fitsBy_16 okX12 fl_X12_73 ⟨by decide, rfl⟩ h (fun x5 h => ?_)
  refine E_if_le (tgt := 24) d_X12_fitsBy_19 (by decide) h (fun _ h => ?_) (fun _ h => ?_)
  · refine E_iload_n d_X12_fitsBy_24 rfl ?_
    refine E_i2l d_X12_fitsBy_25 ?_
    refine E_lconst d_X12_fitsBy_26 cl0 ?_
    refine E_lconst d_X12_fitsBy_27 cl1 ?_
    refine bd h (fun r6 q7 h => ?_)
    refine E_cS (as := [(1, v3), (1, 0), (1, 1)]) (st := []) d_X12_fitsBy_28 mk_X12_isIn nl_X12_104 (by omega) ⟨rfl, rfl, Nat.le_of_ble_eq_true rfl⟩ (L_X12_isIn q7) ?_
    refine E_if_ne (tgt := 40) d_X12_fitsBy_31 (by decide) h (fun _ h => ?_) (fun _ h => ?_)
    · refine E_aload_n d_X12_fitsBy_34 rfl (by decide) ?_
      refine E_iconst d_X12_fitsBy_35 (c32 rfl) ?_
      refine bd h (fun r8 q9 h => ?_)
      refine E_cV (as := [(0, 5)]) (st := []) (a := v0) d_X12_fitsBy_36 mk_X12_refuse nl_X12_318 (by omega) ⟨rfl, rfl, Nat.le_of_ble_eq_true rfl⟩ okX12 rfl (L_X12_refuse q9) ?_
      cases h
      exact E_iret d_X12_fitsBy_39 rfl
    · refine E_aload_n d_X12_fitsBy_40 rfl (by decide) ?_
      refine E_iload_n d_X12_fitsBy_41 rfl ?_
      refine E_iload_n d_X12_fitsBy_42 rfl ?_
      refine bd h (fun r10 q11 h => ?_)
      refine E_cVv (as := [(0, v1), (0, v2)]) (st := []) (a := v0) d_X12_fitsBy_43 mk_X12_laysFits nl_X12_405 (by omega) ⟨rfl, rfl, Nat.le_of_ble_eq_true rfl⟩ okX12 rfl (L_X12_laysFits q11) ?_
      refine E_iconst d_X12_fitsBy_46 (c32 rfl) ?_
      refine E_istore d_X12_fitsBy_47 (ls' := [(2, v0), (0, v1), (0, v2), (0, v3), (0, (-1)), (9, 0)]) ⟨by decide, rfl⟩ ?_
      refine E_iconst d_X12_fitsBy_49 (c32 rfl) ?_
      refine E_istore d_X12_fitsBy_50 (ls' := [(2, v0), (0, v1), (0, v2), (0, v3), (0, (-1)), (0, 0)]) ⟨by decide, rfl⟩ ?_
      exact E_weak (ls' := [(2, v0), (9, 0), (9, 0), (0, v3), (0, (-1)), (0, 0)]) ⟨Or.inr rfl, Or.inl rfl, Or.inl rfl, Or.inr rfl, Or.inr rfl, Or.inr rfl, trivial⟩ (L_X12_fitsBy_h52 FU h)
  · refine E_iconst d_X12_fitsBy_22 (c32 rfl) ?_
    cases h
    exact E_iret d_X12_fitsBy_23 rfl
noncomputable def f_X12_fitsBy (v0 v1 v2 v3 : Int) (σ : Mem) : Option (Int × Mem) := if isO Sh 12 v0 = true then f_X12_fitsBy_b0 v0 v1 v2 v3 σ else none
theorem L_X12_fitsBy {o : Int × Mem} {v0 v1 v2 v3 : Int} {σ : Mem} (h : f_X12_fitsBy v0 v1 v2 v3 σ = some o) : (isO Sh 12 v0 = true ∧ Cn mt_X12_fitsBy 6 [(2, v0), (0, v1), (0, v2), (0, v3)] Sh σ (some (0, o.1)) Sh o.2) := ⟨(ite_ok h).1, Cn_of mk_X12_fitsBy.1.2.2.1 (Nat.le_of_ble_eq_true rfl) (fun sc => L_X12_fitsBy_b0 (ite_ok h).2)⟩
theorem d_X12_ask_0 : decode mt_X12_ask.2.1 0 = .ok (.aload_n 0, 1) := by decide +kernel
theorem d_X12_ask_1 : decode mt_X12_ask.2.1 1 = .ok (.iconst 0, 1) := by decide +kernel
theorem d_X12_ask_2 : decode mt_X12_ask.2.1 2 = .ok (.putfield 70, 3) := by decide +kernel
theorem d_X12_ask_5 : decode mt_X12_ask.2.1 5 = .ok (.aload_n 0, 1) := by decide +kernel
theorem d_X12_ask_6 : decode mt_X12_ask.2.1 6 = .ok (.aload_n 0, 1) := by decide +kernel
theorem d_X12_ask_7 : decode mt_X12_ask.2.1 7 = .ok (.iload_n 1, 1) := by decide +kernel
theorem d_X12_ask_8 : decode mt_X12_ask.2.1 8 = .ok (.iload_n 2, 1) := by decide +kernel
theorem d_X12_ask_9 : decode mt_X12_ask.2.1 9 = .ok (.invokevirtual 402, 3) := by decide +kernel
theorem d_X12_ask_12 : decode mt_X12_ask.2.1 12 = .ok (.putfield 73, 3) := by decide +kernel
theorem d_X12_ask_15 : decode mt_X12_ask.2.1 15 = .ok (.aload_n 0, 1) := by decide +kernel
theorem d_X12_ask_16 : decode mt_X12_ask.2.1 16 = .ok (.getfield 73, 3) := by decide +kernel
theorem d_X12_ask_19 : decode mt_X12_ask.2.1 19 = .ok (.ifCond .le 5, 3) := by decide +kernel
theorem d_X12_ask_22 : decode mt_X12_ask.2.1 22 = .ok (.iconst (-1), 1) := by decide +kernel
theorem d_X12_ask_23 : decode mt_X12_ask.2.1 23 = .ok (.ireturn, 1) := by decide +kernel
theorem d_X12_ask_24 : decode mt_X12_ask.2.1 24 = .ok (.iload_n 3, 1) := by decide +kernel
theorem d_X12_ask_25 : decode mt_X12_ask.2.1 25 = .ok (.i2l, 1) := by decide +kernel
theorem d_X12_ask_26 : decode mt_X12_ask.2.1 26 = .ok (.lconst 0, 1) := by decide +kernel
theorem d_X12_ask_27 : decode mt_X12_ask.2.1 27 = .ok (.lconst 1, 1) := by decide +kernel
theorem d_X12_ask_28 : decode mt_X12_ask.2.1 28 = .ok (.invokestatic 104, 3) := by decide +kernel
theorem d_X12_ask_31 : decode mt_X12_ask.2.1 31 = .ok (.ifCond .ne 9, 3) := by decide +kernel
theorem d_X12_ask_34 : decode mt_X12_ask.2.1 34 = .ok (.aload_n 0, 1) := by decide +kernel
theorem d_X12_ask_35 : decode mt_X12_ask.2.1 35 = .ok (.iconst 5, 1) := by decide +kernel
theorem d_X12_ask_36 : decode mt_X12_ask.2.1 36 = .ok (.invokevirtual 318, 3) := by decide +kernel
theorem d_X12_ask_39 : decode mt_X12_ask.2.1 39 = .ok (.ireturn, 1) := by decide +kernel
theorem d_X12_ask_40 : decode mt_X12_ask.2.1 40 = .ok (.aload_n 0, 1) := by decide +kernel
theorem d_X12_ask_41 : decode mt_X12_ask.2.1 41 = .ok (.iload_n 1, 1) := by decide +kernel
theorem d_X12_ask_42 : decode mt_X12_ask.2.1 42 = .ok (.iload_n 2, 1) := by decide +kernel
theorem d_X12_ask_43 : decode mt_X12_ask.2.1 43 = .ok (.invokevirtual 405, 3) := by decide +kernel
theorem d_X12_ask_46 : decode mt_X12_ask.2.1 46 = .ok (.iconst (-1), 1) := by decide +kernel
theorem d_X12_ask_47 : decode mt_X12_ask.2.1 47 = .ok (.istore 4, 2) := by decide +kernel
theorem d_X12_ask_49 : decode mt_X12_ask.2.1 49 = .ok (.bipush 62, 2) := by decide +kernel
theorem d_X12_ask_51 : decode mt_X12_ask.2.1 51 = .ok (.istore 5, 2) := by decide +kernel
theorem d_X12_ask_53 : decode mt_X12_ask.2.1 53 = .ok (.iconst 0, 1) := by decide +kernel
theorem d_X12_ask_54 : decode mt_X12_ask.2.1 54 = .ok (.istore 6, 2) := by decide +kernel
theorem d_X12_ask_56 : decode mt_X12_ask.2.1 56 = .ok (.iload 6, 2) := by decide +kernel
theorem d_X12_ask_58 : decode mt_X12_ask.2.1 58 = .ok (.aload_n 0, 1) := by decide +kernel
theorem d_X12_ask_59 : decode mt_X12_ask.2.1 59 = .ok (.getfield 35, 3) := by decide +kernel
theorem d_X12_ask_62 : decode mt_X12_ask.2.1 62 = .ok (.iconst 0, 1) := by decide +kernel
theorem d_X12_ask_63 : decode mt_X12_ask.2.1 63 = .ok (.iaload, 1) := by decide +kernel
theorem d_X12_ask_64 : decode mt_X12_ask.2.1 64 = .ok (.aload_n 0, 1) := by decide +kernel
theorem d_X12_ask_65 : decode mt_X12_ask.2.1 65 = .ok (.getfield 35, 3) := by decide +kernel
theorem d_X12_ask_68 : decode mt_X12_ask.2.1 68 = .ok (.iconst 0, 1) := by decide +kernel
theorem d_X12_ask_69 : decode mt_X12_ask.2.1 69 = .ok (.iaload, 1) := by decide +kernel
theorem d_X12_ask_70 : decode mt_X12_ask.2.1 70 = .ok (.imul, 1) := by decide +kernel
theorem d_X12_ask_71 : decode mt_X12_ask.2.1 71 = .ok (.if_icmp .ge 130, 3) := by decide +kernel
theorem d_X12_ask_74 : decode mt_X12_ask.2.1 74 = .ok (.iload 6, 2) := by decide +kernel
theorem d_X12_ask_76 : decode mt_X12_ask.2.1 76 = .ok (.aload_n 0, 1) := by decide +kernel
theorem d_X12_ask_77 : decode mt_X12_ask.2.1 77 = .ok (.getfield 35, 3) := by decide +kernel
theorem d_X12_ask_80 : decode mt_X12_ask.2.1 80 = .ok (.iconst 0, 1) := by decide +kernel
theorem d_X12_ask_81 : decode mt_X12_ask.2.1 81 = .ok (.iaload, 1) := by decide +kernel
theorem d_X12_ask_82 : decode mt_X12_ask.2.1 82 = .ok (.idiv, 1) := by decide +kernel
theorem d_X12_ask_83 : decode mt_X12_ask.2.1 83 = .ok (.istore 7, 2) := by decide +kernel
theorem d_X12_ask_85 : decode mt_X12_ask.2.1 85 = .ok (.iload 6, 2) := by decide +kernel
theorem d_X12_ask_87 : decode mt_X12_ask.2.1 87 = .ok (.aload_n 0, 1) := by decide +kernel
theorem d_X12_ask_88 : decode mt_X12_ask.2.1 88 = .ok (.getfield 35, 3) := by decide +kernel
theorem d_X12_ask_91 : decode mt_X12_ask.2.1 91 = .ok (.iconst 0, 1) := by decide +kernel
theorem d_X12_ask_92 : decode mt_X12_ask.2.1 92 = .ok (.iaload, 1) := by decide +kernel
theorem d_X12_ask_93 : decode mt_X12_ask.2.1 93 = .ok (.irem, 1) := by decide +kernel
theorem d_X12_ask_94 : decode mt_X12_ask.2.1 94 = .ok (.istore 8, 2) := by decide +kernel
theorem d_X12_ask_96 : decode mt_X12_ask.2.1 96 = .ok (.iconst 0, 1) := by decide +kernel
theorem d_X12_ask_97 : decode mt_X12_ask.2.1 97 = .ok (.istore 9, 2) := by decide +kernel
theorem d_X12_ask_99 : decode mt_X12_ask.2.1 99 = .ok (.iconst 0, 1) := by decide +kernel
theorem d_X12_ask_100 : decode mt_X12_ask.2.1 100 = .ok (.istore 10, 2) := by decide +kernel
theorem d_X12_ask_102 : decode mt_X12_ask.2.1 102 = .ok (.iload 10, 2) := by decide +kernel
theorem d_X12_ask_104 : decode mt_X12_ask.2.1 104 = .ok (.bipush 60, 2) := by decide +kernel
theorem d_X12_ask_106 : decode mt_X12_ask.2.1 106 = .ok (.if_icmp .gt 42, 3) := by decide +kernel
theorem d_X12_ask_109 : decode mt_X12_ask.2.1 109 = .ok (.iload 9, 2) := by decide +kernel
theorem d_X12_ask_111 : decode mt_X12_ask.2.1 111 = .ok (.aload_n 0, 1) := by decide +kernel
theorem d_X12_ask_112 : decode mt_X12_ask.2.1 112 = .ok (.getfield 47, 3) := by decide +kernel
theorem d_X12_ask_115 : decode mt_X12_ask.2.1 115 = .ok (.iload 10, 2) := by decide +kernel
theorem d_X12_ask_117 : decode mt_X12_ask.2.1 117 = .ok (.baload, 1) := by decide +kernel
theorem d_X12_ask_118 : decode mt_X12_ask.2.1 118 = .ok (.ifCond .eq 20, 3) := by decide +kernel
theorem d_X12_ask_121 : decode mt_X12_ask.2.1 121 = .ok (.aload_n 0, 1) := by decide +kernel
theorem d_X12_ask_122 : decode mt_X12_ask.2.1 122 = .ok (.iload 10, 2) := by decide +kernel
theorem d_X12_ask_124 : decode mt_X12_ask.2.1 124 = .ok (.iload 7, 2) := by decide +kernel
theorem d_X12_ask_126 : decode mt_X12_ask.2.1 126 = .ok (.iload 8, 2) := by decide +kernel
theorem d_X12_ask_128 : decode mt_X12_ask.2.1 128 = .ok (.invokevirtual 398, 3) := by decide +kernel
theorem d_X12_ask_131 : decode mt_X12_ask.2.1 131 = .ok (.ifCond .eq 7, 3) := by decide +kernel
theorem d_X12_ask_134 : decode mt_X12_ask.2.1 134 = .ok (.iconst 1, 1) := by decide +kernel
theorem d_X12_ask_135 : decode mt_X12_ask.2.1 135 = .ok (.goto 4, 3) := by decide +kernel
theorem d_X12_ask_138 : decode mt_X12_ask.2.1 138 = .ok (.iconst 0, 1) := by decide +kernel
theorem d_X12_ask_139 : decode mt_X12_ask.2.1 139 = .ok (.iadd, 1) := by decide +kernel
theorem d_X12_ask_140 : decode mt_X12_ask.2.1 140 = .ok (.istore 9, 2) := by decide +kernel
theorem d_X12_ask_142 : decode mt_X12_ask.2.1 142 = .ok (.iinc 10 1, 3) := by decide +kernel
theorem d_X12_ask_145 : decode mt_X12_ask.2.1 145 = .ok (.goto (-43), 3) := by decide +kernel
theorem d_X12_ask_148 : decode mt_X12_ask.2.1 148 = .ok (.aload_n 0, 1) := by decide +kernel
theorem d_X12_ask_149 : decode mt_X12_ask.2.1 149 = .ok (.iload 8, 2) := by decide +kernel
theorem d_X12_ask_151 : decode mt_X12_ask.2.1 151 = .ok (.invokevirtual 305, 3) := by decide +kernel
theorem d_X12_ask_154 : decode mt_X12_ask.2.1 154 = .ok (.ifCond .eq 41, 3) := by decide +kernel
theorem d_X12_ask_157 : decode mt_X12_ask.2.1 157 = .ok (.iload 9, 2) := by decide +kernel
theorem d_X12_ask_159 : decode mt_X12_ask.2.1 159 = .ok (.aload_n 0, 1) := by decide +kernel
theorem d_X12_ask_160 : decode mt_X12_ask.2.1 160 = .ok (.getfield 395, 3) := by decide +kernel
theorem d_X12_ask_163 : decode mt_X12_ask.2.1 163 = .ok (.iload 9, 2) := by decide +kernel
theorem d_X12_ask_165 : decode mt_X12_ask.2.1 165 = .ok (.isub, 1) := by decide +kernel
theorem d_X12_ask_166 : decode mt_X12_ask.2.1 166 = .ok (.invokestatic 235, 3) := by decide +kernel
theorem d_X12_ask_169 : decode mt_X12_ask.2.1 169 = .ok (.iload 5, 2) := by decide +kernel
theorem d_X12_ask_171 : decode mt_X12_ask.2.1 171 = .ok (.if_icmp .lt 6, 3) := by decide +kernel
theorem d_X12_ask_174 : decode mt_X12_ask.2.1 174 = .ok (.goto 21, 3) := by decide +kernel
theorem d_X12_ask_177 : decode mt_X12_ask.2.1 177 = .ok (.iload 9, 2) := by decide +kernel
theorem d_X12_ask_179 : decode mt_X12_ask.2.1 179 = .ok (.aload_n 0, 1) := by decide +kernel
theorem d_X12_ask_180 : decode mt_X12_ask.2.1 180 = .ok (.getfield 395, 3) := by decide +kernel
theorem d_X12_ask_183 : decode mt_X12_ask.2.1 183 = .ok (.iload 9, 2) := by decide +kernel
theorem d_X12_ask_185 : decode mt_X12_ask.2.1 185 = .ok (.isub, 1) := by decide +kernel
theorem d_X12_ask_186 : decode mt_X12_ask.2.1 186 = .ok (.invokestatic 235, 3) := by decide +kernel
theorem d_X12_ask_189 : decode mt_X12_ask.2.1 189 = .ok (.istore 5, 2) := by decide +kernel
theorem d_X12_ask_191 : decode mt_X12_ask.2.1 191 = .ok (.iload 6, 2) := by decide +kernel
theorem d_X12_ask_193 : decode mt_X12_ask.2.1 193 = .ok (.istore 4, 2) := by decide +kernel
theorem d_X12_ask_195 : decode mt_X12_ask.2.1 195 = .ok (.iinc 6 1, 3) := by decide +kernel
theorem d_X12_ask_198 : decode mt_X12_ask.2.1 198 = .ok (.goto (-142), 3) := by decide +kernel
theorem d_X12_ask_201 : decode mt_X12_ask.2.1 201 = .ok (.aload_n 0, 1) := by decide +kernel
theorem d_X12_ask_202 : decode mt_X12_ask.2.1 202 = .ok (.getfield 395, 3) := by decide +kernel
theorem d_X12_ask_205 : decode mt_X12_ask.2.1 205 = .ok (.iconst 2, 1) := by decide +kernel
theorem d_X12_ask_206 : decode mt_X12_ask.2.1 206 = .ok (.if_icmp .lt 8, 3) := by decide +kernel
theorem d_X12_ask_209 : decode mt_X12_ask.2.1 209 = .ok (.iload 4, 2) := by decide +kernel
theorem d_X12_ask_211 : decode mt_X12_ask.2.1 211 = .ok (.ifCond .ge 10, 3) := by decide +kernel
theorem d_X12_ask_214 : decode mt_X12_ask.2.1 214 = .ok (.aload_n 0, 1) := by decide +kernel
theorem d_X12_ask_215 : decode mt_X12_ask.2.1 215 = .ok (.bipush 8, 2) := by decide +kernel
theorem d_X12_ask_217 : decode mt_X12_ask.2.1 217 = .ok (.invokevirtual 318, 3) := by decide +kernel
theorem d_X12_ask_220 : decode mt_X12_ask.2.1 220 = .ok (.ireturn, 1) := by decide +kernel
theorem d_X12_ask_221 : decode mt_X12_ask.2.1 221 = .ok (.iload_n 3, 1) := by decide +kernel
theorem d_X12_ask_222 : decode mt_X12_ask.2.1 222 = .ok (.ifCond .ne 15, 3) := by decide +kernel
theorem d_X12_ask_225 : decode mt_X12_ask.2.1 225 = .ok (.iload 4, 2) := by decide +kernel
theorem d_X12_ask_227 : decode mt_X12_ask.2.1 227 = .ok (.aload_n 0, 1) := by decide +kernel
theorem d_X12_ask_228 : decode mt_X12_ask.2.1 228 = .ok (.getfield 35, 3) := by decide +kernel
theorem d_X12_ask_231 : decode mt_X12_ask.2.1 231 = .ok (.iconst 0, 1) := by decide +kernel
theorem d_X12_ask_232 : decode mt_X12_ask.2.1 232 = .ok (.iaload, 1) := by decide +kernel
theorem d_X12_ask_233 : decode mt_X12_ask.2.1 233 = .ok (.idiv, 1) := by decide +kernel
theorem d_X12_ask_234 : decode mt_X12_ask.2.1 234 = .ok (.goto 12, 3) := by decide +kernel
theorem d_X12_ask_237 : decode mt_X12_ask.2.1 237 = .ok (.iload 4, 2) := by decide +kernel
theorem d_X12_ask_239 : decode mt_X12_ask.2.1 239 = .ok (.aload_n 0, 1) := by decide +kernel
theorem d_X12_ask_240 : decode mt_X12_ask.2.1 240 = .ok (.getfield 35, 3) := by decide +kernel
theorem d_X12_ask_243 : decode mt_X12_ask.2.1 243 = .ok (.iconst 0, 1) := by decide +kernel
theorem d_X12_ask_244 : decode mt_X12_ask.2.1 244 = .ok (.iaload, 1) := by decide +kernel
theorem d_X12_ask_245 : decode mt_X12_ask.2.1 245 = .ok (.irem, 1) := by decide +kernel
theorem d_X12_ask_246 : decode mt_X12_ask.2.1 246 = .ok (.ireturn, 1) := by decide +kernel
noncomputable def f_X12_ask_b139 (k56 : (Int → Int → Int → Int → Int → Mem → Option (Int × Mem))) (k102 : (Int → Int → Int → Int → Int → Int → Int → Int → Int → Mem → Option (Int × Mem))) (v0 v3 v4 v5 v6 v7 v8 v10 s0 s1 : Int) (σ : Mem) : Option (Int × Mem) :=
  k102 v0 v3 v4 v5 v6 v7 v8 (w32 (s1 + s0)) (w32 (v10 + 1)) σ
theorem L_X12_ask_b139 {sc : Nat × (Nat → Int32)} {o : Int × Mem} {k56 : (Int → Int → Int → Int → Int → Mem → Option (Int × Mem))} {k102 : (Int → Int → Int → Int → Int → Int → Int → Int → Int → Mem → Option (Int × Mem))} (hk56 : ∀ {v0 v3 v4 v5 v6 : Int} {σ : Mem}, k56 v0 v3 v4 v5 v6 σ = some o → E sc (Fm Sh (some (0, o.1)) Sh o.2) mt_X12_ask 6 Sh Sh 56 [(2, v0), (9, 0), (9, 0), (0, v3), (0, v4), (0, v5), (0, v6), (9, 0), (9, 0), (9, 0), (9, 0)] [] Sh σ) (hk102 : ∀ {v0 v3 v4 v5 v6 v7 v8 v9 v10 : Int} {σ : Mem}, k102 v0 v3 v4 v5 v6 v7 v8 v9 v10 σ = some o → E sc (Fm Sh (some (0, o.1)) Sh o.2) mt_X12_ask 6 Sh Sh 102 [(2, v0), (9, 0), (9, 0), (0, v3), (0, v4), (0, v5), (0, v6), (0, v7), (0, v8), (0, v9), (0, v10)] [] Sh σ) {v0 v3 v4 v5 v6 v7 v8 v10 s0 s1 : Int} {σ : Mem} (h : f_X12_ask_b139 k56 k102 v0 v3 v4 v5 v6 v7 v8 v10 s0 s1 σ = some o) : E sc (Fm Sh (some (0, o.1)) Sh o.2) mt_X12_ask 6 Sh Sh 139 [(2, v0), (9, 0), (9, 0), (0, v3), (0, v4), (0, v5), (0, v6), (0, v7), (0, v8), (9, 0), (0, v10)] [(0, s0), (0, s1)] Sh σ := by
  unfold f_X12_ask_b139 at h
  refine E_iadd d_X12_ask_139 ?_
  refine E_istore d_X12_ask_140 (ls' := [(2, v0), (9, 0), (9, 0), (0, v3), (0, v4), (0, v5), (0, v6), (0, v7), (0, v8), (0, w32 (s1 + s0)), (0, v10)]) ⟨by decide, rfl⟩ ?_
  refine E_iinc d_X12_ask_142 (ls' := [(2, v0), (9, 0), (9, 0), (0, v3), (0, v4), (0, v5), (0, v6), (0, v7), (0, v8), (0, w32 (s1 + s0)), (0, w32 (v10 + 1))]) rfl ⟨by decide, rfl⟩ ?_
  refine E_goto (tgt := 102) d_X12_ask_145 (by decide) ?_
  exact (hk102 h)
noncomputable def f_X12_ask_b138 (k56 : (Int → Int → Int → Int → Int → Mem → Option (Int × Mem))) (k102 : (Int → Int → Int → Int → Int → Int → Int → Int → Int → Mem → Option (Int × Mem))) (v0 v3 v4 v5 v6 v7 v8 v10 s0 : Int) (σ : Mem) : Option (Int × Mem) :=
  f_X12_ask_b139 k56 k102 v0 v3 v4 v5 v6 v7 v8 v10 0 s0 σ
theorem L_X12_ask_b138 {sc : Nat × (Nat → Int32)} {o : Int × Mem} {k56 : (Int → Int → Int → Int → Int → Mem → Option (Int × Mem))} {k102 : (Int → Int → Int → Int → Int → Int → Int → Int → Int → Mem → Option (Int × Mem))} (hk56 : ∀ {v0 v3 v4 v5 v6 : Int} {σ : Mem}, k56 v0 v3 v4 v5 v6 σ = some o → E sc (Fm Sh (some (0, o.1)) Sh o.2) mt_X12_ask 6 Sh Sh 56 [(2, v0), (9, 0), (9, 0), (0, v3), (0, v4), (0, v5), (0, v6), (9, 0), (9, 0), (9, 0), (9, 0)] [] Sh σ) (hk102 : ∀ {v0 v3 v4 v5 v6 v7 v8 v9 v10 : Int} {σ : Mem}, k102 v0 v3 v4 v5 v6 v7 v8 v9 v10 σ = some o → E sc (Fm Sh (some (0, o.1)) Sh o.2) mt_X12_ask 6 Sh Sh 102 [(2, v0), (9, 0), (9, 0), (0, v3), (0, v4), (0, v5), (0, v6), (0, v7), (0, v8), (0, v9), (0, v10)] [] Sh σ) {v0 v3 v4 v5 v6 v7 v8 v10 s0 : Int} {σ : Mem} (h : f_X12_ask_b138 k56 k102 v0 v3 v4 v5 v6 v7 v8 v10 s0 σ = some o) : E sc (Fm Sh (some (0, o.1)) Sh o.2) mt_X12_ask 6 Sh Sh 138 [(2, v0), (9, 0), (9, 0), (0, v3), (0, v4), (0, v5), (0, v6), (0, v7), (0, v8), (9, 0), (0, v10)] [(0, s0)] Sh σ := by
  unfold f_X12_ask_b138 at h
  refine E_iconst d_X12_ask_138 (c32 rfl) ?_
  exact (L_X12_ask_b139 hk56 hk102 h)
noncomputable def f_X12_ask_b195 (k56 : (Int → Int → Int → Int → Int → Mem → Option (Int × Mem))) (v0 v3 v4 v5 v6 : Int) (σ : Mem) : Option (Int × Mem) :=
  k56 v0 v3 v4 v5 (w32 (v6 + 1)) σ
theorem L_X12_ask_b195 {sc : Nat × (Nat → Int32)} {o : Int × Mem} {k56 : (Int → Int → Int → Int → Int → Mem → Option (Int × Mem))} (hk56 : ∀ {v0 v3 v4 v5 v6 : Int} {σ : Mem}, k56 v0 v3 v4 v5 v6 σ = some o → E sc (Fm Sh (some (0, o.1)) Sh o.2) mt_X12_ask 6 Sh Sh 56 [(2, v0), (9, 0), (9, 0), (0, v3), (0, v4), (0, v5), (0, v6), (9, 0), (9, 0), (9, 0), (9, 0)] [] Sh σ) {v0 v3 v4 v5 v6 : Int} {σ : Mem} (h : f_X12_ask_b195 k56 v0 v3 v4 v5 v6 σ = some o) : E sc (Fm Sh (some (0, o.1)) Sh o.2) mt_X12_ask 6 Sh Sh 195 [(2, v0), (9, 0), (9, 0), (0, v3), (0, v4), (0, v5), (0, v6), (9, 0), (9, 0), (9, 0), (9, 0)] [] Sh σ := by
  unfold f_X12_ask_b195 at h
  refine E_iinc d_X12_ask_195 (ls' := [(2, v0), (9, 0), (9, 0), (0, v3), (0, v4), (0, v5), (0, w32 (v6 + 1)), (9, 0), (9, 0), (9, 0), (9, 0)]) rfl ⟨by decide, rfl⟩ ?_
  refine E_goto (tgt := 56) d_X12_ask_198 (by decide) ?_
  exact (hk56 h)
noncomputable def f_X12_ask_b102 (k56 : (Int → Int → Int → Int → Int → Mem → Option (Int × Mem))) (k102 : (Int → Int → Int → Int → Int → Int → Int → Int → Int → Mem → Option (Int × Mem))) (v0 v3 v4 v5 v6 v7 v8 v9 v10 : Int) (σ : Mem) : Option (Int × Mem) :=
  if 60 < v10 then
    (f_X12_isStoneAt v0 v8 σ).bind fun r29 =>
    if r29 = 0 then
      f_X12_ask_b195 k56 v0 v3 v4 v5 v6 σ
    else
      (gf Sh σ 12 v0 28).bind fun x31 =>
      if imax v9 (w32 (x31 - v9)) < v5 then
        (gf Sh σ 12 v0 28).bind fun x32 =>
        f_X12_ask_b195 k56 v0 v3 v6 (imax v9 (w32 (x32 - v9))) v6 σ
      else
        f_X12_ask_b195 k56 v0 v3 v4 v5 v6 σ
  else
    (gf Sh σ 12 v0 27).bind fun x33 =>
    (al Sh σ 23 x33 v10).bind fun x34 =>
    if x34 = 0 then
      f_X12_ask_b138 k56 k102 v0 v3 v4 v5 v6 v7 v8 v10 v9 σ
    else
      (f_X12_turns v0 v10 v7 v8 σ).bind fun r35 =>
      if r35 = 0 then
        f_X12_ask_b138 k56 k102 v0 v3 v4 v5 v6 v7 v8 v10 v9 σ
      else
        f_X12_ask_b139 k56 k102 v0 v3 v4 v5 v6 v7 v8 v10 1 v9 σ
theorem L_X12_ask_b102 {sc : Nat × (Nat → Int32)} {o : Int × Mem} {k56 : (Int → Int → Int → Int → Int → Mem → Option (Int × Mem))} {k102 : (Int → Int → Int → Int → Int → Int → Int → Int → Int → Mem → Option (Int × Mem))} (hk56 : ∀ {v0 v3 v4 v5 v6 : Int} {σ : Mem}, k56 v0 v3 v4 v5 v6 σ = some o → E sc (Fm Sh (some (0, o.1)) Sh o.2) mt_X12_ask 6 Sh Sh 56 [(2, v0), (9, 0), (9, 0), (0, v3), (0, v4), (0, v5), (0, v6), (9, 0), (9, 0), (9, 0), (9, 0)] [] Sh σ) (hk102 : ∀ {v0 v3 v4 v5 v6 v7 v8 v9 v10 : Int} {σ : Mem}, k102 v0 v3 v4 v5 v6 v7 v8 v9 v10 σ = some o → E sc (Fm Sh (some (0, o.1)) Sh o.2) mt_X12_ask 6 Sh Sh 102 [(2, v0), (9, 0), (9, 0), (0, v3), (0, v4), (0, v5), (0, v6), (0, v7), (0, v8), (0, v9), (0, v10)] [] Sh σ) {v0 v3 v4 v5 v6 v7 v8 v9 v10 : Int} {σ : Mem} (h : f_X12_ask_b102 k56 k102 v0 v3 v4 v5 v6 v7 v8 v9 v10 σ = some o) : E sc (Fm Sh (some (0, o.1)) Sh o.2) mt_X12_ask 6 Sh Sh 102 [(2, v0), (9, 0), (9, 0), (0, v3), (0, v4), (0, v5), (0, v6), (0, v7), (0, v8), (0, v9), (0, v10)] [] Sh σ := by
  unfold f_X12_ask_b102 at h
  refine E_iload d_X12_ask_102 rfl ?_
  refine E_bipush d_X12_ask_104 (c8 rfl) ?_
  refine E_icmp_gt (tgt := 148) d_X12_ask_106 (by decide) h (fun _ h => ?_) (fun _ h => ?_)
  · refine E_aload_n d_X12_ask_148 rfl (by decide) ?_
    refine E_iload d_X12_ask_149 rfl ?_
    refine bd h (fun r29 q30 h => ?_)
    refine E_cV (as := [(0, v8)]) (st := []) (a := v0) d_X12_ask_151 mk_X12_isStoneAt nl_X12_305 (by omega) ⟨rfl, rfl, Nat.le_of_ble_eq_true rfl⟩ okX12 rfl (L_X12_isStoneAt q30) ?_
    refine E_if_eq (tgt := 195) d_X12_ask_154 (by decide) h (fun _ h => ?_) (fun _ h => ?_)
    · exact E_weak (ls' := [(2, v0), (9, 0), (9, 0), (0, v3), (0, v4), (0, v5), (0, v6), (9, 0), (9, 0), (9, 0), (9, 0)]) ⟨Or.inr rfl, Or.inl rfl, Or.inl rfl, Or.inr rfl, Or.inr rfl, Or.inr rfl, Or.inr rfl, Or.inl rfl, Or.inl rfl, Or.inl rfl, Or.inl rfl, trivial⟩ (L_X12_ask_b195 hk56 h)
    · refine E_iload d_X12_ask_157 rfl ?_
      refine E_aload_n d_X12_ask_159 rfl (by decide) ?_
      refine E_get d_X12_ask_160 okX12 fl_X12_395 ⟨by decide, rfl⟩ h (fun x31 h => ?_)
      refine E_iload d_X12_ask_163 rfl ?_
      refine E_isub d_X12_ask_165 ?_
      refine E_imax d_X12_ask_166 nl_X12_235 (by omega) (Nat.le_of_ble_eq_true rfl) ?_
      refine E_iload d_X12_ask_169 rfl ?_
      refine E_icmp_lt (tgt := 177) d_X12_ask_171 (by decide) h (fun _ h => ?_) (fun _ h => ?_)
      · refine E_iload d_X12_ask_177 rfl ?_
        refine E_aload_n d_X12_ask_179 rfl (by decide) ?_
        refine E_get d_X12_ask_180 okX12 fl_X12_395 ⟨by decide, rfl⟩ h (fun x32 h => ?_)
        refine E_iload d_X12_ask_183 rfl ?_
        refine E_isub d_X12_ask_185 ?_
        refine E_imax d_X12_ask_186 nl_X12_235 (by omega) (Nat.le_of_ble_eq_true rfl) ?_
        refine E_istore d_X12_ask_189 (ls' := [(2, v0), (9, 0), (9, 0), (0, v3), (0, v4), (0, imax v9 (w32 (x32 - v9))), (0, v6), (0, v7), (0, v8), (0, v9), (0, v10)]) ⟨by decide, rfl⟩ ?_
        refine E_iload d_X12_ask_191 rfl ?_
        refine E_istore d_X12_ask_193 (ls' := [(2, v0), (9, 0), (9, 0), (0, v3), (0, v6), (0, imax v9 (w32 (x32 - v9))), (0, v6), (0, v7), (0, v8), (0, v9), (0, v10)]) ⟨by decide, rfl⟩ ?_
        exact E_weak (ls' := [(2, v0), (9, 0), (9, 0), (0, v3), (0, v6), (0, imax v9 (w32 (x32 - v9))), (0, v6), (9, 0), (9, 0), (9, 0), (9, 0)]) ⟨Or.inr rfl, Or.inl rfl, Or.inl rfl, Or.inr rfl, Or.inr rfl, Or.inr rfl, Or.inr rfl, Or.inl rfl, Or.inl rfl, Or.inl rfl, Or.inl rfl, trivial⟩ (L_X12_ask_b195 hk56 h)
      · refine E_goto (tgt := 195) d_X12_ask_174 (by decide) ?_
        exact E_weak (ls' := [(2, v0), (9, 0), (9, 0), (0, v3), (0, v4), (0, v5), (0, v6), (9, 0), (9, 0), (9, 0), (9, 0)]) ⟨Or.inr rfl, Or.inl rfl, Or.inl rfl, Or.inr rfl, Or.inr rfl, Or.inr rfl, Or.inr rfl, Or.inl rfl, Or.inl rfl, Or.inl rfl, Or.inl rfl, trivial⟩ (L_X12_ask_b195 hk56 h)
  · refine E_iload d_X12_ask_109 rfl ?_
    refine E_aload_n d_X12_ask_111 rfl (by decide) ?_
    refine E_get d_X12_ask_112 okX12 fl_X12_47 ⟨by decide, rfl⟩ h (fun x33 h => ?_)
    refine E_iload d_X12_ask_115 rfl ?_
    refine E_baload d_X12_ask_117 (by decide : 23 = 22 ∨ 23 = 23) h (fun x34 h => ?_)
    refine E_if_eq (tgt := 138) d_X12_ask_118 (by decide) h (fun _ h => ?_) (fun _ h => ?_)
    · exact E_weak (ls' := [(2, v0), (9, 0), (9, 0), (0, v3), (0, v4), (0, v5), (0, v6), (0, v7), (0, v8), (9, 0), (0, v10)]) ⟨Or.inr rfl, Or.inl rfl, Or.inl rfl, Or.inr rfl, Or.inr rfl, Or.inr rfl, Or.inr rfl, Or.inr rfl, Or.inr rfl, Or.inl rfl, Or.inr rfl, trivial⟩ (L_X12_ask_b138 hk56 hk102 h)
    · refine E_aload_n d_X12_ask_121 rfl (by decide) ?_
      refine E_iload d_X12_ask_122 rfl ?_
      refine E_iload d_X12_ask_124 rfl ?_
      refine E_iload d_X12_ask_126 rfl ?_
      refine bd h (fun r35 q36 h => ?_)
      refine E_cV (as := [(0, v10), (0, v7), (0, v8)]) (st := [(0, v9)]) (a := v0) d_X12_ask_128 mk_X12_turns nl_X12_398 (by omega) ⟨rfl, rfl, Nat.le_of_ble_eq_true rfl⟩ okX12 rfl (L_X12_turns q36) ?_
      refine E_if_eq (tgt := 138) d_X12_ask_131 (by decide) h (fun _ h => ?_) (fun _ h => ?_)
      · exact E_weak (ls' := [(2, v0), (9, 0), (9, 0), (0, v3), (0, v4), (0, v5), (0, v6), (0, v7), (0, v8), (9, 0), (0, v10)]) ⟨Or.inr rfl, Or.inl rfl, Or.inl rfl, Or.inr rfl, Or.inr rfl, Or.inr rfl, Or.inr rfl, Or.inr rfl, Or.inr rfl, Or.inl rfl, Or.inr rfl, trivial⟩ (L_X12_ask_b138 hk56 hk102 h)
      · refine E_iconst d_X12_ask_134 (c32 rfl) ?_
        refine E_goto (tgt := 139) d_X12_ask_135 (by decide) ?_
        exact E_weak (ls' := [(2, v0), (9, 0), (9, 0), (0, v3), (0, v4), (0, v5), (0, v6), (0, v7), (0, v8), (9, 0), (0, v10)]) ⟨Or.inr rfl, Or.inl rfl, Or.inl rfl, Or.inr rfl, Or.inr rfl, Or.inr rfl, Or.inr rfl, Or.inr rfl, Or.inr rfl, Or.inl rfl, Or.inr rfl, trivial⟩ (L_X12_ask_b139 hk56 hk102 h)
noncomputable def f_X12_ask_h102 (k56 : (Int → Int → Int → Int → Int → Mem → Option (Int × Mem))) (n : Nat) : Int → Int → Int → Int → Int → Int → Int → Int → Int → Mem → Option (Int × Mem) := Nat.rec (motive := fun _ => Int → Int → Int → Int → Int → Int → Int → Int → Int → Mem → Option (Int × Mem)) (fun _ _ _ _ _ _ _ _ _ _ => none) (fun _ ih => f_X12_ask_b102 k56 (ih)) n
theorem L_X12_ask_h102 {sc : Nat × (Nat → Int32)} {o : Int × Mem} {k56 : (Int → Int → Int → Int → Int → Mem → Option (Int × Mem))} (hk56 : ∀ {v0 v3 v4 v5 v6 : Int} {σ : Mem}, k56 v0 v3 v4 v5 v6 σ = some o → E sc (Fm Sh (some (0, o.1)) Sh o.2) mt_X12_ask 6 Sh Sh 56 [(2, v0), (9, 0), (9, 0), (0, v3), (0, v4), (0, v5), (0, v6), (9, 0), (9, 0), (9, 0), (9, 0)] [] Sh σ) : ∀ (n : Nat) {v0 v3 v4 v5 v6 v7 v8 v9 v10 : Int} {σ : Mem}, f_X12_ask_h102 k56 n v0 v3 v4 v5 v6 v7 v8 v9 v10 σ = some o → E sc (Fm Sh (some (0, o.1)) Sh o.2) mt_X12_ask 6 Sh Sh 102 [(2, v0), (9, 0), (9, 0), (0, v3), (0, v4), (0, v5), (0, v6), (0, v7), (0, v8), (0, v9), (0, v10)] [] Sh σ := by
  intro n
  induction n with
  | zero => intro v0 v3 v4 v5 v6 v7 v8 v9 v10 σ h; cases h
  | succ n ih => intro v0 v3 v4 v5 v6 v7 v8 v9 v10 σ h; exact L_X12_ask_b102 hk56 (@ih) h
noncomputable def f_X12_ask_b214 (v0 : Int) (σ : Mem) : Option (Int × Mem) :=
  (f_X12_refuse v0 8 σ).bind fun r37 =>
  some (r37.1, r37.2)
theorem L_X12_ask_b214 {sc : Nat × (Nat → Int32)} {o : Int × Mem} {v0 : Int} {σ : Mem} (h : f_X12_ask_b214 v0 σ = some o) : E sc (Fm Sh (some (0, o.1)) Sh o.2) mt_X12_ask 6 Sh Sh 214 [(2, v0), (9, 0), (9, 0), (9, 0), (9, 0), (9, 0), (9, 0), (9, 0), (9, 0), (9, 0), (9, 0)] [] Sh σ := by
  unfold f_X12_ask_b214 at h
  refine E_aload_n d_X12_ask_214 rfl (by decide) ?_
  refine E_bipush d_X12_ask_215 (c8 rfl) ?_
  refine bd h (fun r37 q38 h => ?_)
  refine E_cV (as := [(0, 8)]) (st := []) (a := v0) d_X12_ask_217 mk_X12_refuse nl_X12_318 (by omega) ⟨rfl, rfl, Nat.le_of_ble_eq_true rfl⟩ okX12 rfl (L_X12_refuse q38) ?_
  cases h
  exact E_iret d_X12_ask_220 rfl
noncomputable def f_X12_ask_b56 (k56 : (Int → Int → Int → Int → Int → Mem → Option (Int × Mem))) (v0 v3 v4 v5 v6 : Int) (σ : Mem) : Option (Int × Mem) :=
  (gf Sh σ 12 v0 20).bind fun x12 =>
  (al Sh σ 20 x12 0).bind fun x13 =>
  (gf Sh σ 12 v0 20).bind fun x14 =>
  (al Sh σ 20 x14 0).bind fun x15 =>
  if w32 (x13 * x15) ≤ v6 then
    (gf Sh σ 12 v0 28).bind fun x16 =>
    if x16 < 2 then
      f_X12_ask_b214 v0 σ
    else
      if 0 ≤ v4 then
        if v3 = 0 then
          (gf Sh σ 12 v0 20).bind fun x17 =>
          (al Sh σ 20 x17 0).bind fun x18 =>
          (nz x18).bind fun _ =>
          some (w32 (Int.tdiv v4 x18), σ)
        else
          (gf Sh σ 12 v0 20).bind fun x20 =>
          (al Sh σ 20 x20 0).bind fun x21 =>
          (nz x21).bind fun _ =>
          some (w32 (Int.tmod v4 x21), σ)
      else
        f_X12_ask_b214 v0 σ
  else
    (gf Sh σ 12 v0 20).bind fun x23 =>
    (al Sh σ 20 x23 0).bind fun x24 =>
    (nz x24).bind fun _ =>
    (gf Sh σ 12 v0 20).bind fun x26 =>
    (al Sh σ 20 x26 0).bind fun x27 =>
    (nz x27).bind fun _ =>
    f_X12_ask_h102 k56 FU v0 v3 v4 v5 v6 (w32 (Int.tdiv v6 x24)) (w32 (Int.tmod v6 x27)) 0 0 σ
theorem L_X12_ask_b56 {sc : Nat × (Nat → Int32)} {o : Int × Mem} {k56 : (Int → Int → Int → Int → Int → Mem → Option (Int × Mem))} (hk56 : ∀ {v0 v3 v4 v5 v6 : Int} {σ : Mem}, k56 v0 v3 v4 v5 v6 σ = some o → E sc (Fm Sh (some (0, o.1)) Sh o.2) mt_X12_ask 6 Sh Sh 56 [(2, v0), (9, 0), (9, 0), (0, v3), (0, v4), (0, v5), (0, v6), (9, 0), (9, 0), (9, 0), (9, 0)] [] Sh σ) {v0 v3 v4 v5 v6 : Int} {σ : Mem} (h : f_X12_ask_b56 k56 v0 v3 v4 v5 v6 σ = some o) : E sc (Fm Sh (some (0, o.1)) Sh o.2) mt_X12_ask 6 Sh Sh 56 [(2, v0), (9, 0), (9, 0), (0, v3), (0, v4), (0, v5), (0, v6), (9, 0), (9, 0), (9, 0), (9, 0)] [] Sh σ := by
  unfold f_X12_ask_b56 at h
  refine E_iload d_X12_ask_56 rfl ?_
  refine E_aload_n d_X12_ask_58 rfl (by decide) ?_
  refine E_get d_X12_ask_59 okX12 fl_X12_35 ⟨by decide, rfl⟩ h (fun x12 h => ?_)
  refine E_iconst d_X12_ask_62 (c32 rfl) ?_
  refine E_iaload d_X12_ask_63 h (fun x13 h => ?_)
  refine E_aload_n d_X12_ask_64 rfl (by decide) ?_
  refine E_get d_X12_ask_65 okX12 fl_X12_35 ⟨by decide, rfl⟩ h (fun x14 h => ?_)
  refine E_iconst d_X12_ask_68 (c32 rfl) ?_
  refine E_iaload d_X12_ask_69 h (fun x15 h => ?_)
  refine E_imul d_X12_ask_70 ?_
  refine E_icmp_ge (tgt := 201) d_X12_ask_71 (by decide) h (fun _ h => ?_) (fun _ h => ?_)
  · refine E_aload_n d_X12_ask_201 rfl (by decide) ?_
    refine E_get d_X12_ask_202 okX12 fl_X12_395 ⟨by decide, rfl⟩ h (fun x16 h => ?_)
    refine E_iconst d_X12_ask_205 (c32 rfl) ?_
    refine E_icmp_lt (tgt := 214) d_X12_ask_206 (by decide) h (fun _ h => ?_) (fun _ h => ?_)
    · exact E_weak (ls' := [(2, v0), (9, 0), (9, 0), (9, 0), (9, 0), (9, 0), (9, 0), (9, 0), (9, 0), (9, 0), (9, 0)]) ⟨Or.inr rfl, Or.inl rfl, Or.inl rfl, Or.inl rfl, Or.inl rfl, Or.inl rfl, Or.inl rfl, Or.inl rfl, Or.inl rfl, Or.inl rfl, Or.inl rfl, trivial⟩ (L_X12_ask_b214 h)
    · refine E_iload d_X12_ask_209 rfl ?_
      refine E_if_ge (tgt := 221) d_X12_ask_211 (by decide) h (fun _ h => ?_) (fun _ h => ?_)
      · refine E_iload_n d_X12_ask_221 rfl ?_
        refine E_if_ne (tgt := 237) d_X12_ask_222 (by decide) h (fun _ h => ?_) (fun _ h => ?_)
        · refine E_iload d_X12_ask_225 rfl ?_
          refine E_aload_n d_X12_ask_227 rfl (by decide) ?_
          refine E_get d_X12_ask_228 okX12 fl_X12_35 ⟨by decide, rfl⟩ h (fun x17 h => ?_)
          refine E_iconst d_X12_ask_231 (c32 rfl) ?_
          refine E_iaload d_X12_ask_232 h (fun x18 h => ?_)
          refine bd_nz h (fun q19 h => ?_)
          refine E_idiv d_X12_ask_233 q19 ?_
          refine E_goto (tgt := 246) d_X12_ask_234 (by decide) ?_
          cases h
          exact E_iret d_X12_ask_246 rfl
        · refine E_iload d_X12_ask_237 rfl ?_
          refine E_aload_n d_X12_ask_239 rfl (by decide) ?_
          refine E_get d_X12_ask_240 okX12 fl_X12_35 ⟨by decide, rfl⟩ h (fun x20 h => ?_)
          refine E_iconst d_X12_ask_243 (c32 rfl) ?_
          refine E_iaload d_X12_ask_244 h (fun x21 h => ?_)
          refine bd_nz h (fun q22 h => ?_)
          refine E_irem d_X12_ask_245 q22 ?_
          cases h
          exact E_iret d_X12_ask_246 rfl
      · exact E_weak (ls' := [(2, v0), (9, 0), (9, 0), (9, 0), (9, 0), (9, 0), (9, 0), (9, 0), (9, 0), (9, 0), (9, 0)]) ⟨Or.inr rfl, Or.inl rfl, Or.inl rfl, Or.inl rfl, Or.inl rfl, Or.inl rfl, Or.inl rfl, Or.inl rfl, Or.inl rfl, Or.inl rfl, Or.inl rfl, trivial⟩ (L_X12_ask_b214 h)
  · refine E_iload d_X12_ask_74 rfl ?_
    refine E_aload_n d_X12_ask_76 rfl (by decide) ?_
    refine E_get d_X12_ask_77 okX12 fl_X12_35 ⟨by decide, rfl⟩ h (fun x23 h => ?_)
    refine E_iconst d_X12_ask_80 (c32 rfl) ?_
    refine E_iaload d_X12_ask_81 h (fun x24 h => ?_)
    refine bd_nz h (fun q25 h => ?_)
    refine E_idiv d_X12_ask_82 q25 ?_
    refine E_istore d_X12_ask_83 (ls' := [(2, v0), (9, 0), (9, 0), (0, v3), (0, v4), (0, v5), (0, v6), (0, w32 (Int.tdiv v6 x24)), (9, 0), (9, 0), (9, 0)]) ⟨by decide, rfl⟩ ?_
    refine E_iload d_X12_ask_85 rfl ?_
    refine E_aload_n d_X12_ask_87 rfl (by decide) ?_
    refine E_get d_X12_ask_88 okX12 fl_X12_35 ⟨by decide, rfl⟩ h (fun x26 h => ?_)
    refine E_iconst d_X12_ask_91 (c32 rfl) ?_
    refine E_iaload d_X12_ask_92 h (fun x27 h => ?_)
    refine bd_nz h (fun q28 h => ?_)
    refine E_irem d_X12_ask_93 q28 ?_
    refine E_istore d_X12_ask_94 (ls' := [(2, v0), (9, 0), (9, 0), (0, v3), (0, v4), (0, v5), (0, v6), (0, w32 (Int.tdiv v6 x24)), (0, w32 (Int.tmod v6 x27)), (9, 0), (9, 0)]) ⟨by decide, rfl⟩ ?_
    refine E_iconst d_X12_ask_96 (c32 rfl) ?_
    refine E_istore d_X12_ask_97 (ls' := [(2, v0), (9, 0), (9, 0), (0, v3), (0, v4), (0, v5), (0, v6), (0, w32 (Int.tdiv v6 x24)), (0, w32 (Int.tmod v6 x27)), (0, 0), (9, 0)]) ⟨by decide, rfl⟩ ?_
    refine E_iconst d_X12_ask_99 (c32 rfl) ?_
    refine E_istore d_X12_ask_100 (ls' := [(2, v0), (9, 0), (9, 0), (0, v3), (0, v4), (0, v5), (0, v6), (0, w32 (Int.tdiv v6 x24)), (0, w32 (Int.tmod v6 x27)), (0, 0), (0, 0)]) ⟨by decide, rfl⟩ ?_
    exact (L_X12_ask_h102 hk56 FU h)
noncomputable def f_X12_ask_h56 (n : Nat) : Int → Int → Int → Int → Int → Mem → Option (Int × Mem) := Nat.rec (motive := fun _ => Int → Int → Int → Int → Int → Mem → Option (Int × Mem)) (fun _ _ _ _ _ _ => none) (fun _ ih => f_X12_ask_b56 (ih)) n
theorem L_X12_ask_h56 {sc : Nat × (Nat → Int32)} {o : Int × Mem} : ∀ (n : Nat) {v0 v3 v4 v5 v6 : Int} {σ : Mem}, f_X12_ask_h56 n v0 v3 v4 v5 v6 σ = some o → E sc (Fm Sh (some (0, o.1)) Sh o.2) mt_X12_ask 6 Sh Sh 56 [(2, v0), (9, 0), (9, 0), (0, v3), (0, v4), (0, v5), (0, v6), (9, 0), (9, 0), (9, 0), (9, 0)] [] Sh σ := by
  intro n
  induction n with
  | zero => intro v0 v3 v4 v5 v6 σ h; cases h
  | succ n ih => intro v0 v3 v4 v5 v6 σ h; exact L_X12_ask_b56 (@ih) h
noncomputable def f_X12_ask_b0 (v0 v1 v2 v3 : Int) (σ : Mem) : Option (Int × Mem) :=
  (pf Sh σ 12 v0 1 0).bind fun σ1 =>
  (f_X12_whyNoFits v0 v1 v2 σ1).bind fun r2 =>
  (pf Sh σ1 12 v0 0 r2).bind fun σ4 =>
  (gf Sh σ4 12 v0 0).bind fun x5 =>
  if x5 ≤ 0 then
    (f_X12_isIn v3 0 1 σ4).bind fun r6 =>
    if r6 = 0 then
      (f_X12_refuse v0 5 σ4).bind fun r8 =>
      some (r8.1, r8.2)
    else
      (f_X12_laysFits v0 v1 v2 σ4).bind fun r10 =>
      f_X12_ask_h56 FU v0 v3 (-1) 62 0 r10
  else
    some ((-1), σ4)
theorem L_X12_ask_b0 {sc : Nat × (Nat → Int32)} {o : Int × Mem} {v0 v1 v2 v3 : Int} {σ : Mem} (h : f_X12_ask_b0 v0 v1 v2 v3 σ = some o) : E sc (Fm Sh (some (0, o.1)) Sh o.2) mt_X12_ask 6 Sh Sh 0 [(2, v0), (0, v1), (0, v2), (0, v3), (9, 0), (9, 0), (9, 0), (9, 0), (9, 0), (9, 0), (9, 0)] [] Sh σ := by
  unfold f_X12_ask_b0 at h
  refine E_aload_n d_X12_ask_0 rfl (by decide) ?_
  refine E_iconst d_X12_ask_1 (c32 rfl) ?_
  refine E_put d_X12_ask_2 okX12 fl_X12_70 ⟨by decide, rfl⟩ (Or.inl ⟨rfl, rfl⟩) (Or.inl rfl) h (fun σ1 h => ?_)
  refine E_aload_n d_X12_ask_5 rfl (by decide) ?_
  refine E_aload_n d_X12_ask_6 rfl (by decide) ?_
  refine E_iload_n d_X12_ask_7 rfl ?_
  refine E_iload_n d_X12_ask_8 rfl ?_
  refine bd h (fun r2 q3 h => ?_)
  refine E_cV (as := [(0, v1), (0, v2)]) (st := [(2, v0)]) (a := v0) d_X12_ask_9 mk_X12_whyNoFits nl_X12_402 (by omega) ⟨rfl, rfl, Nat.le_of_ble_eq_true rfl⟩ okX12 rfl (L_X12_whyNoFits q3) ?_
  refine E_put d_X12_ask_12 okX12 fl_X12_73 ⟨by decide, rfl⟩ (Or.inl ⟨rfl, rfl⟩) (Or.inl rfl) h (fun σ4 h => ?_)
  refine E_aload_n d_X12_ask_15 rfl (by decide) ?_
  refine E_get d_X12_ask_16 okX12 fl_X12_73 ⟨by decide, rfl⟩ h (fun x5 h => ?_)
  refine E_if_le (tgt := 24) d_X12_ask_19 (by decide) h (fun _ h => ?_) (fun _ h => ?_)
  · refine E_iload_n d_X12_ask_24 rfl ?_
    refine E_i2l d_X12_ask_25 ?_
    refine E_lconst d_X12_ask_26 cl0 ?_
    refine E_lconst d_X12_ask_27 cl1 ?_
    refine bd h (fun r6 q7 h => ?_)
    refine E_cS (as := [(1, v3), (1, 0), (1, 1)]) (st := []) d_X12_ask_28 mk_X12_isIn nl_X12_104 (by omega) ⟨rfl, rfl, Nat.le_of_ble_eq_true rfl⟩ (L_X12_isIn q7) ?_
    refine E_if_ne (tgt := 40) d_X12_ask_31 (by decide) h (fun _ h => ?_) (fun _ h => ?_)
    · refine E_aload_n d_X12_ask_34 rfl (by decide) ?_
      refine E_iconst d_X12_ask_35 (c32 rfl) ?_
      refine bd h (fun r8 q9 h => ?_)
      refine E_cV (as := [(0, 5)]) (st := []) (a := v0) d_X12_ask_36 mk_X12_refuse nl_X12_318 (by omega) ⟨rfl, rfl, Nat.le_of_ble_eq_true rfl⟩ okX12 rfl (L_X12_refuse q9) ?_
      cases h
      exact E_iret d_X12_ask_39 rfl
    · refine E_aload_n d_X12_ask_40 rfl (by decide) ?_
      refine E_iload_n d_X12_ask_41 rfl ?_
      refine E_iload_n d_X12_ask_42 rfl ?_
      refine bd h (fun r10 q11 h => ?_)
      refine E_cVv (as := [(0, v1), (0, v2)]) (st := []) (a := v0) d_X12_ask_43 mk_X12_laysFits nl_X12_405 (by omega) ⟨rfl, rfl, Nat.le_of_ble_eq_true rfl⟩ okX12 rfl (L_X12_laysFits q11) ?_
      refine E_iconst d_X12_ask_46 (c32 rfl) ?_
      refine E_istore d_X12_ask_47 (ls' := [(2, v0), (0, v1), (0, v2), (0, v3), (0, (-1)), (9, 0), (9, 0), (9, 0), (9, 0), (9, 0), (9, 0)]) ⟨by decide, rfl⟩ ?_
      refine E_bipush d_X12_ask_49 (c8 rfl) ?_
      refine E_istore d_X12_ask_51 (ls' := [(2, v0), (0, v1), (0, v2), (0, v3), (0, (-1)), (0, 62), (9, 0), (9, 0), (9, 0), (9, 0), (9, 0)]) ⟨by decide, rfl⟩ ?_
      refine E_iconst d_X12_ask_53 (c32 rfl) ?_
      refine E_istore d_X12_ask_54 (ls' := [(2, v0), (0, v1), (0, v2), (0, v3), (0, (-1)), (0, 62), (0, 0), (9, 0), (9, 0), (9, 0), (9, 0)]) ⟨by decide, rfl⟩ ?_
      exact E_weak (ls' := [(2, v0), (9, 0), (9, 0), (0, v3), (0, (-1)), (0, 62), (0, 0), (9, 0), (9, 0), (9, 0), (9, 0)]) ⟨Or.inr rfl, Or.inl rfl, Or.inl rfl, Or.inr rfl, Or.inr rfl, Or.inr rfl, Or.inr rfl, Or.inl rfl, Or.inl rfl, Or.inl rfl, Or.inl rfl, trivial⟩ (L_X12_ask_h56 FU h)
  · refine E_iconst d_X12_ask_22 (c32 rfl) ?_
    cases h
    exact E_iret d_X12_ask_23 rfl
noncomputable def f_X12_ask (v0 v1 v2 v3 : Int) (σ : Mem) : Option (Int × Mem) := if isO Sh 12 v0 = true then f_X12_ask_b0 v0 v1 v2 v3 σ else none
theorem L_X12_ask {o : Int × Mem} {v0 v1 v2 v3 : Int} {σ : Mem} (h : f_X12_ask v0 v1 v2 v3 σ = some o) : (isO Sh 12 v0 = true ∧ Cn mt_X12_ask 6 [(2, v0), (0, v1), (0, v2), (0, v3)] Sh σ (some (0, o.1)) Sh o.2) := ⟨(ite_ok h).1, Cn_of mk_X12_ask.1.2.2.1 (Nat.le_of_ble_eq_true rfl) (fun sc => L_X12_ask_b0 (ite_ok h).2)⟩
theorem d_X12_whyNoCuts_0 : decode mt_X12_whyNoCuts.2.1 0 = .ok (.aload_n 0, 1) := by decide +kernel
theorem d_X12_whyNoCuts_1 : decode mt_X12_whyNoCuts.2.1 1 = .ok (.iload_n 1, 1) := by decide +kernel
theorem d_X12_whyNoCuts_2 : decode mt_X12_whyNoCuts.2.1 2 = .ok (.invokevirtual 344, 3) := by decide +kernel
theorem d_X12_whyNoCuts_5 : decode mt_X12_whyNoCuts.2.1 5 = .ok (.ifCond .ne 5, 3) := by decide +kernel
theorem d_X12_whyNoCuts_8 : decode mt_X12_whyNoCuts.2.1 8 = .ok (.iconst 1, 1) := by decide +kernel
theorem d_X12_whyNoCuts_9 : decode mt_X12_whyNoCuts.2.1 9 = .ok (.ireturn, 1) := by decide +kernel
theorem d_X12_whyNoCuts_10 : decode mt_X12_whyNoCuts.2.1 10 = .ok (.aload_n 0, 1) := by decide +kernel
theorem d_X12_whyNoCuts_11 : decode mt_X12_whyNoCuts.2.1 11 = .ok (.getfield 17, 3) := by decide +kernel
theorem d_X12_whyNoCuts_14 : decode mt_X12_whyNoCuts.2.1 14 = .ok (.iload_n 1, 1) := by decide +kernel
theorem d_X12_whyNoCuts_15 : decode mt_X12_whyNoCuts.2.1 15 = .ok (.iaload, 1) := by decide +kernel
theorem d_X12_whyNoCuts_16 : decode mt_X12_whyNoCuts.2.1 16 = .ok (.ifCond .ge 5, 3) := by decide +kernel
theorem d_X12_whyNoCuts_19 : decode mt_X12_whyNoCuts.2.1 19 = .ok (.iconst 3, 1) := by decide +kernel
theorem d_X12_whyNoCuts_20 : decode mt_X12_whyNoCuts.2.1 20 = .ok (.ireturn, 1) := by decide +kernel
theorem d_X12_whyNoCuts_21 : decode mt_X12_whyNoCuts.2.1 21 = .ok (.aload_n 0, 1) := by decide +kernel
theorem d_X12_whyNoCuts_22 : decode mt_X12_whyNoCuts.2.1 22 = .ok (.getfield 17, 3) := by decide +kernel
theorem d_X12_whyNoCuts_25 : decode mt_X12_whyNoCuts.2.1 25 = .ok (.iload_n 1, 1) := by decide +kernel
theorem d_X12_whyNoCuts_26 : decode mt_X12_whyNoCuts.2.1 26 = .ok (.iaload, 1) := by decide +kernel
theorem d_X12_whyNoCuts_27 : decode mt_X12_whyNoCuts.2.1 27 = .ok (.i2l, 1) := by decide +kernel
theorem d_X12_whyNoCuts_28 : decode mt_X12_whyNoCuts.2.1 28 = .ok (.ldc2_w 102, 3) := by decide +kernel
theorem d_X12_whyNoCuts_31 : decode mt_X12_whyNoCuts.2.1 31 = .ok (.iload_n 2, 1) := by decide +kernel
theorem d_X12_whyNoCuts_32 : decode mt_X12_whyNoCuts.2.1 32 = .ok (.i2l, 1) := by decide +kernel
theorem d_X12_whyNoCuts_33 : decode mt_X12_whyNoCuts.2.1 33 = .ok (.lmul, 1) := by decide +kernel
theorem d_X12_whyNoCuts_34 : decode mt_X12_whyNoCuts.2.1 34 = .ok (.lcmp, 1) := by decide +kernel
theorem d_X12_whyNoCuts_35 : decode mt_X12_whyNoCuts.2.1 35 = .ok (.ifCond .ge 5, 3) := by decide +kernel
theorem d_X12_whyNoCuts_38 : decode mt_X12_whyNoCuts.2.1 38 = .ok (.iconst 4, 1) := by decide +kernel
theorem d_X12_whyNoCuts_39 : decode mt_X12_whyNoCuts.2.1 39 = .ok (.ireturn, 1) := by decide +kernel
theorem d_X12_whyNoCuts_40 : decode mt_X12_whyNoCuts.2.1 40 = .ok (.iload_n 2, 1) := by decide +kernel
theorem d_X12_whyNoCuts_41 : decode mt_X12_whyNoCuts.2.1 41 = .ok (.i2l, 1) := by decide +kernel
theorem d_X12_whyNoCuts_42 : decode mt_X12_whyNoCuts.2.1 42 = .ok (.lconst 0, 1) := by decide +kernel
theorem d_X12_whyNoCuts_43 : decode mt_X12_whyNoCuts.2.1 43 = .ok (.ldc2_w 408, 3) := by decide +kernel
theorem d_X12_whyNoCuts_46 : decode mt_X12_whyNoCuts.2.1 46 = .ok (.invokestatic 104, 3) := by decide +kernel
theorem d_X12_whyNoCuts_49 : decode mt_X12_whyNoCuts.2.1 49 = .ok (.ifCond .ne 5, 3) := by decide +kernel
theorem d_X12_whyNoCuts_52 : decode mt_X12_whyNoCuts.2.1 52 = .ok (.iconst 5, 1) := by decide +kernel
theorem d_X12_whyNoCuts_53 : decode mt_X12_whyNoCuts.2.1 53 = .ok (.ireturn, 1) := by decide +kernel
theorem d_X12_whyNoCuts_54 : decode mt_X12_whyNoCuts.2.1 54 = .ok (.iconst 0, 1) := by decide +kernel
theorem d_X12_whyNoCuts_55 : decode mt_X12_whyNoCuts.2.1 55 = .ok (.istore_n 3, 1) := by decide +kernel
theorem d_X12_whyNoCuts_56 : decode mt_X12_whyNoCuts.2.1 56 = .ok (.iload_n 3, 1) := by decide +kernel
theorem d_X12_whyNoCuts_57 : decode mt_X12_whyNoCuts.2.1 57 = .ok (.iload_n 2, 1) := by decide +kernel
theorem d_X12_whyNoCuts_58 : decode mt_X12_whyNoCuts.2.1 58 = .ok (.if_icmp .ge 64, 3) := by decide +kernel
theorem d_X12_whyNoCuts_61 : decode mt_X12_whyNoCuts.2.1 61 = .ok (.aload_n 0, 1) := by decide +kernel
theorem d_X12_whyNoCuts_62 : decode mt_X12_whyNoCuts.2.1 62 = .ok (.iload_n 1, 1) := by decide +kernel
theorem d_X12_whyNoCuts_63 : decode mt_X12_whyNoCuts.2.1 63 = .ok (.iconst 3, 1) := by decide +kernel
theorem d_X12_whyNoCuts_64 : decode mt_X12_whyNoCuts.2.1 64 = .ok (.iload_n 3, 1) := by decide +kernel
theorem d_X12_whyNoCuts_65 : decode mt_X12_whyNoCuts.2.1 65 = .ok (.imul, 1) := by decide +kernel
theorem d_X12_whyNoCuts_66 : decode mt_X12_whyNoCuts.2.1 66 = .ok (.invokevirtual 391, 3) := by decide +kernel
theorem d_X12_whyNoCuts_69 : decode mt_X12_whyNoCuts.2.1 69 = .ok (.lconst 0, 1) := by decide +kernel
theorem d_X12_whyNoCuts_70 : decode mt_X12_whyNoCuts.2.1 70 = .ok (.ldc2_w 370, 3) := by decide +kernel
theorem d_X12_whyNoCuts_73 : decode mt_X12_whyNoCuts.2.1 73 = .ok (.invokestatic 104, 3) := by decide +kernel
theorem d_X12_whyNoCuts_76 : decode mt_X12_whyNoCuts.2.1 76 = .ok (.ifCond .eq 38, 3) := by decide +kernel
theorem d_X12_whyNoCuts_79 : decode mt_X12_whyNoCuts.2.1 79 = .ok (.aload_n 0, 1) := by decide +kernel
theorem d_X12_whyNoCuts_80 : decode mt_X12_whyNoCuts.2.1 80 = .ok (.aload_n 0, 1) := by decide +kernel
theorem d_X12_whyNoCuts_81 : decode mt_X12_whyNoCuts.2.1 81 = .ok (.iload_n 1, 1) := by decide +kernel
theorem d_X12_whyNoCuts_82 : decode mt_X12_whyNoCuts.2.1 82 = .ok (.iconst 3, 1) := by decide +kernel
theorem d_X12_whyNoCuts_83 : decode mt_X12_whyNoCuts.2.1 83 = .ok (.iload_n 3, 1) := by decide +kernel
theorem d_X12_whyNoCuts_84 : decode mt_X12_whyNoCuts.2.1 84 = .ok (.imul, 1) := by decide +kernel
theorem d_X12_whyNoCuts_85 : decode mt_X12_whyNoCuts.2.1 85 = .ok (.iconst 1, 1) := by decide +kernel
theorem d_X12_whyNoCuts_86 : decode mt_X12_whyNoCuts.2.1 86 = .ok (.iadd, 1) := by decide +kernel
theorem d_X12_whyNoCuts_87 : decode mt_X12_whyNoCuts.2.1 87 = .ok (.invokevirtual 391, 3) := by decide +kernel
theorem d_X12_whyNoCuts_90 : decode mt_X12_whyNoCuts.2.1 90 = .ok (.invokevirtual 330, 3) := by decide +kernel
theorem d_X12_whyNoCuts_93 : decode mt_X12_whyNoCuts.2.1 93 = .ok (.ifCond .eq 21, 3) := by decide +kernel
theorem d_X12_whyNoCuts_96 : decode mt_X12_whyNoCuts.2.1 96 = .ok (.aload_n 0, 1) := by decide +kernel
theorem d_X12_whyNoCuts_97 : decode mt_X12_whyNoCuts.2.1 97 = .ok (.iload_n 1, 1) := by decide +kernel
theorem d_X12_whyNoCuts_98 : decode mt_X12_whyNoCuts.2.1 98 = .ok (.iconst 3, 1) := by decide +kernel
theorem d_X12_whyNoCuts_99 : decode mt_X12_whyNoCuts.2.1 99 = .ok (.iload_n 3, 1) := by decide +kernel
theorem d_X12_whyNoCuts_100 : decode mt_X12_whyNoCuts.2.1 100 = .ok (.imul, 1) := by decide +kernel
theorem d_X12_whyNoCuts_101 : decode mt_X12_whyNoCuts.2.1 101 = .ok (.iconst 2, 1) := by decide +kernel
theorem d_X12_whyNoCuts_102 : decode mt_X12_whyNoCuts.2.1 102 = .ok (.iadd, 1) := by decide +kernel
theorem d_X12_whyNoCuts_103 : decode mt_X12_whyNoCuts.2.1 103 = .ok (.invokevirtual 391, 3) := by decide +kernel
theorem d_X12_whyNoCuts_106 : decode mt_X12_whyNoCuts.2.1 106 = .ok (.lconst 0, 1) := by decide +kernel
theorem d_X12_whyNoCuts_107 : decode mt_X12_whyNoCuts.2.1 107 = .ok (.lconst 1, 1) := by decide +kernel
theorem d_X12_whyNoCuts_108 : decode mt_X12_whyNoCuts.2.1 108 = .ok (.invokestatic 104, 3) := by decide +kernel
theorem d_X12_whyNoCuts_111 : decode mt_X12_whyNoCuts.2.1 111 = .ok (.ifCond .ne 5, 3) := by decide +kernel
theorem d_X12_whyNoCuts_114 : decode mt_X12_whyNoCuts.2.1 114 = .ok (.iconst 5, 1) := by decide +kernel
theorem d_X12_whyNoCuts_115 : decode mt_X12_whyNoCuts.2.1 115 = .ok (.ireturn, 1) := by decide +kernel
theorem d_X12_whyNoCuts_116 : decode mt_X12_whyNoCuts.2.1 116 = .ok (.iinc 3 1, 3) := by decide +kernel
theorem d_X12_whyNoCuts_119 : decode mt_X12_whyNoCuts.2.1 119 = .ok (.goto (-63), 3) := by decide +kernel
theorem d_X12_whyNoCuts_122 : decode mt_X12_whyNoCuts.2.1 122 = .ok (.iconst 0, 1) := by decide +kernel
theorem d_X12_whyNoCuts_123 : decode mt_X12_whyNoCuts.2.1 123 = .ok (.ireturn, 1) := by decide +kernel
noncomputable def f_X12_whyNoCuts_b56 (k56 : (Int → Int → Int → Int → Mem → Option (Int))) (v0 v1 v2 v3 : Int) (σ : Mem) : Option (Int) :=
  if v2 ≤ v3 then
    some (0)
  else
    (f_X12_numberOf v0 v1 (w32 (3 * v3)) σ).bind fun r9 =>
    (f_X12_isIn r9 0 99 σ).bind fun r11 =>
    if r11 = 0 then
      some (5)
    else
      (f_X12_numberOf v0 v1 (w32 (w32 (3 * v3) + 1)) σ).bind fun r13 =>
      (f_X12_isPlaceAt v0 r13 σ).bind fun r15 =>
      if r15 = 0 then
        some (5)
      else
        (f_X12_numberOf v0 v1 (w32 (w32 (3 * v3) + 2)) σ).bind fun r17 =>
        (f_X12_isIn r17 0 1 σ).bind fun r19 =>
        if r19 = 0 then
          some (5)
        else
          k56 v0 v1 v2 (w32 (v3 + 1)) σ
theorem L_X12_whyNoCuts_b56 {sc : Nat × (Nat → Int32)} {o : Int} {σ : Mem} {k56 : (Int → Int → Int → Int → Mem → Option (Int))} (hk56 : ∀ {v0 v1 v2 v3 : Int}, k56 v0 v1 v2 v3 σ = some o → E sc (Fm Sh (some (0, o)) Sh σ) mt_X12_whyNoCuts 3 Sh Sh 56 [(2, v0), (0, v1), (0, v2), (0, v3)] [] Sh σ) {v0 v1 v2 v3 : Int} (h : f_X12_whyNoCuts_b56 k56 v0 v1 v2 v3 σ = some o) : E sc (Fm Sh (some (0, o)) Sh σ) mt_X12_whyNoCuts 3 Sh Sh 56 [(2, v0), (0, v1), (0, v2), (0, v3)] [] Sh σ := by
  unfold f_X12_whyNoCuts_b56 at h
  refine E_iload_n d_X12_whyNoCuts_56 rfl ?_
  refine E_iload_n d_X12_whyNoCuts_57 rfl ?_
  refine E_icmp_ge (tgt := 122) d_X12_whyNoCuts_58 (by decide) h (fun _ h => ?_) (fun _ h => ?_)
  · refine E_iconst d_X12_whyNoCuts_122 (c32 rfl) ?_
    cases h
    exact E_iret d_X12_whyNoCuts_123 rfl
  · refine E_aload_n d_X12_whyNoCuts_61 rfl (by decide) ?_
    refine E_iload_n d_X12_whyNoCuts_62 rfl ?_
    refine E_iconst d_X12_whyNoCuts_63 (c32 rfl) ?_
    refine E_iload_n d_X12_whyNoCuts_64 rfl ?_
    refine E_imul d_X12_whyNoCuts_65 ?_
    refine bd h (fun r9 q10 h => ?_)
    refine E_cV (as := [(0, v1), (0, w32 (3 * v3))]) (st := []) (a := v0) d_X12_whyNoCuts_66 mk_X12_numberOf nl_X12_391 (by omega) ⟨rfl, rfl, Nat.le_of_ble_eq_true rfl⟩ okX12 rfl (L_X12_numberOf q10) ?_
    refine E_lconst d_X12_whyNoCuts_69 cl0 ?_
    refine E_ldc2 d_X12_whyNoCuts_70 kw_X12_370 ?_
    refine bd h (fun r11 q12 h => ?_)
    refine E_cS (as := [(1, r9), (1, 0), (1, 99)]) (st := []) d_X12_whyNoCuts_73 mk_X12_isIn nl_X12_104 (by omega) ⟨rfl, rfl, Nat.le_of_ble_eq_true rfl⟩ (L_X12_isIn q12) ?_
    refine E_if_eq (tgt := 114) d_X12_whyNoCuts_76 (by decide) h (fun _ h => ?_) (fun _ h => ?_)
    · refine E_iconst d_X12_whyNoCuts_114 (c32 rfl) ?_
      cases h
      exact E_iret d_X12_whyNoCuts_115 rfl
    · refine E_aload_n d_X12_whyNoCuts_79 rfl (by decide) ?_
      refine E_aload_n d_X12_whyNoCuts_80 rfl (by decide) ?_
      refine E_iload_n d_X12_whyNoCuts_81 rfl ?_
      refine E_iconst d_X12_whyNoCuts_82 (c32 rfl) ?_
      refine E_iload_n d_X12_whyNoCuts_83 rfl ?_
      refine E_imul d_X12_whyNoCuts_84 ?_
      refine E_iconst d_X12_whyNoCuts_85 (c32 rfl) ?_
      refine E_iadd d_X12_whyNoCuts_86 ?_
      refine bd h (fun r13 q14 h => ?_)
      refine E_cV (as := [(0, v1), (0, w32 (w32 (3 * v3) + 1))]) (st := [(2, v0)]) (a := v0) d_X12_whyNoCuts_87 mk_X12_numberOf nl_X12_391 (by omega) ⟨rfl, rfl, Nat.le_of_ble_eq_true rfl⟩ okX12 rfl (L_X12_numberOf q14) ?_
      refine bd h (fun r15 q16 h => ?_)
      refine E_cV (as := [(1, r13)]) (st := []) (a := v0) d_X12_whyNoCuts_90 mk_X12_isPlaceAt nl_X12_330 (by omega) ⟨rfl, rfl, Nat.le_of_ble_eq_true rfl⟩ okX12 rfl (L_X12_isPlaceAt q16) ?_
      refine E_if_eq (tgt := 114) d_X12_whyNoCuts_93 (by decide) h (fun _ h => ?_) (fun _ h => ?_)
      · refine E_iconst d_X12_whyNoCuts_114 (c32 rfl) ?_
        cases h
        exact E_iret d_X12_whyNoCuts_115 rfl
      · refine E_aload_n d_X12_whyNoCuts_96 rfl (by decide) ?_
        refine E_iload_n d_X12_whyNoCuts_97 rfl ?_
        refine E_iconst d_X12_whyNoCuts_98 (c32 rfl) ?_
        refine E_iload_n d_X12_whyNoCuts_99 rfl ?_
        refine E_imul d_X12_whyNoCuts_100 ?_
        refine E_iconst d_X12_whyNoCuts_101 (c32 rfl) ?_
        refine E_iadd d_X12_whyNoCuts_102 ?_
        refine bd h (fun r17 q18 h => ?_)
        refine E_cV (as := [(0, v1), (0, w32 (w32 (3 * v3) + 2))]) (st := []) (a := v0) d_X12_whyNoCuts_103 mk_X12_numberOf nl_X12_391 (by omega) ⟨rfl, rfl, Nat.le_of_ble_eq_true rfl⟩ okX12 rfl (L_X12_numberOf q18) ?_
        refine E_lconst d_X12_whyNoCuts_106 cl0 ?_
        refine E_lconst d_X12_whyNoCuts_107 cl1 ?_
        refine bd h (fun r19 q20 h => ?_)
        refine E_cS (as := [(1, r17), (1, 0), (1, 1)]) (st := []) d_X12_whyNoCuts_108 mk_X12_isIn nl_X12_104 (by omega) ⟨rfl, rfl, Nat.le_of_ble_eq_true rfl⟩ (L_X12_isIn q20) ?_
        refine E_if_ne (tgt := 116) d_X12_whyNoCuts_111 (by decide) h (fun _ h => ?_) (fun _ h => ?_)
        · refine E_iconst d_X12_whyNoCuts_114 (c32 rfl) ?_
          cases h
          exact E_iret d_X12_whyNoCuts_115 rfl
        · refine E_iinc d_X12_whyNoCuts_116 (ls' := [(2, v0), (0, v1), (0, v2), (0, w32 (v3 + 1))]) rfl ⟨by decide, rfl⟩ ?_
          refine E_goto (tgt := 56) d_X12_whyNoCuts_119 (by decide) ?_
          exact (hk56 h)
noncomputable def f_X12_whyNoCuts_h56 (n : Nat) : Int → Int → Int → Int → Mem → Option (Int) := Nat.rec (motive := fun _ => Int → Int → Int → Int → Mem → Option (Int)) (fun _ _ _ _ _ => none) (fun _ ih => f_X12_whyNoCuts_b56 (ih)) n
theorem L_X12_whyNoCuts_h56 {sc : Nat × (Nat → Int32)} {o : Int} {σ : Mem} : ∀ (n : Nat) {v0 v1 v2 v3 : Int}, f_X12_whyNoCuts_h56 n v0 v1 v2 v3 σ = some o → E sc (Fm Sh (some (0, o)) Sh σ) mt_X12_whyNoCuts 3 Sh Sh 56 [(2, v0), (0, v1), (0, v2), (0, v3)] [] Sh σ := by
  intro n
  induction n with
  | zero => intro v0 v1 v2 v3 h; cases h
  | succ n ih => intro v0 v1 v2 v3 h; exact L_X12_whyNoCuts_b56 (@ih) h
noncomputable def f_X12_whyNoCuts_b0 (v0 v1 v2 : Int) (σ : Mem) : Option (Int) :=
  (f_X12_isTray v0 v1 σ).bind fun r1 =>
  if r1 = 0 then
    some (1)
  else
    (gf Sh σ 12 v0 5).bind fun x3 =>
    (al Sh σ 20 x3 v1).bind fun x4 =>
    if 0 ≤ x4 then
      (gf Sh σ 12 v0 5).bind fun x5 =>
      (al Sh σ 20 x5 v1).bind fun x6 =>
      if 0 ≤ lcmp x6 (w64 (3 * v2)) then
        (f_X12_isIn v2 0 6 σ).bind fun r7 =>
        if r7 = 0 then
          some (5)
        else
          f_X12_whyNoCuts_h56 FU v0 v1 v2 0 σ
      else
        some (4)
    else
      some (3)
theorem L_X12_whyNoCuts_b0 {sc : Nat × (Nat → Int32)} {o : Int} {σ : Mem} {v0 v1 v2 : Int} (h : f_X12_whyNoCuts_b0 v0 v1 v2 σ = some o) : E sc (Fm Sh (some (0, o)) Sh σ) mt_X12_whyNoCuts 3 Sh Sh 0 [(2, v0), (0, v1), (0, v2), (9, 0)] [] Sh σ := by
  unfold f_X12_whyNoCuts_b0 at h
  refine E_aload_n d_X12_whyNoCuts_0 rfl (by decide) ?_
  refine E_iload_n d_X12_whyNoCuts_1 rfl ?_
  refine bd h (fun r1 q2 h => ?_)
  refine E_cV (as := [(0, v1)]) (st := []) (a := v0) d_X12_whyNoCuts_2 mk_X12_isTray nl_X12_344 (by omega) ⟨rfl, rfl, Nat.le_of_ble_eq_true rfl⟩ okX12 rfl (L_X12_isTray q2) ?_
  refine E_if_ne (tgt := 10) d_X12_whyNoCuts_5 (by decide) h (fun _ h => ?_) (fun _ h => ?_)
  · refine E_iconst d_X12_whyNoCuts_8 (c32 rfl) ?_
    cases h
    exact E_iret d_X12_whyNoCuts_9 rfl
  · refine E_aload_n d_X12_whyNoCuts_10 rfl (by decide) ?_
    refine E_get d_X12_whyNoCuts_11 okX12 fl_X12_17 ⟨by decide, rfl⟩ h (fun x3 h => ?_)
    refine E_iload_n d_X12_whyNoCuts_14 rfl ?_
    refine E_iaload d_X12_whyNoCuts_15 h (fun x4 h => ?_)
    refine E_if_ge (tgt := 21) d_X12_whyNoCuts_16 (by decide) h (fun _ h => ?_) (fun _ h => ?_)
    · refine E_aload_n d_X12_whyNoCuts_21 rfl (by decide) ?_
      refine E_get d_X12_whyNoCuts_22 okX12 fl_X12_17 ⟨by decide, rfl⟩ h (fun x5 h => ?_)
      refine E_iload_n d_X12_whyNoCuts_25 rfl ?_
      refine E_iaload d_X12_whyNoCuts_26 h (fun x6 h => ?_)
      refine E_i2l d_X12_whyNoCuts_27 ?_
      refine E_ldc2 d_X12_whyNoCuts_28 kw_X12_102 ?_
      refine E_iload_n d_X12_whyNoCuts_31 rfl ?_
      refine E_i2l d_X12_whyNoCuts_32 ?_
      refine E_lmul d_X12_whyNoCuts_33 ?_
      refine E_lcmp d_X12_whyNoCuts_34 ?_
      refine E_if_ge (tgt := 40) d_X12_whyNoCuts_35 (by decide) h (fun _ h => ?_) (fun _ h => ?_)
      · refine E_iload_n d_X12_whyNoCuts_40 rfl ?_
        refine E_i2l d_X12_whyNoCuts_41 ?_
        refine E_lconst d_X12_whyNoCuts_42 cl0 ?_
        refine E_ldc2 d_X12_whyNoCuts_43 kw_X12_408 ?_
        refine bd h (fun r7 q8 h => ?_)
        refine E_cS (as := [(1, v2), (1, 0), (1, 6)]) (st := []) d_X12_whyNoCuts_46 mk_X12_isIn nl_X12_104 (by omega) ⟨rfl, rfl, Nat.le_of_ble_eq_true rfl⟩ (L_X12_isIn q8) ?_
        refine E_if_ne (tgt := 54) d_X12_whyNoCuts_49 (by decide) h (fun _ h => ?_) (fun _ h => ?_)
        · refine E_iconst d_X12_whyNoCuts_52 (c32 rfl) ?_
          cases h
          exact E_iret d_X12_whyNoCuts_53 rfl
        · refine E_iconst d_X12_whyNoCuts_54 (c32 rfl) ?_
          refine E_istore_n d_X12_whyNoCuts_55 (ls' := [(2, v0), (0, v1), (0, v2), (0, 0)]) ⟨by decide, rfl⟩ ?_
          exact (L_X12_whyNoCuts_h56 FU h)
      · refine E_iconst d_X12_whyNoCuts_38 (c32 rfl) ?_
        cases h
        exact E_iret d_X12_whyNoCuts_39 rfl
    · refine E_iconst d_X12_whyNoCuts_19 (c32 rfl) ?_
      cases h
      exact E_iret d_X12_whyNoCuts_20 rfl
noncomputable def f_X12_whyNoCuts (v0 v1 v2 : Int) (σ : Mem) : Option (Int) := if isO Sh 12 v0 = true then f_X12_whyNoCuts_b0 v0 v1 v2 σ else none
theorem L_X12_whyNoCuts {o : Int} {v0 v1 v2 : Int} {σ : Mem} (h : f_X12_whyNoCuts v0 v1 v2 σ = some o) : (isO Sh 12 v0 = true ∧ Cn mt_X12_whyNoCuts 3 [(2, v0), (0, v1), (0, v2)] Sh σ (some (0, o)) Sh σ) := ⟨(ite_ok h).1, Cn_of mk_X12_whyNoCuts.1.2.2.1 (Nat.le_of_ble_eq_true rfl) (fun sc => L_X12_whyNoCuts_b0 (ite_ok h).2)⟩
theorem d_X12_holds_0 : decode mt_X12_holds.2.1 0 = .ok (.iconst 0, 1) := by decide +kernel
theorem d_X12_holds_1 : decode mt_X12_holds.2.1 1 = .ok (.istore 4, 2) := by decide +kernel
theorem d_X12_holds_3 : decode mt_X12_holds.2.1 3 = .ok (.iload 4, 2) := by decide +kernel
theorem d_X12_holds_5 : decode mt_X12_holds.2.1 5 = .ok (.iload_n 1, 1) := by decide +kernel
theorem d_X12_holds_6 : decode mt_X12_holds.2.1 6 = .ok (.if_icmp .ge 72, 3) := by decide +kernel
theorem d_X12_holds_9 : decode mt_X12_holds.2.1 9 = .ok (.aload_n 0, 1) := by decide +kernel
theorem d_X12_holds_10 : decode mt_X12_holds.2.1 10 = .ok (.getfield 54, 3) := by decide +kernel
theorem d_X12_holds_13 : decode mt_X12_holds.2.1 13 = .ok (.iload 4, 2) := by decide +kernel
theorem d_X12_holds_15 : decode mt_X12_holds.2.1 15 = .ok (.iaload, 1) := by decide +kernel
theorem d_X12_holds_16 : decode mt_X12_holds.2.1 16 = .ok (.iconst 1, 1) := by decide +kernel
theorem d_X12_holds_17 : decode mt_X12_holds.2.1 17 = .ok (.invokestatic 108, 3) := by decide +kernel
theorem d_X12_holds_20 : decode mt_X12_holds.2.1 20 = .ok (.ifCond .eq 31, 3) := by decide +kernel
theorem d_X12_holds_23 : decode mt_X12_holds.2.1 23 = .ok (.aload_n 0, 1) := by decide +kernel
theorem d_X12_holds_24 : decode mt_X12_holds.2.1 24 = .ok (.aload_n 0, 1) := by decide +kernel
theorem d_X12_holds_25 : decode mt_X12_holds.2.1 25 = .ok (.getfield 51, 3) := by decide +kernel
theorem d_X12_holds_28 : decode mt_X12_holds.2.1 28 = .ok (.iload 4, 2) := by decide +kernel
theorem d_X12_holds_30 : decode mt_X12_holds.2.1 30 = .ok (.iaload, 1) := by decide +kernel
theorem d_X12_holds_31 : decode mt_X12_holds.2.1 31 = .ok (.iload_n 2, 1) := by decide +kernel
theorem d_X12_holds_32 : decode mt_X12_holds.2.1 32 = .ok (.iconst (-1), 1) := by decide +kernel
theorem d_X12_holds_33 : decode mt_X12_holds.2.1 33 = .ok (.ixor, 1) := by decide +kernel
theorem d_X12_holds_34 : decode mt_X12_holds.2.1 34 = .ok (.iand, 1) := by decide +kernel
theorem d_X12_holds_35 : decode mt_X12_holds.2.1 35 = .ok (.iload_n 3, 1) := by decide +kernel
theorem d_X12_holds_36 : decode mt_X12_holds.2.1 36 = .ok (.ior, 1) := by decide +kernel
theorem d_X12_holds_37 : decode mt_X12_holds.2.1 37 = .ok (.aload_n 0, 1) := by decide +kernel
theorem d_X12_holds_38 : decode mt_X12_holds.2.1 38 = .ok (.invokevirtual 321, 3) := by decide +kernel
theorem d_X12_holds_41 : decode mt_X12_holds.2.1 41 = .ok (.invokevirtual 354, 3) := by decide +kernel
theorem d_X12_holds_44 : decode mt_X12_holds.2.1 44 = .ok (.ifCond .eq 7, 3) := by decide +kernel
theorem d_X12_holds_47 : decode mt_X12_holds.2.1 47 = .ok (.iconst 1, 1) := by decide +kernel
theorem d_X12_holds_48 : decode mt_X12_holds.2.1 48 = .ok (.goto 4, 3) := by decide +kernel
theorem d_X12_holds_51 : decode mt_X12_holds.2.1 51 = .ok (.iconst 0, 1) := by decide +kernel
theorem d_X12_holds_52 : decode mt_X12_holds.2.1 52 = .ok (.istore 5, 2) := by decide +kernel
theorem d_X12_holds_54 : decode mt_X12_holds.2.1 54 = .ok (.iload 5, 2) := by decide +kernel
theorem d_X12_holds_56 : decode mt_X12_holds.2.1 56 = .ok (.aload_n 0, 1) := by decide +kernel
theorem d_X12_holds_57 : decode mt_X12_holds.2.1 57 = .ok (.getfield 54, 3) := by decide +kernel
theorem d_X12_holds_60 : decode mt_X12_holds.2.1 60 = .ok (.iload 4, 2) := by decide +kernel
theorem d_X12_holds_62 : decode mt_X12_holds.2.1 62 = .ok (.iaload, 1) := by decide +kernel
theorem d_X12_holds_63 : decode mt_X12_holds.2.1 63 = .ok (.iconst 0, 1) := by decide +kernel
theorem d_X12_holds_64 : decode mt_X12_holds.2.1 64 = .ok (.invokestatic 108, 3) := by decide +kernel
theorem d_X12_holds_67 : decode mt_X12_holds.2.1 67 = .ok (.if_icmp .eq 5, 3) := by decide +kernel
theorem d_X12_holds_70 : decode mt_X12_holds.2.1 70 = .ok (.iconst 0, 1) := by decide +kernel
theorem d_X12_holds_71 : decode mt_X12_holds.2.1 71 = .ok (.ireturn, 1) := by decide +kernel
theorem d_X12_holds_72 : decode mt_X12_holds.2.1 72 = .ok (.iinc 4 1, 3) := by decide +kernel
theorem d_X12_holds_75 : decode mt_X12_holds.2.1 75 = .ok (.goto (-72), 3) := by decide +kernel
theorem d_X12_holds_78 : decode mt_X12_holds.2.1 78 = .ok (.iconst 1, 1) := by decide +kernel
theorem d_X12_holds_79 : decode mt_X12_holds.2.1 79 = .ok (.ireturn, 1) := by decide +kernel
noncomputable def f_X12_holds_b52 (k3 : (Int → Int → Int → Int → Int → Mem → Option (Int))) (v0 v1 v2 v3 v4 s0 : Int) (σ : Mem) : Option (Int) :=
  (gf Sh σ 12 v0 30).bind fun x11 =>
  (al Sh σ 20 x11 v4).bind fun x12 =>
  (f_X12_has x12 0 σ).bind fun r13 =>
  if s0 = r13 then
    k3 v0 v1 v2 v3 (w32 (v4 + 1)) σ
  else
    some (0)
theorem L_X12_holds_b52 {sc : Nat × (Nat → Int32)} {o : Int} {σ : Mem} {k3 : (Int → Int → Int → Int → Int → Mem → Option (Int))} (hk3 : ∀ {v0 v1 v2 v3 v4 : Int}, k3 v0 v1 v2 v3 v4 σ = some o → E sc (Fm Sh (some (0, o)) Sh σ) mt_X12_holds 4 Sh Sh 3 [(2, v0), (0, v1), (0, v2), (0, v3), (0, v4), (9, 0)] [] Sh σ) {v0 v1 v2 v3 v4 s0 : Int} (h : f_X12_holds_b52 k3 v0 v1 v2 v3 v4 s0 σ = some o) : E sc (Fm Sh (some (0, o)) Sh σ) mt_X12_holds 4 Sh Sh 52 [(2, v0), (0, v1), (0, v2), (0, v3), (0, v4), (9, 0)] [(0, s0)] Sh σ := by
  unfold f_X12_holds_b52 at h
  refine E_istore d_X12_holds_52 (ls' := [(2, v0), (0, v1), (0, v2), (0, v3), (0, v4), (0, s0)]) ⟨by decide, rfl⟩ ?_
  refine E_iload d_X12_holds_54 rfl ?_
  refine E_aload_n d_X12_holds_56 rfl (by decide) ?_
  refine E_get d_X12_holds_57 okX12 fl_X12_54 ⟨by decide, rfl⟩ h (fun x11 h => ?_)
  refine E_iload d_X12_holds_60 rfl ?_
  refine E_iaload d_X12_holds_62 h (fun x12 h => ?_)
  refine E_iconst d_X12_holds_63 (c32 rfl) ?_
  refine bd h (fun r13 q14 h => ?_)
  refine E_cS (as := [(0, x12), (0, 0)]) (st := [(0, s0)]) d_X12_holds_64 mk_X12_has nl_X12_108 (by omega) ⟨rfl, rfl, Nat.le_of_ble_eq_true rfl⟩ (L_X12_has q14) ?_
  refine E_icmp_eq (tgt := 72) d_X12_holds_67 (by decide) h (fun _ h => ?_) (fun _ h => ?_)
  · refine E_iinc d_X12_holds_72 (ls' := [(2, v0), (0, v1), (0, v2), (0, v3), (0, w32 (v4 + 1)), (0, s0)]) rfl ⟨by decide, rfl⟩ ?_
    refine E_goto (tgt := 3) d_X12_holds_75 (by decide) ?_
    exact E_weak (ls' := [(2, v0), (0, v1), (0, v2), (0, v3), (0, w32 (v4 + 1)), (9, 0)]) ⟨Or.inr rfl, Or.inr rfl, Or.inr rfl, Or.inr rfl, Or.inr rfl, Or.inl rfl, trivial⟩ (hk3 h)
  · refine E_iconst d_X12_holds_70 (c32 rfl) ?_
    cases h
    exact E_zret d_X12_holds_71 rfl (Or.inl rfl)
noncomputable def f_X12_holds_b51 (k3 : (Int → Int → Int → Int → Int → Mem → Option (Int))) (v0 v1 v2 v3 v4 : Int) (σ : Mem) : Option (Int) :=
  f_X12_holds_b52 k3 v0 v1 v2 v3 v4 0 σ
theorem L_X12_holds_b51 {sc : Nat × (Nat → Int32)} {o : Int} {σ : Mem} {k3 : (Int → Int → Int → Int → Int → Mem → Option (Int))} (hk3 : ∀ {v0 v1 v2 v3 v4 : Int}, k3 v0 v1 v2 v3 v4 σ = some o → E sc (Fm Sh (some (0, o)) Sh σ) mt_X12_holds 4 Sh Sh 3 [(2, v0), (0, v1), (0, v2), (0, v3), (0, v4), (9, 0)] [] Sh σ) {v0 v1 v2 v3 v4 : Int} (h : f_X12_holds_b51 k3 v0 v1 v2 v3 v4 σ = some o) : E sc (Fm Sh (some (0, o)) Sh σ) mt_X12_holds 4 Sh Sh 51 [(2, v0), (0, v1), (0, v2), (0, v3), (0, v4), (9, 0)] [] Sh σ := by
  unfold f_X12_holds_b51 at h
  refine E_iconst d_X12_holds_51 (c32 rfl) ?_
  exact (L_X12_holds_b52 hk3 h)
noncomputable def f_X12_holds_b3 (k3 : (Int → Int → Int → Int → Int → Mem → Option (Int))) (v0 v1 v2 v3 v4 : Int) (σ : Mem) : Option (Int) :=
  if v1 ≤ v4 then
    some (1)
  else
    (gf Sh σ 12 v0 30).bind fun x1 =>
    (al Sh σ 20 x1 v4).bind fun x2 =>
    (f_X12_has x2 1 σ).bind fun r3 =>
    if r3 = 0 then
      f_X12_holds_b51 k3 v0 v1 v2 v3 v4 σ
    else
      (gf Sh σ 12 v0 29).bind fun x5 =>
      (al Sh σ 20 x5 v4).bind fun x6 =>
      (f_X12_stones v0 σ).bind fun r7 =>
      (f_X12_isMore v0 (ior (iand x6 (ixor v2 (-1))) v3) r7 σ).bind fun r9 =>
      if r9 = 0 then
        f_X12_holds_b51 k3 v0 v1 v2 v3 v4 σ
      else
        f_X12_holds_b52 k3 v0 v1 v2 v3 v4 1 σ
theorem L_X12_holds_b3 {sc : Nat × (Nat → Int32)} {o : Int} {σ : Mem} {k3 : (Int → Int → Int → Int → Int → Mem → Option (Int))} (hk3 : ∀ {v0 v1 v2 v3 v4 : Int}, k3 v0 v1 v2 v3 v4 σ = some o → E sc (Fm Sh (some (0, o)) Sh σ) mt_X12_holds 4 Sh Sh 3 [(2, v0), (0, v1), (0, v2), (0, v3), (0, v4), (9, 0)] [] Sh σ) {v0 v1 v2 v3 v4 : Int} (h : f_X12_holds_b3 k3 v0 v1 v2 v3 v4 σ = some o) : E sc (Fm Sh (some (0, o)) Sh σ) mt_X12_holds 4 Sh Sh 3 [(2, v0), (0, v1), (0, v2), (0, v3), (0, v4), (9, 0)] [] Sh σ := by
  unfold f_X12_holds_b3 at h
  refine E_iload d_X12_holds_3 rfl ?_
  refine E_iload_n d_X12_holds_5 rfl ?_
  refine E_icmp_ge (tgt := 78) d_X12_holds_6 (by decide) h (fun _ h => ?_) (fun _ h => ?_)
  · refine E_iconst d_X12_holds_78 (c32 rfl) ?_
    cases h
    exact E_zret d_X12_holds_79 rfl (Or.inr rfl)
  · refine E_aload_n d_X12_holds_9 rfl (by decide) ?_
    refine E_get d_X12_holds_10 okX12 fl_X12_54 ⟨by decide, rfl⟩ h (fun x1 h => ?_)
    refine E_iload d_X12_holds_13 rfl ?_
    refine E_iaload d_X12_holds_15 h (fun x2 h => ?_)
    refine E_iconst d_X12_holds_16 (c32 rfl) ?_
    refine bd h (fun r3 q4 h => ?_)
    refine E_cS (as := [(0, x2), (0, 1)]) (st := []) d_X12_holds_17 mk_X12_has nl_X12_108 (by omega) ⟨rfl, rfl, Nat.le_of_ble_eq_true rfl⟩ (L_X12_has q4) ?_
    refine E_if_eq (tgt := 51) d_X12_holds_20 (by decide) h (fun _ h => ?_) (fun _ h => ?_)
    · exact (L_X12_holds_b51 hk3 h)
    · refine E_aload_n d_X12_holds_23 rfl (by decide) ?_
      refine E_aload_n d_X12_holds_24 rfl (by decide) ?_
      refine E_get d_X12_holds_25 okX12 fl_X12_51 ⟨by decide, rfl⟩ h (fun x5 h => ?_)
      refine E_iload d_X12_holds_28 rfl ?_
      refine E_iaload d_X12_holds_30 h (fun x6 h => ?_)
      refine E_iload_n d_X12_holds_31 rfl ?_
      refine E_iconst d_X12_holds_32 (c32 rfl) ?_
      refine E_ixor d_X12_holds_33 ?_
      refine E_iand d_X12_holds_34 ?_
      refine E_iload_n d_X12_holds_35 rfl ?_
      refine E_ior d_X12_holds_36 ?_
      refine E_aload_n d_X12_holds_37 rfl (by decide) ?_
      refine bd h (fun r7 q8 h => ?_)
      refine E_cV (as := []) (st := [(0, ior (iand x6 (ixor v2 (-1))) v3), (2, v0)]) (a := v0) d_X12_holds_38 mk_X12_stones nl_X12_321 (by omega) ⟨rfl, rfl, Nat.le_of_ble_eq_true rfl⟩ okX12 rfl (L_X12_stones q8) ?_
      refine bd h (fun r9 q10 h => ?_)
      refine E_cV (as := [(0, ior (iand x6 (ixor v2 (-1))) v3), (0, r7)]) (st := []) (a := v0) d_X12_holds_41 mk_X12_isMore nl_X12_354 (by omega) ⟨rfl, rfl, Nat.le_of_ble_eq_true rfl⟩ okX12 rfl (L_X12_isMore q10) ?_
      refine E_if_eq (tgt := 51) d_X12_holds_44 (by decide) h (fun _ h => ?_) (fun _ h => ?_)
      · exact (L_X12_holds_b51 hk3 h)
      · refine E_iconst d_X12_holds_47 (c32 rfl) ?_
        refine E_goto (tgt := 52) d_X12_holds_48 (by decide) ?_
        exact (L_X12_holds_b52 hk3 h)
noncomputable def f_X12_holds_h3 (n : Nat) : Int → Int → Int → Int → Int → Mem → Option (Int) := Nat.rec (motive := fun _ => Int → Int → Int → Int → Int → Mem → Option (Int)) (fun _ _ _ _ _ _ => none) (fun _ ih => f_X12_holds_b3 (ih)) n
theorem L_X12_holds_h3 {sc : Nat × (Nat → Int32)} {o : Int} {σ : Mem} : ∀ (n : Nat) {v0 v1 v2 v3 v4 : Int}, f_X12_holds_h3 n v0 v1 v2 v3 v4 σ = some o → E sc (Fm Sh (some (0, o)) Sh σ) mt_X12_holds 4 Sh Sh 3 [(2, v0), (0, v1), (0, v2), (0, v3), (0, v4), (9, 0)] [] Sh σ := by
  intro n
  induction n with
  | zero => intro v0 v1 v2 v3 v4 h; cases h
  | succ n ih => intro v0 v1 v2 v3 v4 h; exact L_X12_holds_b3 (@ih) h
noncomputable def f_X12_holds_b0 (v0 v1 v2 v3 : Int) (σ : Mem) : Option (Int) :=
  f_X12_holds_h3 FU v0 v1 v2 v3 0 σ
theorem L_X12_holds_b0 {sc : Nat × (Nat → Int32)} {o : Int} {σ : Mem} {v0 v1 v2 v3 : Int} (h : f_X12_holds_b0 v0 v1 v2 v3 σ = some o) : E sc (Fm Sh (some (0, o)) Sh σ) mt_X12_holds 4 Sh Sh 0 [(2, v0), (0, v1), (0, v2), (0, v3), (9, 0), (9, 0)] [] Sh σ := by
  unfold f_X12_holds_b0 at h
  refine E_iconst d_X12_holds_0 (c32 rfl) ?_
  refine E_istore d_X12_holds_1 (ls' := [(2, v0), (0, v1), (0, v2), (0, v3), (0, 0), (9, 0)]) ⟨by decide, rfl⟩ ?_
  exact (L_X12_holds_h3 FU h)
noncomputable def f_X12_holds (v0 v1 v2 v3 : Int) (σ : Mem) : Option (Int) := if isO Sh 12 v0 = true then f_X12_holds_b0 v0 v1 v2 v3 σ else none
theorem L_X12_holds {o : Int} {v0 v1 v2 v3 : Int} {σ : Mem} (h : f_X12_holds v0 v1 v2 v3 σ = some o) : (isO Sh 12 v0 = true ∧ Cn mt_X12_holds 4 [(2, v0), (0, v1), (0, v2), (0, v3)] Sh σ (some (0, o)) Sh σ) := ⟨(ite_ok h).1, Cn_of mk_X12_holds.1.2.2.1 (Nat.le_of_ble_eq_true rfl) (fun sc => L_X12_holds_b0 (ite_ok h).2)⟩
theorem d_X12_cutsFrom_0 : decode mt_X12_cutsFrom.2.1 0 = .ok (.iload_n 1, 1) := by decide +kernel
theorem d_X12_cutsFrom_1 : decode mt_X12_cutsFrom.2.1 1 = .ok (.aload_n 0, 1) := by decide +kernel
theorem d_X12_cutsFrom_2 : decode mt_X12_cutsFrom.2.1 2 = .ok (.getfield 35, 3) := by decide +kernel
theorem d_X12_cutsFrom_5 : decode mt_X12_cutsFrom.2.1 5 = .ok (.iconst 0, 1) := by decide +kernel
theorem d_X12_cutsFrom_6 : decode mt_X12_cutsFrom.2.1 6 = .ok (.iaload, 1) := by decide +kernel
theorem d_X12_cutsFrom_7 : decode mt_X12_cutsFrom.2.1 7 = .ok (.if_icmp .ne 25, 3) := by decide +kernel
theorem d_X12_cutsFrom_10 : decode mt_X12_cutsFrom.2.1 10 = .ok (.iload_n 2, 1) := by decide +kernel
theorem d_X12_cutsFrom_11 : decode mt_X12_cutsFrom.2.1 11 = .ok (.ifCond .ne 19, 3) := by decide +kernel
theorem d_X12_cutsFrom_14 : decode mt_X12_cutsFrom.2.1 14 = .ok (.aload_n 0, 1) := by decide +kernel
theorem d_X12_cutsFrom_15 : decode mt_X12_cutsFrom.2.1 15 = .ok (.iload_n 3, 1) := by decide +kernel
theorem d_X12_cutsFrom_16 : decode mt_X12_cutsFrom.2.1 16 = .ok (.iload 4, 2) := by decide +kernel
theorem d_X12_cutsFrom_18 : decode mt_X12_cutsFrom.2.1 18 = .ok (.iload 5, 2) := by decide +kernel
theorem d_X12_cutsFrom_20 : decode mt_X12_cutsFrom.2.1 20 = .ok (.invokevirtual 410, 3) := by decide +kernel
theorem d_X12_cutsFrom_23 : decode mt_X12_cutsFrom.2.1 23 = .ok (.ifCond .eq 7, 3) := by decide +kernel
theorem d_X12_cutsFrom_26 : decode mt_X12_cutsFrom.2.1 26 = .ok (.iconst 1, 1) := by decide +kernel
theorem d_X12_cutsFrom_27 : decode mt_X12_cutsFrom.2.1 27 = .ok (.goto 4, 3) := by decide +kernel
theorem d_X12_cutsFrom_30 : decode mt_X12_cutsFrom.2.1 30 = .ok (.iconst 0, 1) := by decide +kernel
theorem d_X12_cutsFrom_31 : decode mt_X12_cutsFrom.2.1 31 = .ok (.ireturn, 1) := by decide +kernel
theorem d_X12_cutsFrom_32 : decode mt_X12_cutsFrom.2.1 32 = .ok (.aload_n 0, 1) := by decide +kernel
theorem d_X12_cutsFrom_33 : decode mt_X12_cutsFrom.2.1 33 = .ok (.getfield 57, 3) := by decide +kernel
theorem d_X12_cutsFrom_36 : decode mt_X12_cutsFrom.2.1 36 = .ok (.iload_n 1, 1) := by decide +kernel
theorem d_X12_cutsFrom_37 : decode mt_X12_cutsFrom.2.1 37 = .ok (.iconst 0, 1) := by decide +kernel
theorem d_X12_cutsFrom_38 : decode mt_X12_cutsFrom.2.1 38 = .ok (.iastore, 1) := by decide +kernel
theorem d_X12_cutsFrom_39 : decode mt_X12_cutsFrom.2.1 39 = .ok (.aload_n 0, 1) := by decide +kernel
theorem d_X12_cutsFrom_40 : decode mt_X12_cutsFrom.2.1 40 = .ok (.iload_n 1, 1) := by decide +kernel
theorem d_X12_cutsFrom_41 : decode mt_X12_cutsFrom.2.1 41 = .ok (.iconst 1, 1) := by decide +kernel
theorem d_X12_cutsFrom_42 : decode mt_X12_cutsFrom.2.1 42 = .ok (.iadd, 1) := by decide +kernel
theorem d_X12_cutsFrom_43 : decode mt_X12_cutsFrom.2.1 43 = .ok (.iload_n 2, 1) := by decide +kernel
theorem d_X12_cutsFrom_44 : decode mt_X12_cutsFrom.2.1 44 = .ok (.iload_n 3, 1) := by decide +kernel
theorem d_X12_cutsFrom_45 : decode mt_X12_cutsFrom.2.1 45 = .ok (.iload 4, 2) := by decide +kernel
theorem d_X12_cutsFrom_47 : decode mt_X12_cutsFrom.2.1 47 = .ok (.iload 5, 2) := by decide +kernel
theorem d_X12_cutsFrom_49 : decode mt_X12_cutsFrom.2.1 49 = .ok (.invokevirtual 413, 3) := by decide +kernel
theorem d_X12_cutsFrom_52 : decode mt_X12_cutsFrom.2.1 52 = .ok (.ifCond .eq 5, 3) := by decide +kernel
theorem d_X12_cutsFrom_55 : decode mt_X12_cutsFrom.2.1 55 = .ok (.iconst 1, 1) := by decide +kernel
theorem d_X12_cutsFrom_56 : decode mt_X12_cutsFrom.2.1 56 = .ok (.ireturn, 1) := by decide +kernel
theorem d_X12_cutsFrom_57 : decode mt_X12_cutsFrom.2.1 57 = .ok (.iload_n 2, 1) := by decide +kernel
theorem d_X12_cutsFrom_58 : decode mt_X12_cutsFrom.2.1 58 = .ok (.ifCond .eq 11, 3) := by decide +kernel
theorem d_X12_cutsFrom_61 : decode mt_X12_cutsFrom.2.1 61 = .ok (.aload_n 0, 1) := by decide +kernel
theorem d_X12_cutsFrom_62 : decode mt_X12_cutsFrom.2.1 62 = .ok (.iload_n 1, 1) := by decide +kernel
theorem d_X12_cutsFrom_63 : decode mt_X12_cutsFrom.2.1 63 = .ok (.invokevirtual 305, 3) := by decide +kernel
theorem d_X12_cutsFrom_66 : decode mt_X12_cutsFrom.2.1 66 = .ok (.ifCond .ne 5, 3) := by decide +kernel
theorem d_X12_cutsFrom_69 : decode mt_X12_cutsFrom.2.1 69 = .ok (.iconst 0, 1) := by decide +kernel
theorem d_X12_cutsFrom_70 : decode mt_X12_cutsFrom.2.1 70 = .ok (.ireturn, 1) := by decide +kernel
theorem d_X12_cutsFrom_71 : decode mt_X12_cutsFrom.2.1 71 = .ok (.aload_n 0, 1) := by decide +kernel
theorem d_X12_cutsFrom_72 : decode mt_X12_cutsFrom.2.1 72 = .ok (.getfield 57, 3) := by decide +kernel
theorem d_X12_cutsFrom_75 : decode mt_X12_cutsFrom.2.1 75 = .ok (.iload_n 1, 1) := by decide +kernel
theorem d_X12_cutsFrom_76 : decode mt_X12_cutsFrom.2.1 76 = .ok (.iconst 1, 1) := by decide +kernel
theorem d_X12_cutsFrom_77 : decode mt_X12_cutsFrom.2.1 77 = .ok (.iastore, 1) := by decide +kernel
theorem d_X12_cutsFrom_78 : decode mt_X12_cutsFrom.2.1 78 = .ok (.aload_n 0, 1) := by decide +kernel
theorem d_X12_cutsFrom_79 : decode mt_X12_cutsFrom.2.1 79 = .ok (.iload_n 1, 1) := by decide +kernel
theorem d_X12_cutsFrom_80 : decode mt_X12_cutsFrom.2.1 80 = .ok (.iconst 1, 1) := by decide +kernel
theorem d_X12_cutsFrom_81 : decode mt_X12_cutsFrom.2.1 81 = .ok (.iadd, 1) := by decide +kernel
theorem d_X12_cutsFrom_82 : decode mt_X12_cutsFrom.2.1 82 = .ok (.iload_n 2, 1) := by decide +kernel
theorem d_X12_cutsFrom_83 : decode mt_X12_cutsFrom.2.1 83 = .ok (.iconst 1, 1) := by decide +kernel
theorem d_X12_cutsFrom_84 : decode mt_X12_cutsFrom.2.1 84 = .ok (.isub, 1) := by decide +kernel
theorem d_X12_cutsFrom_85 : decode mt_X12_cutsFrom.2.1 85 = .ok (.iload_n 3, 1) := by decide +kernel
theorem d_X12_cutsFrom_86 : decode mt_X12_cutsFrom.2.1 86 = .ok (.iload 4, 2) := by decide +kernel
theorem d_X12_cutsFrom_88 : decode mt_X12_cutsFrom.2.1 88 = .ok (.iconst 1, 1) := by decide +kernel
theorem d_X12_cutsFrom_89 : decode mt_X12_cutsFrom.2.1 89 = .ok (.iload_n 1, 1) := by decide +kernel
theorem d_X12_cutsFrom_90 : decode mt_X12_cutsFrom.2.1 90 = .ok (.ishl, 1) := by decide +kernel
theorem d_X12_cutsFrom_91 : decode mt_X12_cutsFrom.2.1 91 = .ok (.ior, 1) := by decide +kernel
theorem d_X12_cutsFrom_92 : decode mt_X12_cutsFrom.2.1 92 = .ok (.iload 5, 2) := by decide +kernel
theorem d_X12_cutsFrom_94 : decode mt_X12_cutsFrom.2.1 94 = .ok (.invokevirtual 413, 3) := by decide +kernel
theorem d_X12_cutsFrom_97 : decode mt_X12_cutsFrom.2.1 97 = .ok (.ifCond .eq 5, 3) := by decide +kernel
theorem d_X12_cutsFrom_100 : decode mt_X12_cutsFrom.2.1 100 = .ok (.iconst 1, 1) := by decide +kernel
theorem d_X12_cutsFrom_101 : decode mt_X12_cutsFrom.2.1 101 = .ok (.ireturn, 1) := by decide +kernel
theorem d_X12_cutsFrom_102 : decode mt_X12_cutsFrom.2.1 102 = .ok (.aload_n 0, 1) := by decide +kernel
theorem d_X12_cutsFrom_103 : decode mt_X12_cutsFrom.2.1 103 = .ok (.getfield 57, 3) := by decide +kernel
theorem d_X12_cutsFrom_106 : decode mt_X12_cutsFrom.2.1 106 = .ok (.iload_n 1, 1) := by decide +kernel
theorem d_X12_cutsFrom_107 : decode mt_X12_cutsFrom.2.1 107 = .ok (.iconst 2, 1) := by decide +kernel
theorem d_X12_cutsFrom_108 : decode mt_X12_cutsFrom.2.1 108 = .ok (.iastore, 1) := by decide +kernel
theorem d_X12_cutsFrom_109 : decode mt_X12_cutsFrom.2.1 109 = .ok (.aload_n 0, 1) := by decide +kernel
theorem d_X12_cutsFrom_110 : decode mt_X12_cutsFrom.2.1 110 = .ok (.iload_n 1, 1) := by decide +kernel
theorem d_X12_cutsFrom_111 : decode mt_X12_cutsFrom.2.1 111 = .ok (.iconst 1, 1) := by decide +kernel
theorem d_X12_cutsFrom_112 : decode mt_X12_cutsFrom.2.1 112 = .ok (.iadd, 1) := by decide +kernel
theorem d_X12_cutsFrom_113 : decode mt_X12_cutsFrom.2.1 113 = .ok (.iload_n 2, 1) := by decide +kernel
theorem d_X12_cutsFrom_114 : decode mt_X12_cutsFrom.2.1 114 = .ok (.iconst 1, 1) := by decide +kernel
theorem d_X12_cutsFrom_115 : decode mt_X12_cutsFrom.2.1 115 = .ok (.isub, 1) := by decide +kernel
theorem d_X12_cutsFrom_116 : decode mt_X12_cutsFrom.2.1 116 = .ok (.iload_n 3, 1) := by decide +kernel
theorem d_X12_cutsFrom_117 : decode mt_X12_cutsFrom.2.1 117 = .ok (.iload 4, 2) := by decide +kernel
theorem d_X12_cutsFrom_119 : decode mt_X12_cutsFrom.2.1 119 = .ok (.iload 5, 2) := by decide +kernel
theorem d_X12_cutsFrom_121 : decode mt_X12_cutsFrom.2.1 121 = .ok (.iconst 1, 1) := by decide +kernel
theorem d_X12_cutsFrom_122 : decode mt_X12_cutsFrom.2.1 122 = .ok (.iload_n 1, 1) := by decide +kernel
theorem d_X12_cutsFrom_123 : decode mt_X12_cutsFrom.2.1 123 = .ok (.ishl, 1) := by decide +kernel
theorem d_X12_cutsFrom_124 : decode mt_X12_cutsFrom.2.1 124 = .ok (.ior, 1) := by decide +kernel
theorem d_X12_cutsFrom_125 : decode mt_X12_cutsFrom.2.1 125 = .ok (.invokevirtual 413, 3) := by decide +kernel
theorem d_X12_cutsFrom_128 : decode mt_X12_cutsFrom.2.1 128 = .ok (.ireturn, 1) := by decide +kernel
noncomputable def f_X12_cutsFrom_b0 (r_X12_cutsFrom : (Int → Int → Int → Int → Int → Int → Mem → Option (Int × Mem))) (v0 v1 v2 v3 v4 v5 : Int) (σ : Mem) : Option (Int × Mem) :=
  (gf Sh σ 12 v0 20).bind fun x1 =>
  (al Sh σ 20 x1 0).bind fun x2 =>
  if v1 = x2 then
    if v2 = 0 then
      (f_X12_holds v0 v3 v4 v5 σ).bind fun r3 =>
      if r3 = 0 then
        some (0, σ)
      else
        some (1, σ)
    else
      some (0, σ)
  else
    (gf Sh σ 12 v0 31).bind fun x5 =>
    (st_ Sh σ 20 x5 v1 0).bind fun σ6 =>
    (r_X12_cutsFrom v0 (w32 (v1 + 1)) v2 v3 v4 v5 σ6).bind fun r7 =>
    if r7.1 = 0 then
      if v2 = 0 then
        some (0, r7.2)
      else
        (f_X12_isStoneAt v0 v1 r7.2).bind fun r9 =>
        if r9 = 0 then
          some (0, r7.2)
        else
          (gf Sh r7.2 12 v0 31).bind fun x11 =>
          (st_ Sh r7.2 20 x11 v1 1).bind fun σ12 =>
          (r_X12_cutsFrom v0 (w32 (v1 + 1)) (w32 (v2 - 1)) v3 (ior v4 (ishl 1 v1)) v5 σ12).bind fun r13 =>
          if r13.1 = 0 then
            (gf Sh r13.2 12 v0 31).bind fun x15 =>
            (st_ Sh r13.2 20 x15 v1 2).bind fun σ16 =>
            (r_X12_cutsFrom v0 (w32 (v1 + 1)) (w32 (v2 - 1)) v3 v4 (ior v5 (ishl 1 v1)) σ16).bind fun r17 =>
            (bz r17.1).bind fun _ =>
            some (r17.1, r17.2)
          else
            some (1, r13.2)
    else
      some (1, r7.2)
theorem L_X12_cutsFrom_b0 {sc : Nat × (Nat → Int32)} {D : Nat} {o : Int × Mem} {r_X12_cutsFrom : (Int → Int → Int → Int → Int → Int → Mem → Option (Int × Mem))} (hr_X12_cutsFrom : ∀ {y0 y1 y2 y3 y4 y5 : Int} {σ : Mem} {o : Int × Mem}, r_X12_cutsFrom y0 y1 y2 y3 y4 y5 σ = some o → (isO Sh 12 y0 = true ∧ Cn mt_X12_cutsFrom D [(2, y0), (0, y1), (0, y2), (0, y3), (0, y4), (0, y5)] Sh σ (some (0, o.1)) Sh o.2)) {v0 v1 v2 v3 v4 v5 : Int} {σ : Mem} (h : f_X12_cutsFrom_b0 r_X12_cutsFrom v0 v1 v2 v3 v4 v5 σ = some o) : E sc (Fm Sh (some (0, o.1)) Sh o.2) mt_X12_cutsFrom (D + 5) Sh Sh 0 [(2, v0), (0, v1), (0, v2), (0, v3), (0, v4), (0, v5)] [] Sh σ := by
  unfold f_X12_cutsFrom_b0 at h
  refine E_iload_n d_X12_cutsFrom_0 rfl ?_
  refine E_aload_n d_X12_cutsFrom_1 rfl (by decide) ?_
  refine E_get d_X12_cutsFrom_2 okX12 fl_X12_35 ⟨by decide, rfl⟩ h (fun x1 h => ?_)
  refine E_iconst d_X12_cutsFrom_5 (c32 rfl) ?_
  refine E_iaload d_X12_cutsFrom_6 h (fun x2 h => ?_)
  refine E_icmp_ne (tgt := 32) d_X12_cutsFrom_7 (by decide) h (fun _ h => ?_) (fun _ h => ?_)
  · refine E_iload_n d_X12_cutsFrom_10 rfl ?_
    refine E_if_ne (tgt := 30) d_X12_cutsFrom_11 (by decide) h (fun _ h => ?_) (fun _ h => ?_)
    · refine E_aload_n d_X12_cutsFrom_14 rfl (by decide) ?_
      refine E_iload_n d_X12_cutsFrom_15 rfl ?_
      refine E_iload d_X12_cutsFrom_16 rfl ?_
      refine E_iload d_X12_cutsFrom_18 rfl ?_
      refine bd h (fun r3 q4 h => ?_)
      refine E_cV (as := [(0, v3), (0, v4), (0, v5)]) (st := []) (a := v0) d_X12_cutsFrom_20 mk_X12_holds nl_X12_410 (by omega) ⟨rfl, rfl, Nat.le_of_ble_eq_true rfl⟩ okX12 rfl (L_X12_holds q4) ?_
      refine E_if_eq (tgt := 30) d_X12_cutsFrom_23 (by decide) h (fun _ h => ?_) (fun _ h => ?_)
      · refine E_iconst d_X12_cutsFrom_30 (c32 rfl) ?_
        cases h
        exact E_zret d_X12_cutsFrom_31 rfl (Or.inl rfl)
      · refine E_iconst d_X12_cutsFrom_26 (c32 rfl) ?_
        refine E_goto (tgt := 31) d_X12_cutsFrom_27 (by decide) ?_
        cases h
        exact E_zret d_X12_cutsFrom_31 rfl (Or.inr rfl)
    · refine E_iconst d_X12_cutsFrom_30 (c32 rfl) ?_
      cases h
      exact E_zret d_X12_cutsFrom_31 rfl (Or.inl rfl)
  · refine E_aload_n d_X12_cutsFrom_32 rfl (by decide) ?_
    refine E_get d_X12_cutsFrom_33 okX12 fl_X12_57 ⟨by decide, rfl⟩ h (fun x5 h => ?_)
    refine E_iload_n d_X12_cutsFrom_36 rfl ?_
    refine E_iconst d_X12_cutsFrom_37 (c32 rfl) ?_
    refine E_iastore d_X12_cutsFrom_38 h (fun σ6 h => ?_)
    refine E_aload_n d_X12_cutsFrom_39 rfl (by decide) ?_
    refine E_iload_n d_X12_cutsFrom_40 rfl ?_
    refine E_iconst d_X12_cutsFrom_41 (c32 rfl) ?_
    refine E_iadd d_X12_cutsFrom_42 ?_
    refine E_iload_n d_X12_cutsFrom_43 rfl ?_
    refine E_iload_n d_X12_cutsFrom_44 rfl ?_
    refine E_iload d_X12_cutsFrom_45 rfl ?_
    refine E_iload d_X12_cutsFrom_47 rfl ?_
    refine bd h (fun r7 q8 h => ?_)
    refine E_cV (as := [(0, w32 (v1 + 1)), (0, v2), (0, v3), (0, v4), (0, v5)]) (st := []) (a := v0) d_X12_cutsFrom_49 mk_X12_cutsFrom nl_X12_413 (by omega) ⟨rfl, rfl, Nat.le_of_ble_eq_true rfl⟩ okX12 rfl (hr_X12_cutsFrom q8) ?_
    refine E_if_eq (tgt := 57) d_X12_cutsFrom_52 (by decide) h (fun _ h => ?_) (fun _ h => ?_)
    · refine E_iload_n d_X12_cutsFrom_57 rfl ?_
      refine E_if_eq (tgt := 69) d_X12_cutsFrom_58 (by decide) h (fun _ h => ?_) (fun _ h => ?_)
      · refine E_iconst d_X12_cutsFrom_69 (c32 rfl) ?_
        cases h
        exact E_zret d_X12_cutsFrom_70 rfl (Or.inl rfl)
      · refine E_aload_n d_X12_cutsFrom_61 rfl (by decide) ?_
        refine E_iload_n d_X12_cutsFrom_62 rfl ?_
        refine bd h (fun r9 q10 h => ?_)
        refine E_cV (as := [(0, v1)]) (st := []) (a := v0) d_X12_cutsFrom_63 mk_X12_isStoneAt nl_X12_305 (by omega) ⟨rfl, rfl, Nat.le_of_ble_eq_true rfl⟩ okX12 rfl (L_X12_isStoneAt q10) ?_
        refine E_if_ne (tgt := 71) d_X12_cutsFrom_66 (by decide) h (fun _ h => ?_) (fun _ h => ?_)
        · refine E_iconst d_X12_cutsFrom_69 (c32 rfl) ?_
          cases h
          exact E_zret d_X12_cutsFrom_70 rfl (Or.inl rfl)
        · refine E_aload_n d_X12_cutsFrom_71 rfl (by decide) ?_
          refine E_get d_X12_cutsFrom_72 okX12 fl_X12_57 ⟨by decide, rfl⟩ h (fun x11 h => ?_)
          refine E_iload_n d_X12_cutsFrom_75 rfl ?_
          refine E_iconst d_X12_cutsFrom_76 (c32 rfl) ?_
          refine E_iastore d_X12_cutsFrom_77 h (fun σ12 h => ?_)
          refine E_aload_n d_X12_cutsFrom_78 rfl (by decide) ?_
          refine E_iload_n d_X12_cutsFrom_79 rfl ?_
          refine E_iconst d_X12_cutsFrom_80 (c32 rfl) ?_
          refine E_iadd d_X12_cutsFrom_81 ?_
          refine E_iload_n d_X12_cutsFrom_82 rfl ?_
          refine E_iconst d_X12_cutsFrom_83 (c32 rfl) ?_
          refine E_isub d_X12_cutsFrom_84 ?_
          refine E_iload_n d_X12_cutsFrom_85 rfl ?_
          refine E_iload d_X12_cutsFrom_86 rfl ?_
          refine E_iconst d_X12_cutsFrom_88 (c32 rfl) ?_
          refine E_iload_n d_X12_cutsFrom_89 rfl ?_
          refine E_ishl d_X12_cutsFrom_90 ?_
          refine E_ior d_X12_cutsFrom_91 ?_
          refine E_iload d_X12_cutsFrom_92 rfl ?_
          refine bd h (fun r13 q14 h => ?_)
          refine E_cV (as := [(0, w32 (v1 + 1)), (0, w32 (v2 - 1)), (0, v3), (0, ior v4 (ishl 1 v1)), (0, v5)]) (st := []) (a := v0) d_X12_cutsFrom_94 mk_X12_cutsFrom nl_X12_413 (by omega) ⟨rfl, rfl, Nat.le_of_ble_eq_true rfl⟩ okX12 rfl (hr_X12_cutsFrom q14) ?_
          refine E_if_eq (tgt := 102) d_X12_cutsFrom_97 (by decide) h (fun _ h => ?_) (fun _ h => ?_)
          · refine E_aload_n d_X12_cutsFrom_102 rfl (by decide) ?_
            refine E_get d_X12_cutsFrom_103 okX12 fl_X12_57 ⟨by decide, rfl⟩ h (fun x15 h => ?_)
            refine E_iload_n d_X12_cutsFrom_106 rfl ?_
            refine E_iconst d_X12_cutsFrom_107 (c32 rfl) ?_
            refine E_iastore d_X12_cutsFrom_108 h (fun σ16 h => ?_)
            refine E_aload_n d_X12_cutsFrom_109 rfl (by decide) ?_
            refine E_iload_n d_X12_cutsFrom_110 rfl ?_
            refine E_iconst d_X12_cutsFrom_111 (c32 rfl) ?_
            refine E_iadd d_X12_cutsFrom_112 ?_
            refine E_iload_n d_X12_cutsFrom_113 rfl ?_
            refine E_iconst d_X12_cutsFrom_114 (c32 rfl) ?_
            refine E_isub d_X12_cutsFrom_115 ?_
            refine E_iload_n d_X12_cutsFrom_116 rfl ?_
            refine E_iload d_X12_cutsFrom_117 rfl ?_
            refine E_iload d_X12_cutsFrom_119 rfl ?_
            refine E_iconst d_X12_cutsFrom_121 (c32 rfl) ?_
            refine E_iload_n d_X12_cutsFrom_122 rfl ?_
            refine E_ishl d_X12_cutsFrom_123 ?_
            refine E_ior d_X12_cutsFrom_124 ?_
            refine bd h (fun r17 q18 h => ?_)
            refine E_cV (as := [(0, w32 (v1 + 1)), (0, w32 (v2 - 1)), (0, v3), (0, v4), (0, ior v5 (ishl 1 v1))]) (st := []) (a := v0) d_X12_cutsFrom_125 mk_X12_cutsFrom nl_X12_413 (by omega) ⟨rfl, rfl, Nat.le_of_ble_eq_true rfl⟩ okX12 rfl (hr_X12_cutsFrom q18) ?_
            refine bd_bz h (fun q19 h => ?_)
            cases h
            exact E_zret d_X12_cutsFrom_128 rfl q19
          · refine E_iconst d_X12_cutsFrom_100 (c32 rfl) ?_
            cases h
            exact E_zret d_X12_cutsFrom_101 rfl (Or.inr rfl)
    · refine E_iconst d_X12_cutsFrom_55 (c32 rfl) ?_
      cases h
      exact E_zret d_X12_cutsFrom_56 rfl (Or.inr rfl)
noncomputable def f_X12_cutsFrom_body (r_X12_cutsFrom : (Int → Int → Int → Int → Int → Int → Mem → Option (Int × Mem))) (v0 v1 v2 v3 v4 v5 : Int) (σ : Mem) : Option (Int × Mem) := if isO Sh 12 v0 = true then f_X12_cutsFrom_b0 r_X12_cutsFrom v0 v1 v2 v3 v4 v5 σ else none
theorem L_X12_cutsFrom_body {D : Nat} {o : Int × Mem} {r_X12_cutsFrom : (Int → Int → Int → Int → Int → Int → Mem → Option (Int × Mem))} (hr_X12_cutsFrom : ∀ {y0 y1 y2 y3 y4 y5 : Int} {σ : Mem} {o : Int × Mem}, r_X12_cutsFrom y0 y1 y2 y3 y4 y5 σ = some o → (isO Sh 12 y0 = true ∧ Cn mt_X12_cutsFrom D [(2, y0), (0, y1), (0, y2), (0, y3), (0, y4), (0, y5)] Sh σ (some (0, o.1)) Sh o.2)) {v0 v1 v2 v3 v4 v5 : Int} {σ : Mem} (h : f_X12_cutsFrom_body r_X12_cutsFrom v0 v1 v2 v3 v4 v5 σ = some o) : (isO Sh 12 v0 = true ∧ Cn mt_X12_cutsFrom (D + 5) [(2, v0), (0, v1), (0, v2), (0, v3), (0, v4), (0, v5)] Sh σ (some (0, o.1)) Sh o.2) := ⟨(ite_ok h).1, Cn_of mk_X12_cutsFrom.1.2.2.1 (Nat.le_of_ble_eq_true rfl) (fun sc => L_X12_cutsFrom_b0 hr_X12_cutsFrom (ite_ok h).2)⟩
noncomputable def f_X12_cutsFrom (n : Nat) : Int → Int → Int → Int → Int → Int → Mem → Option (Int × Mem) := Nat.rec (motive := fun _ => Int → Int → Int → Int → Int → Int → Mem → Option (Int × Mem)) (fun _ _ _ _ _ _ _ => none) (fun _ ih => f_X12_cutsFrom_body ih) n
theorem L_X12_cutsFrom : ∀ (n : Nat) {v0 v1 v2 v3 v4 v5 : Int} {σ : Mem} {o : Int × Mem}, f_X12_cutsFrom n v0 v1 v2 v3 v4 v5 σ = some o → (isO Sh 12 v0 = true ∧ Cn mt_X12_cutsFrom (n * 5) [(2, v0), (0, v1), (0, v2), (0, v3), (0, v4), (0, v5)] Sh σ (some (0, o.1)) Sh o.2) := by
  intro n
  induction n with
  | zero => intro v0 v1 v2 v3 v4 v5 σ o h; cases h
  | succ n ih => intro v0 v1 v2 v3 v4 v5 σ o h; rw [Nat.succ_mul]; exact L_X12_cutsFrom_body (@ih) h
theorem d_X12_cutting_0 : decode mt_X12_cutting.2.1 0 = .ok (.iconst 0, 1) := by decide +kernel
theorem d_X12_cutting_1 : decode mt_X12_cutting.2.1 1 = .ok (.istore_n 3, 1) := by decide +kernel
theorem d_X12_cutting_2 : decode mt_X12_cutting.2.1 2 = .ok (.iload_n 3, 1) := by decide +kernel
theorem d_X12_cutting_3 : decode mt_X12_cutting.2.1 3 = .ok (.iload_n 2, 1) := by decide +kernel
theorem d_X12_cutting_4 : decode mt_X12_cutting.2.1 4 = .ok (.if_icmp .ge 75, 3) := by decide +kernel
theorem d_X12_cutting_7 : decode mt_X12_cutting.2.1 7 = .ok (.aload_n 0, 1) := by decide +kernel
theorem d_X12_cutting_8 : decode mt_X12_cutting.2.1 8 = .ok (.iload_n 1, 1) := by decide +kernel
theorem d_X12_cutting_9 : decode mt_X12_cutting.2.1 9 = .ok (.iconst 3, 1) := by decide +kernel
theorem d_X12_cutting_10 : decode mt_X12_cutting.2.1 10 = .ok (.iload_n 3, 1) := by decide +kernel
theorem d_X12_cutting_11 : decode mt_X12_cutting.2.1 11 = .ok (.imul, 1) := by decide +kernel
theorem d_X12_cutting_12 : decode mt_X12_cutting.2.1 12 = .ok (.iconst 1, 1) := by decide +kernel
theorem d_X12_cutting_13 : decode mt_X12_cutting.2.1 13 = .ok (.iadd, 1) := by decide +kernel
theorem d_X12_cutting_14 : decode mt_X12_cutting.2.1 14 = .ok (.invokevirtual 391, 3) := by decide +kernel
theorem d_X12_cutting_17 : decode mt_X12_cutting.2.1 17 = .ok (.l2i, 1) := by decide +kernel
theorem d_X12_cutting_18 : decode mt_X12_cutting.2.1 18 = .ok (.istore 4, 2) := by decide +kernel
theorem d_X12_cutting_20 : decode mt_X12_cutting.2.1 20 = .ok (.aload_n 0, 1) := by decide +kernel
theorem d_X12_cutting_21 : decode mt_X12_cutting.2.1 21 = .ok (.getfield 51, 3) := by decide +kernel
theorem d_X12_cutting_24 : decode mt_X12_cutting.2.1 24 = .ok (.iload_n 3, 1) := by decide +kernel
theorem d_X12_cutting_25 : decode mt_X12_cutting.2.1 25 = .ok (.aload_n 0, 1) := by decide +kernel
theorem d_X12_cutting_26 : decode mt_X12_cutting.2.1 26 = .ok (.aload_n 0, 1) := by decide +kernel
theorem d_X12_cutting_27 : decode mt_X12_cutting.2.1 27 = .ok (.iload_n 1, 1) := by decide +kernel
theorem d_X12_cutting_28 : decode mt_X12_cutting.2.1 28 = .ok (.iconst 3, 1) := by decide +kernel
theorem d_X12_cutting_29 : decode mt_X12_cutting.2.1 29 = .ok (.iload_n 3, 1) := by decide +kernel
theorem d_X12_cutting_30 : decode mt_X12_cutting.2.1 30 = .ok (.imul, 1) := by decide +kernel
theorem d_X12_cutting_31 : decode mt_X12_cutting.2.1 31 = .ok (.invokevirtual 391, 3) := by decide +kernel
theorem d_X12_cutting_34 : decode mt_X12_cutting.2.1 34 = .ok (.l2i, 1) := by decide +kernel
theorem d_X12_cutting_35 : decode mt_X12_cutting.2.1 35 = .ok (.iload 4, 2) := by decide +kernel
theorem d_X12_cutting_37 : decode mt_X12_cutting.2.1 37 = .ok (.invokevirtual 351, 3) := by decide +kernel
theorem d_X12_cutting_40 : decode mt_X12_cutting.2.1 40 = .ok (.iastore, 1) := by decide +kernel
theorem d_X12_cutting_41 : decode mt_X12_cutting.2.1 41 = .ok (.aload_n 0, 1) := by decide +kernel
theorem d_X12_cutting_42 : decode mt_X12_cutting.2.1 42 = .ok (.getfield 54, 3) := by decide +kernel
theorem d_X12_cutting_45 : decode mt_X12_cutting.2.1 45 = .ok (.iload_n 3, 1) := by decide +kernel
theorem d_X12_cutting_46 : decode mt_X12_cutting.2.1 46 = .ok (.aload_n 0, 1) := by decide +kernel
theorem d_X12_cutting_47 : decode mt_X12_cutting.2.1 47 = .ok (.iload_n 1, 1) := by decide +kernel
theorem d_X12_cutting_48 : decode mt_X12_cutting.2.1 48 = .ok (.iconst 3, 1) := by decide +kernel
theorem d_X12_cutting_49 : decode mt_X12_cutting.2.1 49 = .ok (.iload_n 3, 1) := by decide +kernel
theorem d_X12_cutting_50 : decode mt_X12_cutting.2.1 50 = .ok (.imul, 1) := by decide +kernel
theorem d_X12_cutting_51 : decode mt_X12_cutting.2.1 51 = .ok (.iconst 2, 1) := by decide +kernel
theorem d_X12_cutting_52 : decode mt_X12_cutting.2.1 52 = .ok (.iadd, 1) := by decide +kernel
theorem d_X12_cutting_53 : decode mt_X12_cutting.2.1 53 = .ok (.invokevirtual 391, 3) := by decide +kernel
theorem d_X12_cutting_56 : decode mt_X12_cutting.2.1 56 = .ok (.l2i, 1) := by decide +kernel
theorem d_X12_cutting_57 : decode mt_X12_cutting.2.1 57 = .ok (.aload_n 0, 1) := by decide +kernel
theorem d_X12_cutting_58 : decode mt_X12_cutting.2.1 58 = .ok (.iload 4, 2) := by decide +kernel
theorem d_X12_cutting_60 : decode mt_X12_cutting.2.1 60 = .ok (.invokevirtual 305, 3) := by decide +kernel
theorem d_X12_cutting_63 : decode mt_X12_cutting.2.1 63 = .ok (.ifCond .eq 7, 3) := by decide +kernel
theorem d_X12_cutting_66 : decode mt_X12_cutting.2.1 66 = .ok (.iconst 2, 1) := by decide +kernel
theorem d_X12_cutting_67 : decode mt_X12_cutting.2.1 67 = .ok (.goto 4, 3) := by decide +kernel
theorem d_X12_cutting_70 : decode mt_X12_cutting.2.1 70 = .ok (.iconst 0, 1) := by decide +kernel
theorem d_X12_cutting_71 : decode mt_X12_cutting.2.1 71 = .ok (.iadd, 1) := by decide +kernel
theorem d_X12_cutting_72 : decode mt_X12_cutting.2.1 72 = .ok (.iastore, 1) := by decide +kernel
theorem d_X12_cutting_73 : decode mt_X12_cutting.2.1 73 = .ok (.iinc 3 1, 3) := by decide +kernel
theorem d_X12_cutting_76 : decode mt_X12_cutting.2.1 76 = .ok (.goto (-74), 3) := by decide +kernel
theorem d_X12_cutting_79 : decode mt_X12_cutting.2.1 79 = .ok (.iconst 0, 1) := by decide +kernel
theorem d_X12_cutting_80 : decode mt_X12_cutting.2.1 80 = .ok (.istore_n 3, 1) := by decide +kernel
theorem d_X12_cutting_81 : decode mt_X12_cutting.2.1 81 = .ok (.iload_n 3, 1) := by decide +kernel
theorem d_X12_cutting_82 : decode mt_X12_cutting.2.1 82 = .ok (.aload_n 0, 1) := by decide +kernel
theorem d_X12_cutting_83 : decode mt_X12_cutting.2.1 83 = .ok (.invokevirtual 321, 3) := by decide +kernel
theorem d_X12_cutting_86 : decode mt_X12_cutting.2.1 86 = .ok (.invokestatic 324, 3) := by decide +kernel
theorem d_X12_cutting_89 : decode mt_X12_cutting.2.1 89 = .ok (.if_icmp .gt 23, 3) := by decide +kernel
theorem d_X12_cutting_92 : decode mt_X12_cutting.2.1 92 = .ok (.aload_n 0, 1) := by decide +kernel
theorem d_X12_cutting_93 : decode mt_X12_cutting.2.1 93 = .ok (.iconst 0, 1) := by decide +kernel
theorem d_X12_cutting_94 : decode mt_X12_cutting.2.1 94 = .ok (.iload_n 3, 1) := by decide +kernel
theorem d_X12_cutting_95 : decode mt_X12_cutting.2.1 95 = .ok (.iload_n 2, 1) := by decide +kernel
theorem d_X12_cutting_96 : decode mt_X12_cutting.2.1 96 = .ok (.iconst 0, 1) := by decide +kernel
theorem d_X12_cutting_97 : decode mt_X12_cutting.2.1 97 = .ok (.iconst 0, 1) := by decide +kernel
theorem d_X12_cutting_98 : decode mt_X12_cutting.2.1 98 = .ok (.invokevirtual 413, 3) := by decide +kernel
theorem d_X12_cutting_101 : decode mt_X12_cutting.2.1 101 = .ok (.ifCond .eq 5, 3) := by decide +kernel
theorem d_X12_cutting_104 : decode mt_X12_cutting.2.1 104 = .ok (.iload_n 3, 1) := by decide +kernel
theorem d_X12_cutting_105 : decode mt_X12_cutting.2.1 105 = .ok (.ireturn, 1) := by decide +kernel
theorem d_X12_cutting_106 : decode mt_X12_cutting.2.1 106 = .ok (.iinc 3 1, 3) := by decide +kernel
theorem d_X12_cutting_109 : decode mt_X12_cutting.2.1 109 = .ok (.goto (-28), 3) := by decide +kernel
theorem d_X12_cutting_112 : decode mt_X12_cutting.2.1 112 = .ok (.iconst (-1), 1) := by decide +kernel
theorem d_X12_cutting_113 : decode mt_X12_cutting.2.1 113 = .ok (.ireturn, 1) := by decide +kernel
noncomputable def f_X12_cutting_b71 (k2 : (Int → Int → Int → Int → Mem → Option (Int × Mem))) (v0 v1 v2 v3 s0 s1 s2 s3 : Int) (σ : Mem) : Option (Int × Mem) :=
  (st_ Sh σ 20 s3 s2 (w32 (s1 + s0))).bind fun σ14 =>
  k2 v0 v1 v2 (w32 (v3 + 1)) σ14
theorem L_X12_cutting_b71 {sc : Nat × (Nat → Int32)} {o : Int × Mem} {k2 : (Int → Int → Int → Int → Mem → Option (Int × Mem))} (hk2 : ∀ {v0 v1 v2 v3 : Int} {σ : Mem}, k2 v0 v1 v2 v3 σ = some o → E sc (Fm Sh (some (0, o.1)) Sh o.2) mt_X12_cutting 201 Sh Sh 2 [(2, v0), (0, v1), (0, v2), (0, v3), (9, 0)] [] Sh σ) {v0 v1 v2 v3 s0 s1 s2 s3 : Int} {σ : Mem} (h : f_X12_cutting_b71 k2 v0 v1 v2 v3 s0 s1 s2 s3 σ = some o) : E sc (Fm Sh (some (0, o.1)) Sh o.2) mt_X12_cutting 201 Sh Sh 71 [(2, v0), (0, v1), (0, v2), (0, v3), (9, 0)] [(0, s0), (0, s1), (0, s2), (2, s3)] Sh σ := by
  unfold f_X12_cutting_b71 at h
  refine E_iadd d_X12_cutting_71 ?_
  refine E_iastore d_X12_cutting_72 h (fun σ14 h => ?_)
  refine E_iinc d_X12_cutting_73 (ls' := [(2, v0), (0, v1), (0, v2), (0, w32 (v3 + 1)), (9, 0)]) rfl ⟨by decide, rfl⟩ ?_
  refine E_goto (tgt := 2) d_X12_cutting_76 (by decide) ?_
  exact (hk2 h)
noncomputable def f_X12_cutting_b81 (k81 : (Int → Int → Int → Mem → Option (Int × Mem))) (v0 v2 v3 : Int) (σ : Mem) : Option (Int × Mem) :=
  (f_X12_stones v0 σ).bind fun r15 =>
  (f_X12_sizeOf r15 σ).bind fun r17 =>
  if r17 < v3 then
    some ((-1), σ)
  else
    (f_X12_cutsFrom FR v0 0 v3 v2 0 0 σ).bind fun r19 =>
    if r19.1 = 0 then
      k81 v0 v2 (w32 (v3 + 1)) r19.2
    else
      some (v3, r19.2)
theorem L_X12_cutting_b81 {sc : Nat × (Nat → Int32)} {o : Int × Mem} {k81 : (Int → Int → Int → Mem → Option (Int × Mem))} (hk81 : ∀ {v0 v2 v3 : Int} {σ : Mem}, k81 v0 v2 v3 σ = some o → E sc (Fm Sh (some (0, o.1)) Sh o.2) mt_X12_cutting 201 Sh Sh 81 [(2, v0), (9, 0), (0, v2), (0, v3), (9, 0)] [] Sh σ) {v0 v2 v3 : Int} {σ : Mem} (h : f_X12_cutting_b81 k81 v0 v2 v3 σ = some o) : E sc (Fm Sh (some (0, o.1)) Sh o.2) mt_X12_cutting 201 Sh Sh 81 [(2, v0), (9, 0), (0, v2), (0, v3), (9, 0)] [] Sh σ := by
  unfold f_X12_cutting_b81 at h
  refine E_iload_n d_X12_cutting_81 rfl ?_
  refine E_aload_n d_X12_cutting_82 rfl (by decide) ?_
  refine bd h (fun r15 q16 h => ?_)
  refine E_cV (as := []) (st := [(0, v3)]) (a := v0) d_X12_cutting_83 mk_X12_stones nl_X12_321 (by omega) ⟨rfl, rfl, Nat.le_of_ble_eq_true rfl⟩ okX12 rfl (L_X12_stones q16) ?_
  refine bd h (fun r17 q18 h => ?_)
  refine E_cS (as := [(0, r15)]) (st := [(0, v3)]) d_X12_cutting_86 mk_X12_sizeOf nl_X12_324 (by omega) ⟨rfl, rfl, Nat.le_of_ble_eq_true rfl⟩ (L_X12_sizeOf q18) ?_
  refine E_icmp_gt (tgt := 112) d_X12_cutting_89 (by decide) h (fun _ h => ?_) (fun _ h => ?_)
  · refine E_iconst d_X12_cutting_112 (c32 rfl) ?_
    cases h
    exact E_iret d_X12_cutting_113 rfl
  · refine E_aload_n d_X12_cutting_92 rfl (by decide) ?_
    refine E_iconst d_X12_cutting_93 (c32 rfl) ?_
    refine E_iload_n d_X12_cutting_94 rfl ?_
    refine E_iload_n d_X12_cutting_95 rfl ?_
    refine E_iconst d_X12_cutting_96 (c32 rfl) ?_
    refine E_iconst d_X12_cutting_97 (c32 rfl) ?_
    refine bd h (fun r19 q20 h => ?_)
    refine E_cV (as := [(0, 0), (0, v3), (0, v2), (0, 0), (0, 0)]) (st := []) (a := v0) d_X12_cutting_98 mk_X12_cutsFrom nl_X12_413 (by decide) ⟨rfl, rfl, Nat.le_of_ble_eq_true rfl⟩ okX12 rfl (L_X12_cutsFrom FR q20) ?_
    refine E_if_eq (tgt := 106) d_X12_cutting_101 (by decide) h (fun _ h => ?_) (fun _ h => ?_)
    · refine E_iinc d_X12_cutting_106 (ls' := [(2, v0), (9, 0), (0, v2), (0, w32 (v3 + 1)), (9, 0)]) rfl ⟨by decide, rfl⟩ ?_
      refine E_goto (tgt := 81) d_X12_cutting_109 (by decide) ?_
      exact (hk81 h)
    · refine E_iload_n d_X12_cutting_104 rfl ?_
      cases h
      exact E_iret d_X12_cutting_105 rfl
noncomputable def f_X12_cutting_h81 (n : Nat) : Int → Int → Int → Mem → Option (Int × Mem) := Nat.rec (motive := fun _ => Int → Int → Int → Mem → Option (Int × Mem)) (fun _ _ _ _ => none) (fun _ ih => f_X12_cutting_b81 (ih)) n
theorem L_X12_cutting_h81 {sc : Nat × (Nat → Int32)} {o : Int × Mem} : ∀ (n : Nat) {v0 v2 v3 : Int} {σ : Mem}, f_X12_cutting_h81 n v0 v2 v3 σ = some o → E sc (Fm Sh (some (0, o.1)) Sh o.2) mt_X12_cutting 201 Sh Sh 81 [(2, v0), (9, 0), (0, v2), (0, v3), (9, 0)] [] Sh σ := by
  intro n
  induction n with
  | zero => intro v0 v2 v3 σ h; cases h
  | succ n ih => intro v0 v2 v3 σ h; exact L_X12_cutting_b81 (@ih) h
noncomputable def f_X12_cutting_b2 (k2 : (Int → Int → Int → Int → Mem → Option (Int × Mem))) (v0 v1 v2 v3 : Int) (σ : Mem) : Option (Int × Mem) :=
  if v2 ≤ v3 then
    f_X12_cutting_h81 FU v0 v2 0 σ
  else
    (f_X12_numberOf v0 v1 (w32 (w32 (3 * v3) + 1)) σ).bind fun r1 =>
    (gf Sh σ 12 v0 29).bind fun x3 =>
    (f_X12_numberOf v0 v1 (w32 (3 * v3)) σ).bind fun r4 =>
    (f_X12_turnedFrom v0 (w32 r4) (w32 r1) σ).bind fun r6 =>
    (st_ Sh σ 20 x3 v3 r6).bind fun σ8 =>
    (gf Sh σ8 12 v0 30).bind fun x9 =>
    (f_X12_numberOf v0 v1 (w32 (w32 (3 * v3) + 2)) σ8).bind fun r10 =>
    (f_X12_isStoneAt v0 (w32 r1) σ8).bind fun r12 =>
    if r12 = 0 then
      f_X12_cutting_b71 k2 v0 v1 v2 v3 0 (w32 r10) v3 x9 σ8
    else
      f_X12_cutting_b71 k2 v0 v1 v2 v3 2 (w32 r10) v3 x9 σ8
theorem L_X12_cutting_b2 {sc : Nat × (Nat → Int32)} {o : Int × Mem} {k2 : (Int → Int → Int → Int → Mem → Option (Int × Mem))} (hk2 : ∀ {v0 v1 v2 v3 : Int} {σ : Mem}, k2 v0 v1 v2 v3 σ = some o → E sc (Fm Sh (some (0, o.1)) Sh o.2) mt_X12_cutting 201 Sh Sh 2 [(2, v0), (0, v1), (0, v2), (0, v3), (9, 0)] [] Sh σ) {v0 v1 v2 v3 : Int} {σ : Mem} (h : f_X12_cutting_b2 k2 v0 v1 v2 v3 σ = some o) : E sc (Fm Sh (some (0, o.1)) Sh o.2) mt_X12_cutting 201 Sh Sh 2 [(2, v0), (0, v1), (0, v2), (0, v3), (9, 0)] [] Sh σ := by
  unfold f_X12_cutting_b2 at h
  refine E_iload_n d_X12_cutting_2 rfl ?_
  refine E_iload_n d_X12_cutting_3 rfl ?_
  refine E_icmp_ge (tgt := 79) d_X12_cutting_4 (by decide) h (fun _ h => ?_) (fun _ h => ?_)
  · refine E_iconst d_X12_cutting_79 (c32 rfl) ?_
    refine E_istore_n d_X12_cutting_80 (ls' := [(2, v0), (0, v1), (0, v2), (0, 0), (9, 0)]) ⟨by decide, rfl⟩ ?_
    exact E_weak (ls' := [(2, v0), (9, 0), (0, v2), (0, 0), (9, 0)]) ⟨Or.inr rfl, Or.inl rfl, Or.inr rfl, Or.inr rfl, Or.inl rfl, trivial⟩ (L_X12_cutting_h81 FU h)
  · refine E_aload_n d_X12_cutting_7 rfl (by decide) ?_
    refine E_iload_n d_X12_cutting_8 rfl ?_
    refine E_iconst d_X12_cutting_9 (c32 rfl) ?_
    refine E_iload_n d_X12_cutting_10 rfl ?_
    refine E_imul d_X12_cutting_11 ?_
    refine E_iconst d_X12_cutting_12 (c32 rfl) ?_
    refine E_iadd d_X12_cutting_13 ?_
    refine bd h (fun r1 q2 h => ?_)
    refine E_cV (as := [(0, v1), (0, w32 (w32 (3 * v3) + 1))]) (st := []) (a := v0) d_X12_cutting_14 mk_X12_numberOf nl_X12_391 (by omega) ⟨rfl, rfl, Nat.le_of_ble_eq_true rfl⟩ okX12 rfl (L_X12_numberOf q2) ?_
    refine E_l2i d_X12_cutting_17 ?_
    refine E_istore d_X12_cutting_18 (ls' := [(2, v0), (0, v1), (0, v2), (0, v3), (0, w32 r1)]) ⟨by decide, rfl⟩ ?_
    refine E_aload_n d_X12_cutting_20 rfl (by decide) ?_
    refine E_get d_X12_cutting_21 okX12 fl_X12_51 ⟨by decide, rfl⟩ h (fun x3 h => ?_)
    refine E_iload_n d_X12_cutting_24 rfl ?_
    refine E_aload_n d_X12_cutting_25 rfl (by decide) ?_
    refine E_aload_n d_X12_cutting_26 rfl (by decide) ?_
    refine E_iload_n d_X12_cutting_27 rfl ?_
    refine E_iconst d_X12_cutting_28 (c32 rfl) ?_
    refine E_iload_n d_X12_cutting_29 rfl ?_
    refine E_imul d_X12_cutting_30 ?_
    refine bd h (fun r4 q5 h => ?_)
    refine E_cV (as := [(0, v1), (0, w32 (3 * v3))]) (st := [(2, v0), (0, v3), (2, x3)]) (a := v0) d_X12_cutting_31 mk_X12_numberOf nl_X12_391 (by omega) ⟨rfl, rfl, Nat.le_of_ble_eq_true rfl⟩ okX12 rfl (L_X12_numberOf q5) ?_
    refine E_l2i d_X12_cutting_34 ?_
    refine E_iload d_X12_cutting_35 rfl ?_
    refine bd h (fun r6 q7 h => ?_)
    refine E_cV (as := [(0, w32 r4), (0, w32 r1)]) (st := [(0, v3), (2, x3)]) (a := v0) d_X12_cutting_37 mk_X12_turnedFrom nl_X12_351 (by omega) ⟨rfl, rfl, Nat.le_of_ble_eq_true rfl⟩ okX12 rfl (L_X12_turnedFrom q7) ?_
    refine E_iastore d_X12_cutting_40 h (fun σ8 h => ?_)
    refine E_aload_n d_X12_cutting_41 rfl (by decide) ?_
    refine E_get d_X12_cutting_42 okX12 fl_X12_54 ⟨by decide, rfl⟩ h (fun x9 h => ?_)
    refine E_iload_n d_X12_cutting_45 rfl ?_
    refine E_aload_n d_X12_cutting_46 rfl (by decide) ?_
    refine E_iload_n d_X12_cutting_47 rfl ?_
    refine E_iconst d_X12_cutting_48 (c32 rfl) ?_
    refine E_iload_n d_X12_cutting_49 rfl ?_
    refine E_imul d_X12_cutting_50 ?_
    refine E_iconst d_X12_cutting_51 (c32 rfl) ?_
    refine E_iadd d_X12_cutting_52 ?_
    refine bd h (fun r10 q11 h => ?_)
    refine E_cV (as := [(0, v1), (0, w32 (w32 (3 * v3) + 2))]) (st := [(0, v3), (2, x9)]) (a := v0) d_X12_cutting_53 mk_X12_numberOf nl_X12_391 (by omega) ⟨rfl, rfl, Nat.le_of_ble_eq_true rfl⟩ okX12 rfl (L_X12_numberOf q11) ?_
    refine E_l2i d_X12_cutting_56 ?_
    refine E_aload_n d_X12_cutting_57 rfl (by decide) ?_
    refine E_iload d_X12_cutting_58 rfl ?_
    refine bd h (fun r12 q13 h => ?_)
    refine E_cV (as := [(0, w32 r1)]) (st := [(0, w32 r10), (0, v3), (2, x9)]) (a := v0) d_X12_cutting_60 mk_X12_isStoneAt nl_X12_305 (by omega) ⟨rfl, rfl, Nat.le_of_ble_eq_true rfl⟩ okX12 rfl (L_X12_isStoneAt q13) ?_
    refine E_if_eq (tgt := 70) d_X12_cutting_63 (by decide) h (fun _ h => ?_) (fun _ h => ?_)
    · refine E_iconst d_X12_cutting_70 (c32 rfl) ?_
      exact E_weak (ls' := [(2, v0), (0, v1), (0, v2), (0, v3), (9, 0)]) ⟨Or.inr rfl, Or.inr rfl, Or.inr rfl, Or.inr rfl, Or.inl rfl, trivial⟩ (L_X12_cutting_b71 hk2 h)
    · refine E_iconst d_X12_cutting_66 (c32 rfl) ?_
      refine E_goto (tgt := 71) d_X12_cutting_67 (by decide) ?_
      exact E_weak (ls' := [(2, v0), (0, v1), (0, v2), (0, v3), (9, 0)]) ⟨Or.inr rfl, Or.inr rfl, Or.inr rfl, Or.inr rfl, Or.inl rfl, trivial⟩ (L_X12_cutting_b71 hk2 h)
noncomputable def f_X12_cutting_h2 (n : Nat) : Int → Int → Int → Int → Mem → Option (Int × Mem) := Nat.rec (motive := fun _ => Int → Int → Int → Int → Mem → Option (Int × Mem)) (fun _ _ _ _ _ => none) (fun _ ih => f_X12_cutting_b2 (ih)) n
theorem L_X12_cutting_h2 {sc : Nat × (Nat → Int32)} {o : Int × Mem} : ∀ (n : Nat) {v0 v1 v2 v3 : Int} {σ : Mem}, f_X12_cutting_h2 n v0 v1 v2 v3 σ = some o → E sc (Fm Sh (some (0, o.1)) Sh o.2) mt_X12_cutting 201 Sh Sh 2 [(2, v0), (0, v1), (0, v2), (0, v3), (9, 0)] [] Sh σ := by
  intro n
  induction n with
  | zero => intro v0 v1 v2 v3 σ h; cases h
  | succ n ih => intro v0 v1 v2 v3 σ h; exact L_X12_cutting_b2 (@ih) h
noncomputable def f_X12_cutting_b0 (v0 v1 v2 : Int) (σ : Mem) : Option (Int × Mem) :=
  f_X12_cutting_h2 FU v0 v1 v2 0 σ
theorem L_X12_cutting_b0 {sc : Nat × (Nat → Int32)} {o : Int × Mem} {v0 v1 v2 : Int} {σ : Mem} (h : f_X12_cutting_b0 v0 v1 v2 σ = some o) : E sc (Fm Sh (some (0, o.1)) Sh o.2) mt_X12_cutting 201 Sh Sh 0 [(2, v0), (0, v1), (0, v2), (9, 0), (9, 0)] [] Sh σ := by
  unfold f_X12_cutting_b0 at h
  refine E_iconst d_X12_cutting_0 (c32 rfl) ?_
  refine E_istore_n d_X12_cutting_1 (ls' := [(2, v0), (0, v1), (0, v2), (0, 0), (9, 0)]) ⟨by decide, rfl⟩ ?_
  exact (L_X12_cutting_h2 FU h)
noncomputable def f_X12_cutting (v0 v1 v2 : Int) (σ : Mem) : Option (Int × Mem) := if isO Sh 12 v0 = true then f_X12_cutting_b0 v0 v1 v2 σ else none
theorem L_X12_cutting {o : Int × Mem} {v0 v1 v2 : Int} {σ : Mem} (h : f_X12_cutting v0 v1 v2 σ = some o) : (isO Sh 12 v0 = true ∧ Cn mt_X12_cutting 201 [(2, v0), (0, v1), (0, v2)] Sh σ (some (0, o.1)) Sh o.2) := ⟨(ite_ok h).1, Cn_of mk_X12_cutting.1.2.2.1 (Nat.le_of_ble_eq_true rfl) (fun sc => L_X12_cutting_b0 (ite_ok h).2)⟩
theorem d_X12_cuts_0 : decode mt_X12_cuts.2.1 0 = .ok (.aload_n 0, 1) := by decide +kernel
theorem d_X12_cuts_1 : decode mt_X12_cuts.2.1 1 = .ok (.iconst 0, 1) := by decide +kernel
theorem d_X12_cuts_2 : decode mt_X12_cuts.2.1 2 = .ok (.putfield 70, 3) := by decide +kernel
theorem d_X12_cuts_5 : decode mt_X12_cuts.2.1 5 = .ok (.aload_n 0, 1) := by decide +kernel
theorem d_X12_cuts_6 : decode mt_X12_cuts.2.1 6 = .ok (.aload_n 0, 1) := by decide +kernel
theorem d_X12_cuts_7 : decode mt_X12_cuts.2.1 7 = .ok (.iload_n 1, 1) := by decide +kernel
theorem d_X12_cuts_8 : decode mt_X12_cuts.2.1 8 = .ok (.iload_n 2, 1) := by decide +kernel
theorem d_X12_cuts_9 : decode mt_X12_cuts.2.1 9 = .ok (.invokevirtual 417, 3) := by decide +kernel
theorem d_X12_cuts_12 : decode mt_X12_cuts.2.1 12 = .ok (.putfield 73, 3) := by decide +kernel
theorem d_X12_cuts_15 : decode mt_X12_cuts.2.1 15 = .ok (.aload_n 0, 1) := by decide +kernel
theorem d_X12_cuts_16 : decode mt_X12_cuts.2.1 16 = .ok (.getfield 73, 3) := by decide +kernel
theorem d_X12_cuts_19 : decode mt_X12_cuts.2.1 19 = .ok (.ifCond .le 5, 3) := by decide +kernel
theorem d_X12_cuts_22 : decode mt_X12_cuts.2.1 22 = .ok (.iconst (-1), 1) := by decide +kernel
theorem d_X12_cuts_23 : decode mt_X12_cuts.2.1 23 = .ok (.ireturn, 1) := by decide +kernel
theorem d_X12_cuts_24 : decode mt_X12_cuts.2.1 24 = .ok (.aload_n 0, 1) := by decide +kernel
theorem d_X12_cuts_25 : decode mt_X12_cuts.2.1 25 = .ok (.iload_n 1, 1) := by decide +kernel
theorem d_X12_cuts_26 : decode mt_X12_cuts.2.1 26 = .ok (.iload_n 2, 1) := by decide +kernel
theorem d_X12_cuts_27 : decode mt_X12_cuts.2.1 27 = .ok (.invokevirtual 420, 3) := by decide +kernel
theorem d_X12_cuts_30 : decode mt_X12_cuts.2.1 30 = .ok (.istore_n 3, 1) := by decide +kernel
theorem d_X12_cuts_31 : decode mt_X12_cuts.2.1 31 = .ok (.iload_n 3, 1) := by decide +kernel
theorem d_X12_cuts_32 : decode mt_X12_cuts.2.1 32 = .ok (.ifCond .ge 12, 3) := by decide +kernel
theorem d_X12_cuts_35 : decode mt_X12_cuts.2.1 35 = .ok (.aload_n 0, 1) := by decide +kernel
theorem d_X12_cuts_36 : decode mt_X12_cuts.2.1 36 = .ok (.bipush 8, 2) := by decide +kernel
theorem d_X12_cuts_38 : decode mt_X12_cuts.2.1 38 = .ok (.invokevirtual 318, 3) := by decide +kernel
theorem d_X12_cuts_41 : decode mt_X12_cuts.2.1 41 = .ok (.goto 4, 3) := by decide +kernel
theorem d_X12_cuts_44 : decode mt_X12_cuts.2.1 44 = .ok (.iload_n 3, 1) := by decide +kernel
theorem d_X12_cuts_45 : decode mt_X12_cuts.2.1 45 = .ok (.ireturn, 1) := by decide +kernel
noncomputable def f_X12_cuts_b0 (v0 v1 v2 : Int) (σ : Mem) : Option (Int × Mem) :=
  (pf Sh σ 12 v0 1 0).bind fun σ1 =>
  (f_X12_whyNoCuts v0 v1 v2 σ1).bind fun r2 =>
  (pf Sh σ1 12 v0 0 r2).bind fun σ4 =>
  (gf Sh σ4 12 v0 0).bind fun x5 =>
  if x5 ≤ 0 then
    (f_X12_cutting v0 v1 v2 σ4).bind fun r6 =>
    if 0 ≤ r6.1 then
      some (r6.1, r6.2)
    else
      (f_X12_refuse v0 8 r6.2).bind fun r8 =>
      some (r8.1, r8.2)
  else
    some ((-1), σ4)
theorem L_X12_cuts_b0 {sc : Nat × (Nat → Int32)} {o : Int × Mem} {v0 v1 v2 : Int} {σ : Mem} (h : f_X12_cuts_b0 v0 v1 v2 σ = some o) : E sc (Fm Sh (some (0, o.1)) Sh o.2) mt_X12_cuts 202 Sh Sh 0 [(2, v0), (0, v1), (0, v2), (9, 0)] [] Sh σ := by
  unfold f_X12_cuts_b0 at h
  refine E_aload_n d_X12_cuts_0 rfl (by decide) ?_
  refine E_iconst d_X12_cuts_1 (c32 rfl) ?_
  refine E_put d_X12_cuts_2 okX12 fl_X12_70 ⟨by decide, rfl⟩ (Or.inl ⟨rfl, rfl⟩) (Or.inl rfl) h (fun σ1 h => ?_)
  refine E_aload_n d_X12_cuts_5 rfl (by decide) ?_
  refine E_aload_n d_X12_cuts_6 rfl (by decide) ?_
  refine E_iload_n d_X12_cuts_7 rfl ?_
  refine E_iload_n d_X12_cuts_8 rfl ?_
  refine bd h (fun r2 q3 h => ?_)
  refine E_cV (as := [(0, v1), (0, v2)]) (st := [(2, v0)]) (a := v0) d_X12_cuts_9 mk_X12_whyNoCuts nl_X12_417 (by omega) ⟨rfl, rfl, Nat.le_of_ble_eq_true rfl⟩ okX12 rfl (L_X12_whyNoCuts q3) ?_
  refine E_put d_X12_cuts_12 okX12 fl_X12_73 ⟨by decide, rfl⟩ (Or.inl ⟨rfl, rfl⟩) (Or.inl rfl) h (fun σ4 h => ?_)
  refine E_aload_n d_X12_cuts_15 rfl (by decide) ?_
  refine E_get d_X12_cuts_16 okX12 fl_X12_73 ⟨by decide, rfl⟩ h (fun x5 h => ?_)
  refine E_if_le (tgt := 24) d_X12_cuts_19 (by decide) h (fun _ h => ?_) (fun _ h => ?_)
  · refine E_aload_n d_X12_cuts_24 rfl (by decide) ?_
    refine E_iload_n d_X12_cuts_25 rfl ?_
    refine E_iload_n d_X12_cuts_26 rfl ?_
    refine bd h (fun r6 q7 h => ?_)
    refine E_cV (as := [(0, v1), (0, v2)]) (st := []) (a := v0) d_X12_cuts_27 mk_X12_cutting nl_X12_420 (by omega) ⟨rfl, rfl, Nat.le_of_ble_eq_true rfl⟩ okX12 rfl (L_X12_cutting q7) ?_
    refine E_istore_n d_X12_cuts_30 (ls' := [(2, v0), (0, v1), (0, v2), (0, r6.1)]) ⟨by decide, rfl⟩ ?_
    refine E_iload_n d_X12_cuts_31 rfl ?_
    refine E_if_ge (tgt := 44) d_X12_cuts_32 (by decide) h (fun _ h => ?_) (fun _ h => ?_)
    · refine E_iload_n d_X12_cuts_44 rfl ?_
      cases h
      exact E_iret d_X12_cuts_45 rfl
    · refine E_aload_n d_X12_cuts_35 rfl (by decide) ?_
      refine E_bipush d_X12_cuts_36 (c8 rfl) ?_
      refine bd h (fun r8 q9 h => ?_)
      refine E_cV (as := [(0, 8)]) (st := []) (a := v0) d_X12_cuts_38 mk_X12_refuse nl_X12_318 (by omega) ⟨rfl, rfl, Nat.le_of_ble_eq_true rfl⟩ okX12 rfl (L_X12_refuse q9) ?_
      refine E_goto (tgt := 45) d_X12_cuts_41 (by decide) ?_
      cases h
      exact E_iret d_X12_cuts_45 rfl
  · refine E_iconst d_X12_cuts_22 (c32 rfl) ?_
    cases h
    exact E_iret d_X12_cuts_23 rfl
noncomputable def f_X12_cuts (v0 v1 v2 : Int) (σ : Mem) : Option (Int × Mem) := if isO Sh 12 v0 = true then f_X12_cuts_b0 v0 v1 v2 σ else none
theorem L_X12_cuts {o : Int × Mem} {v0 v1 v2 : Int} {σ : Mem} (h : f_X12_cuts v0 v1 v2 σ = some o) : (isO Sh 12 v0 = true ∧ Cn mt_X12_cuts 202 [(2, v0), (0, v1), (0, v2)] Sh σ (some (0, o.1)) Sh o.2) := ⟨(ite_ok h).1, Cn_of mk_X12_cuts.1.2.2.1 (Nat.le_of_ble_eq_true rfl) (fun sc => L_X12_cuts_b0 (ite_ok h).2)⟩
theorem d_X12_cutOf_0 : decode mt_X12_cutOf.2.1 0 = .ok (.aload_n 0, 1) := by decide +kernel
theorem d_X12_cutOf_1 : decode mt_X12_cutOf.2.1 1 = .ok (.iconst 0, 1) := by decide +kernel
theorem d_X12_cutOf_2 : decode mt_X12_cutOf.2.1 2 = .ok (.putfield 70, 3) := by decide +kernel
theorem d_X12_cutOf_5 : decode mt_X12_cutOf.2.1 5 = .ok (.aload_n 0, 1) := by decide +kernel
theorem d_X12_cutOf_6 : decode mt_X12_cutOf.2.1 6 = .ok (.aload_n 0, 1) := by decide +kernel
theorem d_X12_cutOf_7 : decode mt_X12_cutOf.2.1 7 = .ok (.iload_n 1, 1) := by decide +kernel
theorem d_X12_cutOf_8 : decode mt_X12_cutOf.2.1 8 = .ok (.iload_n 2, 1) := by decide +kernel
theorem d_X12_cutOf_9 : decode mt_X12_cutOf.2.1 9 = .ok (.invokevirtual 417, 3) := by decide +kernel
theorem d_X12_cutOf_12 : decode mt_X12_cutOf.2.1 12 = .ok (.putfield 73, 3) := by decide +kernel
theorem d_X12_cutOf_15 : decode mt_X12_cutOf.2.1 15 = .ok (.aload_n 0, 1) := by decide +kernel
theorem d_X12_cutOf_16 : decode mt_X12_cutOf.2.1 16 = .ok (.getfield 73, 3) := by decide +kernel
theorem d_X12_cutOf_19 : decode mt_X12_cutOf.2.1 19 = .ok (.iconst 1, 1) := by decide +kernel
theorem d_X12_cutOf_20 : decode mt_X12_cutOf.2.1 20 = .ok (.if_icmp .eq 17, 3) := by decide +kernel
theorem d_X12_cutOf_23 : decode mt_X12_cutOf.2.1 23 = .ok (.aload_n 0, 1) := by decide +kernel
theorem d_X12_cutOf_24 : decode mt_X12_cutOf.2.1 24 = .ok (.iload_n 3, 1) := by decide +kernel
theorem d_X12_cutOf_25 : decode mt_X12_cutOf.2.1 25 = .ok (.i2l, 1) := by decide +kernel
theorem d_X12_cutOf_26 : decode mt_X12_cutOf.2.1 26 = .ok (.invokevirtual 330, 3) := by decide +kernel
theorem d_X12_cutOf_29 : decode mt_X12_cutOf.2.1 29 = .ok (.ifCond .ne 8, 3) := by decide +kernel
theorem d_X12_cutOf_32 : decode mt_X12_cutOf.2.1 32 = .ok (.aload_n 0, 1) := by decide +kernel
theorem d_X12_cutOf_33 : decode mt_X12_cutOf.2.1 33 = .ok (.iconst 2, 1) := by decide +kernel
theorem d_X12_cutOf_34 : decode mt_X12_cutOf.2.1 34 = .ok (.putfield 73, 3) := by decide +kernel
theorem d_X12_cutOf_37 : decode mt_X12_cutOf.2.1 37 = .ok (.aload_n 0, 1) := by decide +kernel
theorem d_X12_cutOf_38 : decode mt_X12_cutOf.2.1 38 = .ok (.getfield 73, 3) := by decide +kernel
theorem d_X12_cutOf_41 : decode mt_X12_cutOf.2.1 41 = .ok (.ifCond .le 5, 3) := by decide +kernel
theorem d_X12_cutOf_44 : decode mt_X12_cutOf.2.1 44 = .ok (.iconst (-1), 1) := by decide +kernel
theorem d_X12_cutOf_45 : decode mt_X12_cutOf.2.1 45 = .ok (.ireturn, 1) := by decide +kernel
theorem d_X12_cutOf_46 : decode mt_X12_cutOf.2.1 46 = .ok (.aload_n 0, 1) := by decide +kernel
theorem d_X12_cutOf_47 : decode mt_X12_cutOf.2.1 47 = .ok (.iload_n 1, 1) := by decide +kernel
theorem d_X12_cutOf_48 : decode mt_X12_cutOf.2.1 48 = .ok (.iload_n 2, 1) := by decide +kernel
theorem d_X12_cutOf_49 : decode mt_X12_cutOf.2.1 49 = .ok (.invokevirtual 420, 3) := by decide +kernel
theorem d_X12_cutOf_52 : decode mt_X12_cutOf.2.1 52 = .ok (.ifCond .ge 12, 3) := by decide +kernel
theorem d_X12_cutOf_55 : decode mt_X12_cutOf.2.1 55 = .ok (.aload_n 0, 1) := by decide +kernel
theorem d_X12_cutOf_56 : decode mt_X12_cutOf.2.1 56 = .ok (.bipush 8, 2) := by decide +kernel
theorem d_X12_cutOf_58 : decode mt_X12_cutOf.2.1 58 = .ok (.invokevirtual 318, 3) := by decide +kernel
theorem d_X12_cutOf_61 : decode mt_X12_cutOf.2.1 61 = .ok (.goto 9, 3) := by decide +kernel
theorem d_X12_cutOf_64 : decode mt_X12_cutOf.2.1 64 = .ok (.aload_n 0, 1) := by decide +kernel
theorem d_X12_cutOf_65 : decode mt_X12_cutOf.2.1 65 = .ok (.getfield 57, 3) := by decide +kernel
theorem d_X12_cutOf_68 : decode mt_X12_cutOf.2.1 68 = .ok (.iload_n 3, 1) := by decide +kernel
theorem d_X12_cutOf_69 : decode mt_X12_cutOf.2.1 69 = .ok (.iaload, 1) := by decide +kernel
theorem d_X12_cutOf_70 : decode mt_X12_cutOf.2.1 70 = .ok (.ireturn, 1) := by decide +kernel
noncomputable def f_X12_cutOf_b37 (v0 v1 v2 v3 : Int) (σ : Mem) : Option (Int × Mem) :=
  (gf Sh σ 12 v0 0).bind fun x9 =>
  if x9 ≤ 0 then
    (f_X12_cutting v0 v1 v2 σ).bind fun r10 =>
    if 0 ≤ r10.1 then
      (gf Sh r10.2 12 v0 31).bind fun x12 =>
      (al Sh r10.2 20 x12 v3).bind fun x13 =>
      some (x13, r10.2)
    else
      (f_X12_refuse v0 8 r10.2).bind fun r14 =>
      some (r14.1, r14.2)
  else
    some ((-1), σ)
theorem L_X12_cutOf_b37 {sc : Nat × (Nat → Int32)} {o : Int × Mem} {v0 v1 v2 v3 : Int} {σ : Mem} (h : f_X12_cutOf_b37 v0 v1 v2 v3 σ = some o) : E sc (Fm Sh (some (0, o.1)) Sh o.2) mt_X12_cutOf 202 Sh Sh 37 [(2, v0), (0, v1), (0, v2), (0, v3)] [] Sh σ := by
  unfold f_X12_cutOf_b37 at h
  refine E_aload_n d_X12_cutOf_37 rfl (by decide) ?_
  refine E_get d_X12_cutOf_38 okX12 fl_X12_73 ⟨by decide, rfl⟩ h (fun x9 h => ?_)
  refine E_if_le (tgt := 46) d_X12_cutOf_41 (by decide) h (fun _ h => ?_) (fun _ h => ?_)
  · refine E_aload_n d_X12_cutOf_46 rfl (by decide) ?_
    refine E_iload_n d_X12_cutOf_47 rfl ?_
    refine E_iload_n d_X12_cutOf_48 rfl ?_
    refine bd h (fun r10 q11 h => ?_)
    refine E_cV (as := [(0, v1), (0, v2)]) (st := []) (a := v0) d_X12_cutOf_49 mk_X12_cutting nl_X12_420 (by omega) ⟨rfl, rfl, Nat.le_of_ble_eq_true rfl⟩ okX12 rfl (L_X12_cutting q11) ?_
    refine E_if_ge (tgt := 64) d_X12_cutOf_52 (by decide) h (fun _ h => ?_) (fun _ h => ?_)
    · refine E_aload_n d_X12_cutOf_64 rfl (by decide) ?_
      refine E_get d_X12_cutOf_65 okX12 fl_X12_57 ⟨by decide, rfl⟩ h (fun x12 h => ?_)
      refine E_iload_n d_X12_cutOf_68 rfl ?_
      refine E_iaload d_X12_cutOf_69 h (fun x13 h => ?_)
      cases h
      exact E_iret d_X12_cutOf_70 rfl
    · refine E_aload_n d_X12_cutOf_55 rfl (by decide) ?_
      refine E_bipush d_X12_cutOf_56 (c8 rfl) ?_
      refine bd h (fun r14 q15 h => ?_)
      refine E_cV (as := [(0, 8)]) (st := []) (a := v0) d_X12_cutOf_58 mk_X12_refuse nl_X12_318 (by omega) ⟨rfl, rfl, Nat.le_of_ble_eq_true rfl⟩ okX12 rfl (L_X12_refuse q15) ?_
      refine E_goto (tgt := 70) d_X12_cutOf_61 (by decide) ?_
      cases h
      exact E_iret d_X12_cutOf_70 rfl
  · refine E_iconst d_X12_cutOf_44 (c32 rfl) ?_
    cases h
    exact E_iret d_X12_cutOf_45 rfl
noncomputable def f_X12_cutOf_b0 (v0 v1 v2 v3 : Int) (σ : Mem) : Option (Int × Mem) :=
  (pf Sh σ 12 v0 1 0).bind fun σ1 =>
  (f_X12_whyNoCuts v0 v1 v2 σ1).bind fun r2 =>
  (pf Sh σ1 12 v0 0 r2).bind fun σ4 =>
  (gf Sh σ4 12 v0 0).bind fun x5 =>
  if x5 = 1 then
    f_X12_cutOf_b37 v0 v1 v2 v3 σ4
  else
    (f_X12_isPlaceAt v0 v3 σ4).bind fun r6 =>
    if r6 = 0 then
      (pf Sh σ4 12 v0 0 2).bind fun σ8 =>
      f_X12_cutOf_b37 v0 v1 v2 v3 σ8
    else
      f_X12_cutOf_b37 v0 v1 v2 v3 σ4
theorem L_X12_cutOf_b0 {sc : Nat × (Nat → Int32)} {o : Int × Mem} {v0 v1 v2 v3 : Int} {σ : Mem} (h : f_X12_cutOf_b0 v0 v1 v2 v3 σ = some o) : E sc (Fm Sh (some (0, o.1)) Sh o.2) mt_X12_cutOf 202 Sh Sh 0 [(2, v0), (0, v1), (0, v2), (0, v3)] [] Sh σ := by
  unfold f_X12_cutOf_b0 at h
  refine E_aload_n d_X12_cutOf_0 rfl (by decide) ?_
  refine E_iconst d_X12_cutOf_1 (c32 rfl) ?_
  refine E_put d_X12_cutOf_2 okX12 fl_X12_70 ⟨by decide, rfl⟩ (Or.inl ⟨rfl, rfl⟩) (Or.inl rfl) h (fun σ1 h => ?_)
  refine E_aload_n d_X12_cutOf_5 rfl (by decide) ?_
  refine E_aload_n d_X12_cutOf_6 rfl (by decide) ?_
  refine E_iload_n d_X12_cutOf_7 rfl ?_
  refine E_iload_n d_X12_cutOf_8 rfl ?_
  refine bd h (fun r2 q3 h => ?_)
  refine E_cV (as := [(0, v1), (0, v2)]) (st := [(2, v0)]) (a := v0) d_X12_cutOf_9 mk_X12_whyNoCuts nl_X12_417 (by omega) ⟨rfl, rfl, Nat.le_of_ble_eq_true rfl⟩ okX12 rfl (L_X12_whyNoCuts q3) ?_
  refine E_put d_X12_cutOf_12 okX12 fl_X12_73 ⟨by decide, rfl⟩ (Or.inl ⟨rfl, rfl⟩) (Or.inl rfl) h (fun σ4 h => ?_)
  refine E_aload_n d_X12_cutOf_15 rfl (by decide) ?_
  refine E_get d_X12_cutOf_16 okX12 fl_X12_73 ⟨by decide, rfl⟩ h (fun x5 h => ?_)
  refine E_iconst d_X12_cutOf_19 (c32 rfl) ?_
  refine E_icmp_eq (tgt := 37) d_X12_cutOf_20 (by decide) h (fun _ h => ?_) (fun _ h => ?_)
  · exact (L_X12_cutOf_b37 h)
  · refine E_aload_n d_X12_cutOf_23 rfl (by decide) ?_
    refine E_iload_n d_X12_cutOf_24 rfl ?_
    refine E_i2l d_X12_cutOf_25 ?_
    refine bd h (fun r6 q7 h => ?_)
    refine E_cV (as := [(1, v3)]) (st := []) (a := v0) d_X12_cutOf_26 mk_X12_isPlaceAt nl_X12_330 (by omega) ⟨rfl, rfl, Nat.le_of_ble_eq_true rfl⟩ okX12 rfl (L_X12_isPlaceAt q7) ?_
    refine E_if_ne (tgt := 37) d_X12_cutOf_29 (by decide) h (fun _ h => ?_) (fun _ h => ?_)
    · refine E_aload_n d_X12_cutOf_32 rfl (by decide) ?_
      refine E_iconst d_X12_cutOf_33 (c32 rfl) ?_
      refine E_put d_X12_cutOf_34 okX12 fl_X12_73 ⟨by decide, rfl⟩ (Or.inl ⟨rfl, rfl⟩) (Or.inl rfl) h (fun σ8 h => ?_)
      exact (L_X12_cutOf_b37 h)
    · exact (L_X12_cutOf_b37 h)
noncomputable def f_X12_cutOf (v0 v1 v2 v3 : Int) (σ : Mem) : Option (Int × Mem) := if isO Sh 12 v0 = true then f_X12_cutOf_b0 v0 v1 v2 v3 σ else none
theorem L_X12_cutOf {o : Int × Mem} {v0 v1 v2 v3 : Int} {σ : Mem} (h : f_X12_cutOf v0 v1 v2 v3 σ = some o) : (isO Sh 12 v0 = true ∧ Cn mt_X12_cutOf 202 [(2, v0), (0, v1), (0, v2), (0, v3)] Sh σ (some (0, o.1)) Sh o.2) := ⟨(ite_ok h).1, Cn_of mk_X12_cutOf.1.2.2.1 (Nat.le_of_ble_eq_true rfl) (fun sc => L_X12_cutOf_b0 (ite_ok h).2)⟩
theorem d_X12_whyNoWindows_0 : decode mt_X12_whyNoWindows.2.1 0 = .ok (.aload_n 0, 1) := by decide +kernel
theorem d_X12_whyNoWindows_1 : decode mt_X12_whyNoWindows.2.1 1 = .ok (.iload_n 1, 1) := by decide +kernel
theorem d_X12_whyNoWindows_2 : decode mt_X12_whyNoWindows.2.1 2 = .ok (.iload_n 2, 1) := by decide +kernel
theorem d_X12_whyNoWindows_3 : decode mt_X12_whyNoWindows.2.1 3 = .ok (.invokevirtual 363, 3) := by decide +kernel
theorem d_X12_whyNoWindows_6 : decode mt_X12_whyNoWindows.2.1 6 = .ok (.istore_n 3, 1) := by decide +kernel
theorem d_X12_whyNoWindows_7 : decode mt_X12_whyNoWindows.2.1 7 = .ok (.iload_n 3, 1) := by decide +kernel
theorem d_X12_whyNoWindows_8 : decode mt_X12_whyNoWindows.2.1 8 = .ok (.ifCond .le 7, 3) := by decide +kernel
theorem d_X12_whyNoWindows_11 : decode mt_X12_whyNoWindows.2.1 11 = .ok (.iload_n 3, 1) := by decide +kernel
theorem d_X12_whyNoWindows_12 : decode mt_X12_whyNoWindows.2.1 12 = .ok (.goto 17, 3) := by decide +kernel
theorem d_X12_whyNoWindows_15 : decode mt_X12_whyNoWindows.2.1 15 = .ok (.aload_n 0, 1) := by decide +kernel
theorem d_X12_whyNoWindows_16 : decode mt_X12_whyNoWindows.2.1 16 = .ok (.iload_n 2, 1) := by decide +kernel
theorem d_X12_whyNoWindows_17 : decode mt_X12_whyNoWindows.2.1 17 = .ok (.invokevirtual 305, 3) := by decide +kernel
theorem d_X12_whyNoWindows_20 : decode mt_X12_whyNoWindows.2.1 20 = .ok (.ifCond .eq 7, 3) := by decide +kernel
theorem d_X12_whyNoWindows_23 : decode mt_X12_whyNoWindows.2.1 23 = .ok (.iconst 0, 1) := by decide +kernel
theorem d_X12_whyNoWindows_24 : decode mt_X12_whyNoWindows.2.1 24 = .ok (.goto 5, 3) := by decide +kernel
theorem d_X12_whyNoWindows_27 : decode mt_X12_whyNoWindows.2.1 27 = .ok (.bipush 9, 2) := by decide +kernel
theorem d_X12_whyNoWindows_29 : decode mt_X12_whyNoWindows.2.1 29 = .ok (.ireturn, 1) := by decide +kernel
noncomputable def f_X12_whyNoWindows_b0 (v0 v1 v2 : Int) (σ : Mem) : Option (Int) :=
  (f_X12_whyNoTrial v0 v1 v2 σ).bind fun r1 =>
  if r1 ≤ 0 then
    (f_X12_isStoneAt v0 v2 σ).bind fun r3 =>
    if r3 = 0 then
      some (9)
    else
      some (0)
  else
    some (r1)
theorem L_X12_whyNoWindows_b0 {sc : Nat × (Nat → Int32)} {o : Int} {σ : Mem} {v0 v1 v2 : Int} (h : f_X12_whyNoWindows_b0 v0 v1 v2 σ = some o) : E sc (Fm Sh (some (0, o)) Sh σ) mt_X12_whyNoWindows 4 Sh Sh 0 [(2, v0), (0, v1), (0, v2), (9, 0)] [] Sh σ := by
  unfold f_X12_whyNoWindows_b0 at h
  refine E_aload_n d_X12_whyNoWindows_0 rfl (by decide) ?_
  refine E_iload_n d_X12_whyNoWindows_1 rfl ?_
  refine E_iload_n d_X12_whyNoWindows_2 rfl ?_
  refine bd h (fun r1 q2 h => ?_)
  refine E_cV (as := [(0, v1), (0, v2)]) (st := []) (a := v0) d_X12_whyNoWindows_3 mk_X12_whyNoTrial nl_X12_363 (by omega) ⟨rfl, rfl, Nat.le_of_ble_eq_true rfl⟩ okX12 rfl (L_X12_whyNoTrial q2) ?_
  refine E_istore_n d_X12_whyNoWindows_6 (ls' := [(2, v0), (0, v1), (0, v2), (0, r1)]) ⟨by decide, rfl⟩ ?_
  refine E_iload_n d_X12_whyNoWindows_7 rfl ?_
  refine E_if_le (tgt := 15) d_X12_whyNoWindows_8 (by decide) h (fun _ h => ?_) (fun _ h => ?_)
  · refine E_aload_n d_X12_whyNoWindows_15 rfl (by decide) ?_
    refine E_iload_n d_X12_whyNoWindows_16 rfl ?_
    refine bd h (fun r3 q4 h => ?_)
    refine E_cV (as := [(0, v2)]) (st := []) (a := v0) d_X12_whyNoWindows_17 mk_X12_isStoneAt nl_X12_305 (by omega) ⟨rfl, rfl, Nat.le_of_ble_eq_true rfl⟩ okX12 rfl (L_X12_isStoneAt q4) ?_
    refine E_if_eq (tgt := 27) d_X12_whyNoWindows_20 (by decide) h (fun _ h => ?_) (fun _ h => ?_)
    · refine E_bipush d_X12_whyNoWindows_27 (c8 rfl) ?_
      cases h
      exact E_iret d_X12_whyNoWindows_29 rfl
    · refine E_iconst d_X12_whyNoWindows_23 (c32 rfl) ?_
      refine E_goto (tgt := 29) d_X12_whyNoWindows_24 (by decide) ?_
      cases h
      exact E_iret d_X12_whyNoWindows_29 rfl
  · refine E_iload_n d_X12_whyNoWindows_11 rfl ?_
    refine E_goto (tgt := 29) d_X12_whyNoWindows_12 (by decide) ?_
    cases h
    exact E_iret d_X12_whyNoWindows_29 rfl
noncomputable def f_X12_whyNoWindows (v0 v1 v2 : Int) (σ : Mem) : Option (Int) := if isO Sh 12 v0 = true then f_X12_whyNoWindows_b0 v0 v1 v2 σ else none
theorem L_X12_whyNoWindows {o : Int} {v0 v1 v2 : Int} {σ : Mem} (h : f_X12_whyNoWindows v0 v1 v2 σ = some o) : (isO Sh 12 v0 = true ∧ Cn mt_X12_whyNoWindows 4 [(2, v0), (0, v1), (0, v2)] Sh σ (some (0, o)) Sh σ) := ⟨(ite_ok h).1, Cn_of mk_X12_whyNoWindows.1.2.2.1 (Nat.le_of_ble_eq_true rfl) (fun sc => L_X12_whyNoWindows_b0 (ite_ok h).2)⟩
theorem d_X12_windowsFor_0 : decode mt_X12_windowsFor.2.1 0 = .ok (.iconst (-1), 1) := by decide +kernel
theorem d_X12_windowsFor_1 : decode mt_X12_windowsFor.2.1 1 = .ok (.istore_n 3, 1) := by decide +kernel
theorem d_X12_windowsFor_2 : decode mt_X12_windowsFor.2.1 2 = .ok (.aload_n 0, 1) := by decide +kernel
theorem d_X12_windowsFor_3 : decode mt_X12_windowsFor.2.1 3 = .ok (.iload_n 1, 1) := by decide +kernel
theorem d_X12_windowsFor_4 : decode mt_X12_windowsFor.2.1 4 = .ok (.iload_n 2, 1) := by decide +kernel
theorem d_X12_windowsFor_5 : decode mt_X12_windowsFor.2.1 5 = .ok (.invokevirtual 351, 3) := by decide +kernel
theorem d_X12_windowsFor_8 : decode mt_X12_windowsFor.2.1 8 = .ok (.istore 4, 2) := by decide +kernel
theorem d_X12_windowsFor_10 : decode mt_X12_windowsFor.2.1 10 = .ok (.aload_n 0, 1) := by decide +kernel
theorem d_X12_windowsFor_11 : decode mt_X12_windowsFor.2.1 11 = .ok (.invokevirtual 321, 3) := by decide +kernel
theorem d_X12_windowsFor_14 : decode mt_X12_windowsFor.2.1 14 = .ok (.istore 5, 2) := by decide +kernel
theorem d_X12_windowsFor_16 : decode mt_X12_windowsFor.2.1 16 = .ok (.aload_n 0, 1) := by decide +kernel
theorem d_X12_windowsFor_17 : decode mt_X12_windowsFor.2.1 17 = .ok (.iload 4, 2) := by decide +kernel
theorem d_X12_windowsFor_19 : decode mt_X12_windowsFor.2.1 19 = .ok (.iload 5, 2) := by decide +kernel
theorem d_X12_windowsFor_21 : decode mt_X12_windowsFor.2.1 21 = .ok (.invokevirtual 354, 3) := by decide +kernel
theorem d_X12_windowsFor_24 : decode mt_X12_windowsFor.2.1 24 = .ok (.istore 6, 2) := by decide +kernel
theorem d_X12_windowsFor_26 : decode mt_X12_windowsFor.2.1 26 = .ok (.iconst 0, 1) := by decide +kernel
theorem d_X12_windowsFor_27 : decode mt_X12_windowsFor.2.1 27 = .ok (.istore 7, 2) := by decide +kernel
theorem d_X12_windowsFor_29 : decode mt_X12_windowsFor.2.1 29 = .ok (.iload 7, 2) := by decide +kernel
theorem d_X12_windowsFor_31 : decode mt_X12_windowsFor.2.1 31 = .ok (.iconst 1, 1) := by decide +kernel
theorem d_X12_windowsFor_32 : decode mt_X12_windowsFor.2.1 32 = .ok (.aload_n 0, 1) := by decide +kernel
theorem d_X12_windowsFor_33 : decode mt_X12_windowsFor.2.1 33 = .ok (.getfield 35, 3) := by decide +kernel
theorem d_X12_windowsFor_36 : decode mt_X12_windowsFor.2.1 36 = .ok (.iconst 0, 1) := by decide +kernel
theorem d_X12_windowsFor_37 : decode mt_X12_windowsFor.2.1 37 = .ok (.iaload, 1) := by decide +kernel
theorem d_X12_windowsFor_38 : decode mt_X12_windowsFor.2.1 38 = .ok (.ishl, 1) := by decide +kernel
theorem d_X12_windowsFor_39 : decode mt_X12_windowsFor.2.1 39 = .ok (.if_icmp .ge 73, 3) := by decide +kernel
theorem d_X12_windowsFor_42 : decode mt_X12_windowsFor.2.1 42 = .ok (.iload 7, 2) := by decide +kernel
theorem d_X12_windowsFor_44 : decode mt_X12_windowsFor.2.1 44 = .ok (.iload 5, 2) := by decide +kernel
theorem d_X12_windowsFor_46 : decode mt_X12_windowsFor.2.1 46 = .ok (.iconst (-1), 1) := by decide +kernel
theorem d_X12_windowsFor_47 : decode mt_X12_windowsFor.2.1 47 = .ok (.ixor, 1) := by decide +kernel
theorem d_X12_windowsFor_48 : decode mt_X12_windowsFor.2.1 48 = .ok (.iand, 1) := by decide +kernel
theorem d_X12_windowsFor_49 : decode mt_X12_windowsFor.2.1 49 = .ok (.ifCond .ne 57, 3) := by decide +kernel
theorem d_X12_windowsFor_52 : decode mt_X12_windowsFor.2.1 52 = .ok (.iload 7, 2) := by decide +kernel
theorem d_X12_windowsFor_54 : decode mt_X12_windowsFor.2.1 54 = .ok (.iload_n 2, 1) := by decide +kernel
theorem d_X12_windowsFor_55 : decode mt_X12_windowsFor.2.1 55 = .ok (.invokestatic 108, 3) := by decide +kernel
theorem d_X12_windowsFor_58 : decode mt_X12_windowsFor.2.1 58 = .ok (.ifCond .ne 48, 3) := by decide +kernel
theorem d_X12_windowsFor_61 : decode mt_X12_windowsFor.2.1 61 = .ok (.iload_n 3, 1) := by decide +kernel
theorem d_X12_windowsFor_62 : decode mt_X12_windowsFor.2.1 62 = .ok (.ifCond .lt 18, 3) := by decide +kernel
theorem d_X12_windowsFor_65 : decode mt_X12_windowsFor.2.1 65 = .ok (.iload 7, 2) := by decide +kernel
theorem d_X12_windowsFor_67 : decode mt_X12_windowsFor.2.1 67 = .ok (.invokestatic 324, 3) := by decide +kernel
theorem d_X12_windowsFor_70 : decode mt_X12_windowsFor.2.1 70 = .ok (.iload_n 3, 1) := by decide +kernel
theorem d_X12_windowsFor_71 : decode mt_X12_windowsFor.2.1 71 = .ok (.invokestatic 324, 3) := by decide +kernel
theorem d_X12_windowsFor_74 : decode mt_X12_windowsFor.2.1 74 = .ok (.if_icmp .lt 6, 3) := by decide +kernel
theorem d_X12_windowsFor_77 : decode mt_X12_windowsFor.2.1 77 = .ok (.goto 29, 3) := by decide +kernel
theorem d_X12_windowsFor_80 : decode mt_X12_windowsFor.2.1 80 = .ok (.aload_n 0, 1) := by decide +kernel
theorem d_X12_windowsFor_81 : decode mt_X12_windowsFor.2.1 81 = .ok (.iload 4, 2) := by decide +kernel
theorem d_X12_windowsFor_83 : decode mt_X12_windowsFor.2.1 83 = .ok (.iload 7, 2) := by decide +kernel
theorem d_X12_windowsFor_85 : decode mt_X12_windowsFor.2.1 85 = .ok (.iconst (-1), 1) := by decide +kernel
theorem d_X12_windowsFor_86 : decode mt_X12_windowsFor.2.1 86 = .ok (.ixor, 1) := by decide +kernel
theorem d_X12_windowsFor_87 : decode mt_X12_windowsFor.2.1 87 = .ok (.iand, 1) := by decide +kernel
theorem d_X12_windowsFor_88 : decode mt_X12_windowsFor.2.1 88 = .ok (.iload 5, 2) := by decide +kernel
theorem d_X12_windowsFor_90 : decode mt_X12_windowsFor.2.1 90 = .ok (.iload 7, 2) := by decide +kernel
theorem d_X12_windowsFor_92 : decode mt_X12_windowsFor.2.1 92 = .ok (.iconst (-1), 1) := by decide +kernel
theorem d_X12_windowsFor_93 : decode mt_X12_windowsFor.2.1 93 = .ok (.ixor, 1) := by decide +kernel
theorem d_X12_windowsFor_94 : decode mt_X12_windowsFor.2.1 94 = .ok (.iand, 1) := by decide +kernel
theorem d_X12_windowsFor_95 : decode mt_X12_windowsFor.2.1 95 = .ok (.invokevirtual 354, 3) := by decide +kernel
theorem d_X12_windowsFor_98 : decode mt_X12_windowsFor.2.1 98 = .ok (.iload 6, 2) := by decide +kernel
theorem d_X12_windowsFor_100 : decode mt_X12_windowsFor.2.1 100 = .ok (.if_icmp .eq 6, 3) := by decide +kernel
theorem d_X12_windowsFor_103 : decode mt_X12_windowsFor.2.1 103 = .ok (.iload 7, 2) := by decide +kernel
theorem d_X12_windowsFor_105 : decode mt_X12_windowsFor.2.1 105 = .ok (.istore_n 3, 1) := by decide +kernel
theorem d_X12_windowsFor_106 : decode mt_X12_windowsFor.2.1 106 = .ok (.iinc 7 1, 3) := by decide +kernel
theorem d_X12_windowsFor_109 : decode mt_X12_windowsFor.2.1 109 = .ok (.goto (-80), 3) := by decide +kernel
theorem d_X12_windowsFor_112 : decode mt_X12_windowsFor.2.1 112 = .ok (.iload_n 3, 1) := by decide +kernel
theorem d_X12_windowsFor_113 : decode mt_X12_windowsFor.2.1 113 = .ok (.ireturn, 1) := by decide +kernel
noncomputable def f_X12_windowsFor_b106 (k29 : (Int → Int → Int → Int → Int → Int → Int → Mem → Option (Int))) (v0 v2 v3 v4 v5 v6 v7 : Int) (σ : Mem) : Option (Int) :=
  k29 v0 v2 v3 v4 v5 v6 (w32 (v7 + 1)) σ
theorem L_X12_windowsFor_b106 {sc : Nat × (Nat → Int32)} {o : Int} {σ : Mem} {k29 : (Int → Int → Int → Int → Int → Int → Int → Mem → Option (Int))} (hk29 : ∀ {v0 v2 v3 v4 v5 v6 v7 : Int}, k29 v0 v2 v3 v4 v5 v6 v7 σ = some o → E sc (Fm Sh (some (0, o)) Sh σ) mt_X12_windowsFor 5 Sh Sh 29 [(2, v0), (9, 0), (0, v2), (0, v3), (0, v4), (0, v5), (0, v6), (0, v7)] [] Sh σ) {v0 v2 v3 v4 v5 v6 v7 : Int} (h : f_X12_windowsFor_b106 k29 v0 v2 v3 v4 v5 v6 v7 σ = some o) : E sc (Fm Sh (some (0, o)) Sh σ) mt_X12_windowsFor 5 Sh Sh 106 [(2, v0), (9, 0), (0, v2), (0, v3), (0, v4), (0, v5), (0, v6), (0, v7)] [] Sh σ := by
  unfold f_X12_windowsFor_b106 at h
  refine E_iinc d_X12_windowsFor_106 (ls' := [(2, v0), (9, 0), (0, v2), (0, v3), (0, v4), (0, v5), (0, v6), (0, w32 (v7 + 1))]) rfl ⟨by decide, rfl⟩ ?_
  refine E_goto (tgt := 29) d_X12_windowsFor_109 (by decide) ?_
  exact (hk29 h)
noncomputable def f_X12_windowsFor_b80 (k29 : (Int → Int → Int → Int → Int → Int → Int → Mem → Option (Int))) (v0 v2 v3 v4 v5 v6 v7 : Int) (σ : Mem) : Option (Int) :=
  (f_X12_isMore v0 (iand v4 (ixor v7 (-1))) (iand v5 (ixor v7 (-1))) σ).bind fun r15 =>
  if r15 = v6 then
    f_X12_windowsFor_b106 k29 v0 v2 v3 v4 v5 v6 v7 σ
  else
    f_X12_windowsFor_b106 k29 v0 v2 v7 v4 v5 v6 v7 σ
theorem L_X12_windowsFor_b80 {sc : Nat × (Nat → Int32)} {o : Int} {σ : Mem} {k29 : (Int → Int → Int → Int → Int → Int → Int → Mem → Option (Int))} (hk29 : ∀ {v0 v2 v3 v4 v5 v6 v7 : Int}, k29 v0 v2 v3 v4 v5 v6 v7 σ = some o → E sc (Fm Sh (some (0, o)) Sh σ) mt_X12_windowsFor 5 Sh Sh 29 [(2, v0), (9, 0), (0, v2), (0, v3), (0, v4), (0, v5), (0, v6), (0, v7)] [] Sh σ) {v0 v2 v3 v4 v5 v6 v7 : Int} (h : f_X12_windowsFor_b80 k29 v0 v2 v3 v4 v5 v6 v7 σ = some o) : E sc (Fm Sh (some (0, o)) Sh σ) mt_X12_windowsFor 5 Sh Sh 80 [(2, v0), (9, 0), (0, v2), (0, v3), (0, v4), (0, v5), (0, v6), (0, v7)] [] Sh σ := by
  unfold f_X12_windowsFor_b80 at h
  refine E_aload_n d_X12_windowsFor_80 rfl (by decide) ?_
  refine E_iload d_X12_windowsFor_81 rfl ?_
  refine E_iload d_X12_windowsFor_83 rfl ?_
  refine E_iconst d_X12_windowsFor_85 (c32 rfl) ?_
  refine E_ixor d_X12_windowsFor_86 ?_
  refine E_iand d_X12_windowsFor_87 ?_
  refine E_iload d_X12_windowsFor_88 rfl ?_
  refine E_iload d_X12_windowsFor_90 rfl ?_
  refine E_iconst d_X12_windowsFor_92 (c32 rfl) ?_
  refine E_ixor d_X12_windowsFor_93 ?_
  refine E_iand d_X12_windowsFor_94 ?_
  refine bd h (fun r15 q16 h => ?_)
  refine E_cV (as := [(0, iand v4 (ixor v7 (-1))), (0, iand v5 (ixor v7 (-1)))]) (st := []) (a := v0) d_X12_windowsFor_95 mk_X12_isMore nl_X12_354 (by omega) ⟨rfl, rfl, Nat.le_of_ble_eq_true rfl⟩ okX12 rfl (L_X12_isMore q16) ?_
  refine E_iload d_X12_windowsFor_98 rfl ?_
  refine E_icmp_eq (tgt := 106) d_X12_windowsFor_100 (by decide) h (fun _ h => ?_) (fun _ h => ?_)
  · exact (L_X12_windowsFor_b106 hk29 h)
  · refine E_iload d_X12_windowsFor_103 rfl ?_
    refine E_istore_n d_X12_windowsFor_105 (ls' := [(2, v0), (9, 0), (0, v2), (0, v7), (0, v4), (0, v5), (0, v6), (0, v7)]) ⟨by decide, rfl⟩ ?_
    exact (L_X12_windowsFor_b106 hk29 h)
noncomputable def f_X12_windowsFor_b29 (k29 : (Int → Int → Int → Int → Int → Int → Int → Mem → Option (Int))) (v0 v2 v3 v4 v5 v6 v7 : Int) (σ : Mem) : Option (Int) :=
  (gf Sh σ 12 v0 20).bind fun x7 =>
  (al Sh σ 20 x7 0).bind fun x8 =>
  if ishl 1 x8 ≤ v7 then
    some (v3)
  else
    if iand v7 (ixor v5 (-1)) = 0 then
      (f_X12_has v7 v2 σ).bind fun r9 =>
      if r9 = 0 then
        if v3 < 0 then
          f_X12_windowsFor_b80 k29 v0 v2 v3 v4 v5 v6 v7 σ
        else
          (f_X12_sizeOf v7 σ).bind fun r11 =>
          (f_X12_sizeOf v3 σ).bind fun r13 =>
          if r11 < r13 then
            f_X12_windowsFor_b80 k29 v0 v2 v3 v4 v5 v6 v7 σ
          else
            f_X12_windowsFor_b106 k29 v0 v2 v3 v4 v5 v6 v7 σ
      else
        f_X12_windowsFor_b106 k29 v0 v2 v3 v4 v5 v6 v7 σ
    else
      f_X12_windowsFor_b106 k29 v0 v2 v3 v4 v5 v6 v7 σ
theorem L_X12_windowsFor_b29 {sc : Nat × (Nat → Int32)} {o : Int} {σ : Mem} {k29 : (Int → Int → Int → Int → Int → Int → Int → Mem → Option (Int))} (hk29 : ∀ {v0 v2 v3 v4 v5 v6 v7 : Int}, k29 v0 v2 v3 v4 v5 v6 v7 σ = some o → E sc (Fm Sh (some (0, o)) Sh σ) mt_X12_windowsFor 5 Sh Sh 29 [(2, v0), (9, 0), (0, v2), (0, v3), (0, v4), (0, v5), (0, v6), (0, v7)] [] Sh σ) {v0 v2 v3 v4 v5 v6 v7 : Int} (h : f_X12_windowsFor_b29 k29 v0 v2 v3 v4 v5 v6 v7 σ = some o) : E sc (Fm Sh (some (0, o)) Sh σ) mt_X12_windowsFor 5 Sh Sh 29 [(2, v0), (9, 0), (0, v2), (0, v3), (0, v4), (0, v5), (0, v6), (0, v7)] [] Sh σ := by
  unfold f_X12_windowsFor_b29 at h
  refine E_iload d_X12_windowsFor_29 rfl ?_
  refine E_iconst d_X12_windowsFor_31 (c32 rfl) ?_
  refine E_aload_n d_X12_windowsFor_32 rfl (by decide) ?_
  refine E_get d_X12_windowsFor_33 okX12 fl_X12_35 ⟨by decide, rfl⟩ h (fun x7 h => ?_)
  refine E_iconst d_X12_windowsFor_36 (c32 rfl) ?_
  refine E_iaload d_X12_windowsFor_37 h (fun x8 h => ?_)
  refine E_ishl d_X12_windowsFor_38 ?_
  refine E_icmp_ge (tgt := 112) d_X12_windowsFor_39 (by decide) h (fun _ h => ?_) (fun _ h => ?_)
  · refine E_iload_n d_X12_windowsFor_112 rfl ?_
    cases h
    exact E_iret d_X12_windowsFor_113 rfl
  · refine E_iload d_X12_windowsFor_42 rfl ?_
    refine E_iload d_X12_windowsFor_44 rfl ?_
    refine E_iconst d_X12_windowsFor_46 (c32 rfl) ?_
    refine E_ixor d_X12_windowsFor_47 ?_
    refine E_iand d_X12_windowsFor_48 ?_
    refine E_if_ne (tgt := 106) d_X12_windowsFor_49 (by decide) h (fun _ h => ?_) (fun _ h => ?_)
    · refine E_iload d_X12_windowsFor_52 rfl ?_
      refine E_iload_n d_X12_windowsFor_54 rfl ?_
      refine bd h (fun r9 q10 h => ?_)
      refine E_cS (as := [(0, v7), (0, v2)]) (st := []) d_X12_windowsFor_55 mk_X12_has nl_X12_108 (by omega) ⟨rfl, rfl, Nat.le_of_ble_eq_true rfl⟩ (L_X12_has q10) ?_
      refine E_if_ne (tgt := 106) d_X12_windowsFor_58 (by decide) h (fun _ h => ?_) (fun _ h => ?_)
      · refine E_iload_n d_X12_windowsFor_61 rfl ?_
        refine E_if_lt (tgt := 80) d_X12_windowsFor_62 (by decide) h (fun _ h => ?_) (fun _ h => ?_)
        · exact (L_X12_windowsFor_b80 hk29 h)
        · refine E_iload d_X12_windowsFor_65 rfl ?_
          refine bd h (fun r11 q12 h => ?_)
          refine E_cS (as := [(0, v7)]) (st := []) d_X12_windowsFor_67 mk_X12_sizeOf nl_X12_324 (by omega) ⟨rfl, rfl, Nat.le_of_ble_eq_true rfl⟩ (L_X12_sizeOf q12) ?_
          refine E_iload_n d_X12_windowsFor_70 rfl ?_
          refine bd h (fun r13 q14 h => ?_)
          refine E_cS (as := [(0, v3)]) (st := [(0, r11)]) d_X12_windowsFor_71 mk_X12_sizeOf nl_X12_324 (by omega) ⟨rfl, rfl, Nat.le_of_ble_eq_true rfl⟩ (L_X12_sizeOf q14) ?_
          refine E_icmp_lt (tgt := 80) d_X12_windowsFor_74 (by decide) h (fun _ h => ?_) (fun _ h => ?_)
          · exact (L_X12_windowsFor_b80 hk29 h)
          · refine E_goto (tgt := 106) d_X12_windowsFor_77 (by decide) ?_
            exact (L_X12_windowsFor_b106 hk29 h)
      · exact (L_X12_windowsFor_b106 hk29 h)
    · exact (L_X12_windowsFor_b106 hk29 h)
noncomputable def f_X12_windowsFor_h29 (n : Nat) : Int → Int → Int → Int → Int → Int → Int → Mem → Option (Int) := Nat.rec (motive := fun _ => Int → Int → Int → Int → Int → Int → Int → Mem → Option (Int)) (fun _ _ _ _ _ _ _ _ => none) (fun _ ih => f_X12_windowsFor_b29 (ih)) n
theorem L_X12_windowsFor_h29 {sc : Nat × (Nat → Int32)} {o : Int} {σ : Mem} : ∀ (n : Nat) {v0 v2 v3 v4 v5 v6 v7 : Int}, f_X12_windowsFor_h29 n v0 v2 v3 v4 v5 v6 v7 σ = some o → E sc (Fm Sh (some (0, o)) Sh σ) mt_X12_windowsFor 5 Sh Sh 29 [(2, v0), (9, 0), (0, v2), (0, v3), (0, v4), (0, v5), (0, v6), (0, v7)] [] Sh σ := by
  intro n
  induction n with
  | zero => intro v0 v2 v3 v4 v5 v6 v7 h; cases h
  | succ n ih => intro v0 v2 v3 v4 v5 v6 v7 h; exact L_X12_windowsFor_b29 (@ih) h
noncomputable def f_X12_windowsFor_b0 (v0 v1 v2 : Int) (σ : Mem) : Option (Int) :=
  (f_X12_turnedFrom v0 v1 v2 σ).bind fun r1 =>
  (f_X12_stones v0 σ).bind fun r3 =>
  (f_X12_isMore v0 r1 r3 σ).bind fun r5 =>
  f_X12_windowsFor_h29 FU v0 v2 (-1) r1 r3 r5 0 σ
theorem L_X12_windowsFor_b0 {sc : Nat × (Nat → Int32)} {o : Int} {σ : Mem} {v0 v1 v2 : Int} (h : f_X12_windowsFor_b0 v0 v1 v2 σ = some o) : E sc (Fm Sh (some (0, o)) Sh σ) mt_X12_windowsFor 5 Sh Sh 0 [(2, v0), (0, v1), (0, v2), (9, 0), (9, 0), (9, 0), (9, 0), (9, 0)] [] Sh σ := by
  unfold f_X12_windowsFor_b0 at h
  refine E_iconst d_X12_windowsFor_0 (c32 rfl) ?_
  refine E_istore_n d_X12_windowsFor_1 (ls' := [(2, v0), (0, v1), (0, v2), (0, (-1)), (9, 0), (9, 0), (9, 0), (9, 0)]) ⟨by decide, rfl⟩ ?_
  refine E_aload_n d_X12_windowsFor_2 rfl (by decide) ?_
  refine E_iload_n d_X12_windowsFor_3 rfl ?_
  refine E_iload_n d_X12_windowsFor_4 rfl ?_
  refine bd h (fun r1 q2 h => ?_)
  refine E_cV (as := [(0, v1), (0, v2)]) (st := []) (a := v0) d_X12_windowsFor_5 mk_X12_turnedFrom nl_X12_351 (by omega) ⟨rfl, rfl, Nat.le_of_ble_eq_true rfl⟩ okX12 rfl (L_X12_turnedFrom q2) ?_
  refine E_istore d_X12_windowsFor_8 (ls' := [(2, v0), (0, v1), (0, v2), (0, (-1)), (0, r1), (9, 0), (9, 0), (9, 0)]) ⟨by decide, rfl⟩ ?_
  refine E_aload_n d_X12_windowsFor_10 rfl (by decide) ?_
  refine bd h (fun r3 q4 h => ?_)
  refine E_cV (as := []) (st := []) (a := v0) d_X12_windowsFor_11 mk_X12_stones nl_X12_321 (by omega) ⟨rfl, rfl, Nat.le_of_ble_eq_true rfl⟩ okX12 rfl (L_X12_stones q4) ?_
  refine E_istore d_X12_windowsFor_14 (ls' := [(2, v0), (0, v1), (0, v2), (0, (-1)), (0, r1), (0, r3), (9, 0), (9, 0)]) ⟨by decide, rfl⟩ ?_
  refine E_aload_n d_X12_windowsFor_16 rfl (by decide) ?_
  refine E_iload d_X12_windowsFor_17 rfl ?_
  refine E_iload d_X12_windowsFor_19 rfl ?_
  refine bd h (fun r5 q6 h => ?_)
  refine E_cV (as := [(0, r1), (0, r3)]) (st := []) (a := v0) d_X12_windowsFor_21 mk_X12_isMore nl_X12_354 (by omega) ⟨rfl, rfl, Nat.le_of_ble_eq_true rfl⟩ okX12 rfl (L_X12_isMore q6) ?_
  refine E_istore d_X12_windowsFor_24 (ls' := [(2, v0), (0, v1), (0, v2), (0, (-1)), (0, r1), (0, r3), (0, r5), (9, 0)]) ⟨by decide, rfl⟩ ?_
  refine E_iconst d_X12_windowsFor_26 (c32 rfl) ?_
  refine E_istore d_X12_windowsFor_27 (ls' := [(2, v0), (0, v1), (0, v2), (0, (-1)), (0, r1), (0, r3), (0, r5), (0, 0)]) ⟨by decide, rfl⟩ ?_
  exact E_weak (ls' := [(2, v0), (9, 0), (0, v2), (0, (-1)), (0, r1), (0, r3), (0, r5), (0, 0)]) ⟨Or.inr rfl, Or.inl rfl, Or.inr rfl, Or.inr rfl, Or.inr rfl, Or.inr rfl, Or.inr rfl, Or.inr rfl, trivial⟩ (L_X12_windowsFor_h29 FU h)
noncomputable def f_X12_windowsFor (v0 v1 v2 : Int) (σ : Mem) : Option (Int) := if isO Sh 12 v0 = true then f_X12_windowsFor_b0 v0 v1 v2 σ else none
theorem L_X12_windowsFor {o : Int} {v0 v1 v2 : Int} {σ : Mem} (h : f_X12_windowsFor v0 v1 v2 σ = some o) : (isO Sh 12 v0 = true ∧ Cn mt_X12_windowsFor 5 [(2, v0), (0, v1), (0, v2)] Sh σ (some (0, o)) Sh σ) := ⟨(ite_ok h).1, Cn_of mk_X12_windowsFor.1.2.2.1 (Nat.le_of_ble_eq_true rfl) (fun sc => L_X12_windowsFor_b0 (ite_ok h).2)⟩
theorem d_X12_windows_0 : decode mt_X12_windows.2.1 0 = .ok (.aload_n 0, 1) := by decide +kernel
theorem d_X12_windows_1 : decode mt_X12_windows.2.1 1 = .ok (.iconst 0, 1) := by decide +kernel
theorem d_X12_windows_2 : decode mt_X12_windows.2.1 2 = .ok (.putfield 70, 3) := by decide +kernel
theorem d_X12_windows_5 : decode mt_X12_windows.2.1 5 = .ok (.aload_n 0, 1) := by decide +kernel
theorem d_X12_windows_6 : decode mt_X12_windows.2.1 6 = .ok (.aload_n 0, 1) := by decide +kernel
theorem d_X12_windows_7 : decode mt_X12_windows.2.1 7 = .ok (.iload_n 1, 1) := by decide +kernel
theorem d_X12_windows_8 : decode mt_X12_windows.2.1 8 = .ok (.iload_n 2, 1) := by decide +kernel
theorem d_X12_windows_9 : decode mt_X12_windows.2.1 9 = .ok (.invokevirtual 423, 3) := by decide +kernel
theorem d_X12_windows_12 : decode mt_X12_windows.2.1 12 = .ok (.putfield 73, 3) := by decide +kernel
theorem d_X12_windows_15 : decode mt_X12_windows.2.1 15 = .ok (.aload_n 0, 1) := by decide +kernel
theorem d_X12_windows_16 : decode mt_X12_windows.2.1 16 = .ok (.getfield 73, 3) := by decide +kernel
theorem d_X12_windows_19 : decode mt_X12_windows.2.1 19 = .ok (.ifCond .le 5, 3) := by decide +kernel
theorem d_X12_windows_22 : decode mt_X12_windows.2.1 22 = .ok (.iconst (-1), 1) := by decide +kernel
theorem d_X12_windows_23 : decode mt_X12_windows.2.1 23 = .ok (.ireturn, 1) := by decide +kernel
theorem d_X12_windows_24 : decode mt_X12_windows.2.1 24 = .ok (.aload_n 0, 1) := by decide +kernel
theorem d_X12_windows_25 : decode mt_X12_windows.2.1 25 = .ok (.iload_n 1, 1) := by decide +kernel
theorem d_X12_windows_26 : decode mt_X12_windows.2.1 26 = .ok (.iload_n 2, 1) := by decide +kernel
theorem d_X12_windows_27 : decode mt_X12_windows.2.1 27 = .ok (.invokevirtual 426, 3) := by decide +kernel
theorem d_X12_windows_30 : decode mt_X12_windows.2.1 30 = .ok (.istore_n 3, 1) := by decide +kernel
theorem d_X12_windows_31 : decode mt_X12_windows.2.1 31 = .ok (.iload_n 3, 1) := by decide +kernel
theorem d_X12_windows_32 : decode mt_X12_windows.2.1 32 = .ok (.ifCond .ge 12, 3) := by decide +kernel
theorem d_X12_windows_35 : decode mt_X12_windows.2.1 35 = .ok (.aload_n 0, 1) := by decide +kernel
theorem d_X12_windows_36 : decode mt_X12_windows.2.1 36 = .ok (.bipush 8, 2) := by decide +kernel
theorem d_X12_windows_38 : decode mt_X12_windows.2.1 38 = .ok (.invokevirtual 318, 3) := by decide +kernel
theorem d_X12_windows_41 : decode mt_X12_windows.2.1 41 = .ok (.goto 7, 3) := by decide +kernel
theorem d_X12_windows_44 : decode mt_X12_windows.2.1 44 = .ok (.iload_n 3, 1) := by decide +kernel
theorem d_X12_windows_45 : decode mt_X12_windows.2.1 45 = .ok (.invokestatic 324, 3) := by decide +kernel
theorem d_X12_windows_48 : decode mt_X12_windows.2.1 48 = .ok (.ireturn, 1) := by decide +kernel
noncomputable def f_X12_windows_b0 (v0 v1 v2 : Int) (σ : Mem) : Option (Int × Mem) :=
  (pf Sh σ 12 v0 1 0).bind fun σ1 =>
  (f_X12_whyNoWindows v0 v1 v2 σ1).bind fun r2 =>
  (pf Sh σ1 12 v0 0 r2).bind fun σ4 =>
  (gf Sh σ4 12 v0 0).bind fun x5 =>
  if x5 ≤ 0 then
    (f_X12_windowsFor v0 v1 v2 σ4).bind fun r6 =>
    if 0 ≤ r6 then
      (f_X12_sizeOf r6 σ4).bind fun r8 =>
      some (r8, σ4)
    else
      (f_X12_refuse v0 8 σ4).bind fun r10 =>
      some (r10.1, r10.2)
  else
    some ((-1), σ4)
theorem L_X12_windows_b0 {sc : Nat × (Nat → Int32)} {o : Int × Mem} {v0 v1 v2 : Int} {σ : Mem} (h : f_X12_windows_b0 v0 v1 v2 σ = some o) : E sc (Fm Sh (some (0, o.1)) Sh o.2) mt_X12_windows 6 Sh Sh 0 [(2, v0), (0, v1), (0, v2), (9, 0)] [] Sh σ := by
  unfold f_X12_windows_b0 at h
  refine E_aload_n d_X12_windows_0 rfl (by decide) ?_
  refine E_iconst d_X12_windows_1 (c32 rfl) ?_
  refine E_put d_X12_windows_2 okX12 fl_X12_70 ⟨by decide, rfl⟩ (Or.inl ⟨rfl, rfl⟩) (Or.inl rfl) h (fun σ1 h => ?_)
  refine E_aload_n d_X12_windows_5 rfl (by decide) ?_
  refine E_aload_n d_X12_windows_6 rfl (by decide) ?_
  refine E_iload_n d_X12_windows_7 rfl ?_
  refine E_iload_n d_X12_windows_8 rfl ?_
  refine bd h (fun r2 q3 h => ?_)
  refine E_cV (as := [(0, v1), (0, v2)]) (st := [(2, v0)]) (a := v0) d_X12_windows_9 mk_X12_whyNoWindows nl_X12_423 (by omega) ⟨rfl, rfl, Nat.le_of_ble_eq_true rfl⟩ okX12 rfl (L_X12_whyNoWindows q3) ?_
  refine E_put d_X12_windows_12 okX12 fl_X12_73 ⟨by decide, rfl⟩ (Or.inl ⟨rfl, rfl⟩) (Or.inl rfl) h (fun σ4 h => ?_)
  refine E_aload_n d_X12_windows_15 rfl (by decide) ?_
  refine E_get d_X12_windows_16 okX12 fl_X12_73 ⟨by decide, rfl⟩ h (fun x5 h => ?_)
  refine E_if_le (tgt := 24) d_X12_windows_19 (by decide) h (fun _ h => ?_) (fun _ h => ?_)
  · refine E_aload_n d_X12_windows_24 rfl (by decide) ?_
    refine E_iload_n d_X12_windows_25 rfl ?_
    refine E_iload_n d_X12_windows_26 rfl ?_
    refine bd h (fun r6 q7 h => ?_)
    refine E_cV (as := [(0, v1), (0, v2)]) (st := []) (a := v0) d_X12_windows_27 mk_X12_windowsFor nl_X12_426 (by omega) ⟨rfl, rfl, Nat.le_of_ble_eq_true rfl⟩ okX12 rfl (L_X12_windowsFor q7) ?_
    refine E_istore_n d_X12_windows_30 (ls' := [(2, v0), (0, v1), (0, v2), (0, r6)]) ⟨by decide, rfl⟩ ?_
    refine E_iload_n d_X12_windows_31 rfl ?_
    refine E_if_ge (tgt := 44) d_X12_windows_32 (by decide) h (fun _ h => ?_) (fun _ h => ?_)
    · refine E_iload_n d_X12_windows_44 rfl ?_
      refine bd h (fun r8 q9 h => ?_)
      refine E_cS (as := [(0, r6)]) (st := []) d_X12_windows_45 mk_X12_sizeOf nl_X12_324 (by omega) ⟨rfl, rfl, Nat.le_of_ble_eq_true rfl⟩ (L_X12_sizeOf q9) ?_
      cases h
      exact E_iret d_X12_windows_48 rfl
    · refine E_aload_n d_X12_windows_35 rfl (by decide) ?_
      refine E_bipush d_X12_windows_36 (c8 rfl) ?_
      refine bd h (fun r10 q11 h => ?_)
      refine E_cV (as := [(0, 8)]) (st := []) (a := v0) d_X12_windows_38 mk_X12_refuse nl_X12_318 (by omega) ⟨rfl, rfl, Nat.le_of_ble_eq_true rfl⟩ okX12 rfl (L_X12_refuse q11) ?_
      refine E_goto (tgt := 48) d_X12_windows_41 (by decide) ?_
      cases h
      exact E_iret d_X12_windows_48 rfl
  · refine E_iconst d_X12_windows_22 (c32 rfl) ?_
    cases h
    exact E_iret d_X12_windows_23 rfl
noncomputable def f_X12_windows (v0 v1 v2 : Int) (σ : Mem) : Option (Int × Mem) := if isO Sh 12 v0 = true then f_X12_windows_b0 v0 v1 v2 σ else none
theorem L_X12_windows {o : Int × Mem} {v0 v1 v2 : Int} {σ : Mem} (h : f_X12_windows v0 v1 v2 σ = some o) : (isO Sh 12 v0 = true ∧ Cn mt_X12_windows 6 [(2, v0), (0, v1), (0, v2)] Sh σ (some (0, o.1)) Sh o.2) := ⟨(ite_ok h).1, Cn_of mk_X12_windows.1.2.2.1 (Nat.le_of_ble_eq_true rfl) (fun sc => L_X12_windows_b0 (ite_ok h).2)⟩
theorem d_X12_windowSet_0 : decode mt_X12_windowSet.2.1 0 = .ok (.aload_n 0, 1) := by decide +kernel
theorem d_X12_windowSet_1 : decode mt_X12_windowSet.2.1 1 = .ok (.iconst 0, 1) := by decide +kernel
theorem d_X12_windowSet_2 : decode mt_X12_windowSet.2.1 2 = .ok (.putfield 70, 3) := by decide +kernel
theorem d_X12_windowSet_5 : decode mt_X12_windowSet.2.1 5 = .ok (.aload_n 0, 1) := by decide +kernel
theorem d_X12_windowSet_6 : decode mt_X12_windowSet.2.1 6 = .ok (.aload_n 0, 1) := by decide +kernel
theorem d_X12_windowSet_7 : decode mt_X12_windowSet.2.1 7 = .ok (.iload_n 1, 1) := by decide +kernel
theorem d_X12_windowSet_8 : decode mt_X12_windowSet.2.1 8 = .ok (.iload_n 2, 1) := by decide +kernel
theorem d_X12_windowSet_9 : decode mt_X12_windowSet.2.1 9 = .ok (.invokevirtual 423, 3) := by decide +kernel
theorem d_X12_windowSet_12 : decode mt_X12_windowSet.2.1 12 = .ok (.putfield 73, 3) := by decide +kernel
theorem d_X12_windowSet_15 : decode mt_X12_windowSet.2.1 15 = .ok (.aload_n 0, 1) := by decide +kernel
theorem d_X12_windowSet_16 : decode mt_X12_windowSet.2.1 16 = .ok (.getfield 73, 3) := by decide +kernel
theorem d_X12_windowSet_19 : decode mt_X12_windowSet.2.1 19 = .ok (.ifCond .le 5, 3) := by decide +kernel
theorem d_X12_windowSet_22 : decode mt_X12_windowSet.2.1 22 = .ok (.iconst (-1), 1) := by decide +kernel
theorem d_X12_windowSet_23 : decode mt_X12_windowSet.2.1 23 = .ok (.ireturn, 1) := by decide +kernel
theorem d_X12_windowSet_24 : decode mt_X12_windowSet.2.1 24 = .ok (.aload_n 0, 1) := by decide +kernel
theorem d_X12_windowSet_25 : decode mt_X12_windowSet.2.1 25 = .ok (.iload_n 1, 1) := by decide +kernel
theorem d_X12_windowSet_26 : decode mt_X12_windowSet.2.1 26 = .ok (.iload_n 2, 1) := by decide +kernel
theorem d_X12_windowSet_27 : decode mt_X12_windowSet.2.1 27 = .ok (.invokevirtual 426, 3) := by decide +kernel
theorem d_X12_windowSet_30 : decode mt_X12_windowSet.2.1 30 = .ok (.istore_n 3, 1) := by decide +kernel
theorem d_X12_windowSet_31 : decode mt_X12_windowSet.2.1 31 = .ok (.iload_n 3, 1) := by decide +kernel
theorem d_X12_windowSet_32 : decode mt_X12_windowSet.2.1 32 = .ok (.ifCond .ge 12, 3) := by decide +kernel
theorem d_X12_windowSet_35 : decode mt_X12_windowSet.2.1 35 = .ok (.aload_n 0, 1) := by decide +kernel
theorem d_X12_windowSet_36 : decode mt_X12_windowSet.2.1 36 = .ok (.bipush 8, 2) := by decide +kernel
theorem d_X12_windowSet_38 : decode mt_X12_windowSet.2.1 38 = .ok (.invokevirtual 318, 3) := by decide +kernel
theorem d_X12_windowSet_41 : decode mt_X12_windowSet.2.1 41 = .ok (.goto 4, 3) := by decide +kernel
theorem d_X12_windowSet_44 : decode mt_X12_windowSet.2.1 44 = .ok (.iload_n 3, 1) := by decide +kernel
theorem d_X12_windowSet_45 : decode mt_X12_windowSet.2.1 45 = .ok (.ireturn, 1) := by decide +kernel
noncomputable def f_X12_windowSet_b0 (v0 v1 v2 : Int) (σ : Mem) : Option (Int × Mem) :=
  (pf Sh σ 12 v0 1 0).bind fun σ1 =>
  (f_X12_whyNoWindows v0 v1 v2 σ1).bind fun r2 =>
  (pf Sh σ1 12 v0 0 r2).bind fun σ4 =>
  (gf Sh σ4 12 v0 0).bind fun x5 =>
  if x5 ≤ 0 then
    (f_X12_windowsFor v0 v1 v2 σ4).bind fun r6 =>
    if 0 ≤ r6 then
      some (r6, σ4)
    else
      (f_X12_refuse v0 8 σ4).bind fun r8 =>
      some (r8.1, r8.2)
  else
    some ((-1), σ4)
theorem L_X12_windowSet_b0 {sc : Nat × (Nat → Int32)} {o : Int × Mem} {v0 v1 v2 : Int} {σ : Mem} (h : f_X12_windowSet_b0 v0 v1 v2 σ = some o) : E sc (Fm Sh (some (0, o.1)) Sh o.2) mt_X12_windowSet 6 Sh Sh 0 [(2, v0), (0, v1), (0, v2), (9, 0)] [] Sh σ := by
  unfold f_X12_windowSet_b0 at h
  refine E_aload_n d_X12_windowSet_0 rfl (by decide) ?_
  refine E_iconst d_X12_windowSet_1 (c32 rfl) ?_
  refine E_put d_X12_windowSet_2 okX12 fl_X12_70 ⟨by decide, rfl⟩ (Or.inl ⟨rfl, rfl⟩) (Or.inl rfl) h (fun σ1 h => ?_)
  refine E_aload_n d_X12_windowSet_5 rfl (by decide) ?_
  refine E_aload_n d_X12_windowSet_6 rfl (by decide) ?_
  refine E_iload_n d_X12_windowSet_7 rfl ?_
  refine E_iload_n d_X12_windowSet_8 rfl ?_
  refine bd h (fun r2 q3 h => ?_)
  refine E_cV (as := [(0, v1), (0, v2)]) (st := [(2, v0)]) (a := v0) d_X12_windowSet_9 mk_X12_whyNoWindows nl_X12_423 (by omega) ⟨rfl, rfl, Nat.le_of_ble_eq_true rfl⟩ okX12 rfl (L_X12_whyNoWindows q3) ?_
  refine E_put d_X12_windowSet_12 okX12 fl_X12_73 ⟨by decide, rfl⟩ (Or.inl ⟨rfl, rfl⟩) (Or.inl rfl) h (fun σ4 h => ?_)
  refine E_aload_n d_X12_windowSet_15 rfl (by decide) ?_
  refine E_get d_X12_windowSet_16 okX12 fl_X12_73 ⟨by decide, rfl⟩ h (fun x5 h => ?_)
  refine E_if_le (tgt := 24) d_X12_windowSet_19 (by decide) h (fun _ h => ?_) (fun _ h => ?_)
  · refine E_aload_n d_X12_windowSet_24 rfl (by decide) ?_
    refine E_iload_n d_X12_windowSet_25 rfl ?_
    refine E_iload_n d_X12_windowSet_26 rfl ?_
    refine bd h (fun r6 q7 h => ?_)
    refine E_cV (as := [(0, v1), (0, v2)]) (st := []) (a := v0) d_X12_windowSet_27 mk_X12_windowsFor nl_X12_426 (by omega) ⟨rfl, rfl, Nat.le_of_ble_eq_true rfl⟩ okX12 rfl (L_X12_windowsFor q7) ?_
    refine E_istore_n d_X12_windowSet_30 (ls' := [(2, v0), (0, v1), (0, v2), (0, r6)]) ⟨by decide, rfl⟩ ?_
    refine E_iload_n d_X12_windowSet_31 rfl ?_
    refine E_if_ge (tgt := 44) d_X12_windowSet_32 (by decide) h (fun _ h => ?_) (fun _ h => ?_)
    · refine E_iload_n d_X12_windowSet_44 rfl ?_
      cases h
      exact E_iret d_X12_windowSet_45 rfl
    · refine E_aload_n d_X12_windowSet_35 rfl (by decide) ?_
      refine E_bipush d_X12_windowSet_36 (c8 rfl) ?_
      refine bd h (fun r8 q9 h => ?_)
      refine E_cV (as := [(0, 8)]) (st := []) (a := v0) d_X12_windowSet_38 mk_X12_refuse nl_X12_318 (by omega) ⟨rfl, rfl, Nat.le_of_ble_eq_true rfl⟩ okX12 rfl (L_X12_refuse q9) ?_
      refine E_goto (tgt := 45) d_X12_windowSet_41 (by decide) ?_
      cases h
      exact E_iret d_X12_windowSet_45 rfl
  · refine E_iconst d_X12_windowSet_22 (c32 rfl) ?_
    cases h
    exact E_iret d_X12_windowSet_23 rfl
noncomputable def f_X12_windowSet (v0 v1 v2 : Int) (σ : Mem) : Option (Int × Mem) := if isO Sh 12 v0 = true then f_X12_windowSet_b0 v0 v1 v2 σ else none
theorem L_X12_windowSet {o : Int × Mem} {v0 v1 v2 : Int} {σ : Mem} (h : f_X12_windowSet v0 v1 v2 σ = some o) : (isO Sh 12 v0 = true ∧ Cn mt_X12_windowSet 6 [(2, v0), (0, v1), (0, v2)] Sh σ (some (0, o.1)) Sh o.2) := ⟨(ite_ok h).1, Cn_of mk_X12_windowSet.1.2.2.1 (Nat.le_of_ble_eq_true rfl) (fun sc => L_X12_windowSet_b0 (ite_ok h).2)⟩
theorem d_X12_stepsTo_0 : decode mt_X12_stepsTo.2.1 0 = .ok (.iload_n 1, 1) := by decide +kernel
theorem d_X12_stepsTo_1 : decode mt_X12_stepsTo.2.1 1 = .ok (.istore 4, 2) := by decide +kernel
theorem d_X12_stepsTo_3 : decode mt_X12_stepsTo.2.1 3 = .ok (.iconst 0, 1) := by decide +kernel
theorem d_X12_stepsTo_4 : decode mt_X12_stepsTo.2.1 4 = .ok (.istore 5, 2) := by decide +kernel
theorem d_X12_stepsTo_6 : decode mt_X12_stepsTo.2.1 6 = .ok (.iload 5, 2) := by decide +kernel
theorem d_X12_stepsTo_8 : decode mt_X12_stepsTo.2.1 8 = .ok (.aload_n 0, 1) := by decide +kernel
theorem d_X12_stepsTo_9 : decode mt_X12_stepsTo.2.1 9 = .ok (.getfield 35, 3) := by decide +kernel
theorem d_X12_stepsTo_12 : decode mt_X12_stepsTo.2.1 12 = .ok (.iconst 0, 1) := by decide +kernel
theorem d_X12_stepsTo_13 : decode mt_X12_stepsTo.2.1 13 = .ok (.iaload, 1) := by decide +kernel
theorem d_X12_stepsTo_14 : decode mt_X12_stepsTo.2.1 14 = .ok (.if_icmp .ge 49, 3) := by decide +kernel
theorem d_X12_stepsTo_17 : decode mt_X12_stepsTo.2.1 17 = .ok (.aload_n 0, 1) := by decide +kernel
theorem d_X12_stepsTo_18 : decode mt_X12_stepsTo.2.1 18 = .ok (.iload 4, 2) := by decide +kernel
theorem d_X12_stepsTo_20 : decode mt_X12_stepsTo.2.1 20 = .ok (.invokevirtual 305, 3) := by decide +kernel
theorem d_X12_stepsTo_23 : decode mt_X12_stepsTo.2.1 23 = .ok (.ifCond .ne 5, 3) := by decide +kernel
theorem d_X12_stepsTo_26 : decode mt_X12_stepsTo.2.1 26 = .ok (.iconst (-1), 1) := by decide +kernel
theorem d_X12_stepsTo_27 : decode mt_X12_stepsTo.2.1 27 = .ok (.ireturn, 1) := by decide +kernel
theorem d_X12_stepsTo_28 : decode mt_X12_stepsTo.2.1 28 = .ok (.iload 4, 2) := by decide +kernel
theorem d_X12_stepsTo_30 : decode mt_X12_stepsTo.2.1 30 = .ok (.iload_n 2, 1) := by decide +kernel
theorem d_X12_stepsTo_31 : decode mt_X12_stepsTo.2.1 31 = .ok (.if_icmp .ne 6, 3) := by decide +kernel
theorem d_X12_stepsTo_34 : decode mt_X12_stepsTo.2.1 34 = .ok (.iload 5, 2) := by decide +kernel
theorem d_X12_stepsTo_36 : decode mt_X12_stepsTo.2.1 36 = .ok (.ireturn, 1) := by decide +kernel
theorem d_X12_stepsTo_37 : decode mt_X12_stepsTo.2.1 37 = .ok (.iload 4, 2) := by decide +kernel
theorem d_X12_stepsTo_39 : decode mt_X12_stepsTo.2.1 39 = .ok (.iload_n 3, 1) := by decide +kernel
theorem d_X12_stepsTo_40 : decode mt_X12_stepsTo.2.1 40 = .ok (.iadd, 1) := by decide +kernel
theorem d_X12_stepsTo_41 : decode mt_X12_stepsTo.2.1 41 = .ok (.aload_n 0, 1) := by decide +kernel
theorem d_X12_stepsTo_42 : decode mt_X12_stepsTo.2.1 42 = .ok (.getfield 35, 3) := by decide +kernel
theorem d_X12_stepsTo_45 : decode mt_X12_stepsTo.2.1 45 = .ok (.iconst 0, 1) := by decide +kernel
theorem d_X12_stepsTo_46 : decode mt_X12_stepsTo.2.1 46 = .ok (.iaload, 1) := by decide +kernel
theorem d_X12_stepsTo_47 : decode mt_X12_stepsTo.2.1 47 = .ok (.iadd, 1) := by decide +kernel
theorem d_X12_stepsTo_48 : decode mt_X12_stepsTo.2.1 48 = .ok (.aload_n 0, 1) := by decide +kernel
theorem d_X12_stepsTo_49 : decode mt_X12_stepsTo.2.1 49 = .ok (.getfield 35, 3) := by decide +kernel
theorem d_X12_stepsTo_52 : decode mt_X12_stepsTo.2.1 52 = .ok (.iconst 0, 1) := by decide +kernel
theorem d_X12_stepsTo_53 : decode mt_X12_stepsTo.2.1 53 = .ok (.iaload, 1) := by decide +kernel
theorem d_X12_stepsTo_54 : decode mt_X12_stepsTo.2.1 54 = .ok (.irem, 1) := by decide +kernel
theorem d_X12_stepsTo_55 : decode mt_X12_stepsTo.2.1 55 = .ok (.istore 4, 2) := by decide +kernel
theorem d_X12_stepsTo_57 : decode mt_X12_stepsTo.2.1 57 = .ok (.iinc 5 1, 3) := by decide +kernel
theorem d_X12_stepsTo_60 : decode mt_X12_stepsTo.2.1 60 = .ok (.goto (-54), 3) := by decide +kernel
theorem d_X12_stepsTo_63 : decode mt_X12_stepsTo.2.1 63 = .ok (.iconst (-1), 1) := by decide +kernel
theorem d_X12_stepsTo_64 : decode mt_X12_stepsTo.2.1 64 = .ok (.ireturn, 1) := by decide +kernel
noncomputable def f_X12_stepsTo_b6 (k6 : (Int → Int → Int → Int → Int → Mem → Option (Int))) (v0 v2 v3 v4 v5 : Int) (σ : Mem) : Option (Int) :=
  (gf Sh σ 12 v0 20).bind fun x1 =>
  (al Sh σ 20 x1 0).bind fun x2 =>
  if x2 ≤ v5 then
    some ((-1))
  else
    (f_X12_isStoneAt v0 v4 σ).bind fun r3 =>
    if r3 = 0 then
      some ((-1))
    else
      if v4 = v2 then
        some (v5)
      else
        (gf Sh σ 12 v0 20).bind fun x5 =>
        (al Sh σ 20 x5 0).bind fun x6 =>
        (gf Sh σ 12 v0 20).bind fun x7 =>
        (al Sh σ 20 x7 0).bind fun x8 =>
        (nz x8).bind fun _ =>
        k6 v0 v2 v3 (w32 (Int.tmod (w32 (w32 (v4 + v3) + x6)) x8)) (w32 (v5 + 1)) σ
theorem L_X12_stepsTo_b6 {sc : Nat × (Nat → Int32)} {o : Int} {σ : Mem} {k6 : (Int → Int → Int → Int → Int → Mem → Option (Int))} (hk6 : ∀ {v0 v2 v3 v4 v5 : Int}, k6 v0 v2 v3 v4 v5 σ = some o → E sc (Fm Sh (some (0, o)) Sh σ) mt_X12_stepsTo 2 Sh Sh 6 [(2, v0), (9, 0), (0, v2), (0, v3), (0, v4), (0, v5)] [] Sh σ) {v0 v2 v3 v4 v5 : Int} (h : f_X12_stepsTo_b6 k6 v0 v2 v3 v4 v5 σ = some o) : E sc (Fm Sh (some (0, o)) Sh σ) mt_X12_stepsTo 2 Sh Sh 6 [(2, v0), (9, 0), (0, v2), (0, v3), (0, v4), (0, v5)] [] Sh σ := by
  unfold f_X12_stepsTo_b6 at h
  refine E_iload d_X12_stepsTo_6 rfl ?_
  refine E_aload_n d_X12_stepsTo_8 rfl (by decide) ?_
  refine E_get d_X12_stepsTo_9 okX12 fl_X12_35 ⟨by decide, rfl⟩ h (fun x1 h => ?_)
  refine E_iconst d_X12_stepsTo_12 (c32 rfl) ?_
  refine E_iaload d_X12_stepsTo_13 h (fun x2 h => ?_)
  refine E_icmp_ge (tgt := 63) d_X12_stepsTo_14 (by decide) h (fun _ h => ?_) (fun _ h => ?_)
  · refine E_iconst d_X12_stepsTo_63 (c32 rfl) ?_
    cases h
    exact E_iret d_X12_stepsTo_64 rfl
  · refine E_aload_n d_X12_stepsTo_17 rfl (by decide) ?_
    refine E_iload d_X12_stepsTo_18 rfl ?_
    refine bd h (fun r3 q4 h => ?_)
    refine E_cV (as := [(0, v4)]) (st := []) (a := v0) d_X12_stepsTo_20 mk_X12_isStoneAt nl_X12_305 (by omega) ⟨rfl, rfl, Nat.le_of_ble_eq_true rfl⟩ okX12 rfl (L_X12_isStoneAt q4) ?_
    refine E_if_ne (tgt := 28) d_X12_stepsTo_23 (by decide) h (fun _ h => ?_) (fun _ h => ?_)
    · refine E_iconst d_X12_stepsTo_26 (c32 rfl) ?_
      cases h
      exact E_iret d_X12_stepsTo_27 rfl
    · refine E_iload d_X12_stepsTo_28 rfl ?_
      refine E_iload_n d_X12_stepsTo_30 rfl ?_
      refine E_icmp_ne (tgt := 37) d_X12_stepsTo_31 (by decide) h (fun _ h => ?_) (fun _ h => ?_)
      · refine E_iload d_X12_stepsTo_34 rfl ?_
        cases h
        exact E_iret d_X12_stepsTo_36 rfl
      · refine E_iload d_X12_stepsTo_37 rfl ?_
        refine E_iload_n d_X12_stepsTo_39 rfl ?_
        refine E_iadd d_X12_stepsTo_40 ?_
        refine E_aload_n d_X12_stepsTo_41 rfl (by decide) ?_
        refine E_get d_X12_stepsTo_42 okX12 fl_X12_35 ⟨by decide, rfl⟩ h (fun x5 h => ?_)
        refine E_iconst d_X12_stepsTo_45 (c32 rfl) ?_
        refine E_iaload d_X12_stepsTo_46 h (fun x6 h => ?_)
        refine E_iadd d_X12_stepsTo_47 ?_
        refine E_aload_n d_X12_stepsTo_48 rfl (by decide) ?_
        refine E_get d_X12_stepsTo_49 okX12 fl_X12_35 ⟨by decide, rfl⟩ h (fun x7 h => ?_)
        refine E_iconst d_X12_stepsTo_52 (c32 rfl) ?_
        refine E_iaload d_X12_stepsTo_53 h (fun x8 h => ?_)
        refine bd_nz h (fun q9 h => ?_)
        refine E_irem d_X12_stepsTo_54 q9 ?_
        refine E_istore d_X12_stepsTo_55 (ls' := [(2, v0), (9, 0), (0, v2), (0, v3), (0, w32 (Int.tmod (w32 (w32 (v4 + v3) + x6)) x8)), (0, v5)]) ⟨by decide, rfl⟩ ?_
        refine E_iinc d_X12_stepsTo_57 (ls' := [(2, v0), (9, 0), (0, v2), (0, v3), (0, w32 (Int.tmod (w32 (w32 (v4 + v3) + x6)) x8)), (0, w32 (v5 + 1))]) rfl ⟨by decide, rfl⟩ ?_
        refine E_goto (tgt := 6) d_X12_stepsTo_60 (by decide) ?_
        exact (hk6 h)
noncomputable def f_X12_stepsTo_h6 (n : Nat) : Int → Int → Int → Int → Int → Mem → Option (Int) := Nat.rec (motive := fun _ => Int → Int → Int → Int → Int → Mem → Option (Int)) (fun _ _ _ _ _ _ => none) (fun _ ih => f_X12_stepsTo_b6 (ih)) n
theorem L_X12_stepsTo_h6 {sc : Nat × (Nat → Int32)} {o : Int} {σ : Mem} : ∀ (n : Nat) {v0 v2 v3 v4 v5 : Int}, f_X12_stepsTo_h6 n v0 v2 v3 v4 v5 σ = some o → E sc (Fm Sh (some (0, o)) Sh σ) mt_X12_stepsTo 2 Sh Sh 6 [(2, v0), (9, 0), (0, v2), (0, v3), (0, v4), (0, v5)] [] Sh σ := by
  intro n
  induction n with
  | zero => intro v0 v2 v3 v4 v5 h; cases h
  | succ n ih => intro v0 v2 v3 v4 v5 h; exact L_X12_stepsTo_b6 (@ih) h
noncomputable def f_X12_stepsTo_b0 (v0 v1 v2 v3 : Int) (σ : Mem) : Option (Int) :=
  f_X12_stepsTo_h6 FU v0 v2 v3 v1 0 σ
theorem L_X12_stepsTo_b0 {sc : Nat × (Nat → Int32)} {o : Int} {σ : Mem} {v0 v1 v2 v3 : Int} (h : f_X12_stepsTo_b0 v0 v1 v2 v3 σ = some o) : E sc (Fm Sh (some (0, o)) Sh σ) mt_X12_stepsTo 2 Sh Sh 0 [(2, v0), (0, v1), (0, v2), (0, v3), (9, 0), (9, 0)] [] Sh σ := by
  unfold f_X12_stepsTo_b0 at h
  refine E_iload_n d_X12_stepsTo_0 rfl ?_
  refine E_istore d_X12_stepsTo_1 (ls' := [(2, v0), (0, v1), (0, v2), (0, v3), (0, v1), (9, 0)]) ⟨by decide, rfl⟩ ?_
  refine E_iconst d_X12_stepsTo_3 (c32 rfl) ?_
  refine E_istore d_X12_stepsTo_4 (ls' := [(2, v0), (0, v1), (0, v2), (0, v3), (0, v1), (0, 0)]) ⟨by decide, rfl⟩ ?_
  exact E_weak (ls' := [(2, v0), (9, 0), (0, v2), (0, v3), (0, v1), (0, 0)]) ⟨Or.inr rfl, Or.inl rfl, Or.inr rfl, Or.inr rfl, Or.inr rfl, Or.inr rfl, trivial⟩ (L_X12_stepsTo_h6 FU h)
noncomputable def f_X12_stepsTo (v0 v1 v2 v3 : Int) (σ : Mem) : Option (Int) := if isO Sh 12 v0 = true then f_X12_stepsTo_b0 v0 v1 v2 v3 σ else none
theorem L_X12_stepsTo {o : Int} {v0 v1 v2 v3 : Int} {σ : Mem} (h : f_X12_stepsTo v0 v1 v2 v3 σ = some o) : (isO Sh 12 v0 = true ∧ Cn mt_X12_stepsTo 2 [(2, v0), (0, v1), (0, v2), (0, v3)] Sh σ (some (0, o)) Sh σ) := ⟨(ite_ok h).1, Cn_of mk_X12_stepsTo.1.2.2.1 (Nat.le_of_ble_eq_true rfl) (fun sc => L_X12_stepsTo_b0 (ite_ok h).2)⟩
theorem d_X12_walkOf_0 : decode mt_X12_walkOf.2.1 0 = .ok (.aload_n 0, 1) := by decide +kernel
theorem d_X12_walkOf_1 : decode mt_X12_walkOf.2.1 1 = .ok (.iload_n 1, 1) := by decide +kernel
theorem d_X12_walkOf_2 : decode mt_X12_walkOf.2.1 2 = .ok (.iload_n 2, 1) := by decide +kernel
theorem d_X12_walkOf_3 : decode mt_X12_walkOf.2.1 3 = .ok (.iconst 1, 1) := by decide +kernel
theorem d_X12_walkOf_4 : decode mt_X12_walkOf.2.1 4 = .ok (.invokevirtual 429, 3) := by decide +kernel
theorem d_X12_walkOf_7 : decode mt_X12_walkOf.2.1 7 = .ok (.istore_n 3, 1) := by decide +kernel
theorem d_X12_walkOf_8 : decode mt_X12_walkOf.2.1 8 = .ok (.aload_n 0, 1) := by decide +kernel
theorem d_X12_walkOf_9 : decode mt_X12_walkOf.2.1 9 = .ok (.iload_n 1, 1) := by decide +kernel
theorem d_X12_walkOf_10 : decode mt_X12_walkOf.2.1 10 = .ok (.iload_n 2, 1) := by decide +kernel
theorem d_X12_walkOf_11 : decode mt_X12_walkOf.2.1 11 = .ok (.iconst (-1), 1) := by decide +kernel
theorem d_X12_walkOf_12 : decode mt_X12_walkOf.2.1 12 = .ok (.invokevirtual 429, 3) := by decide +kernel
theorem d_X12_walkOf_15 : decode mt_X12_walkOf.2.1 15 = .ok (.istore 4, 2) := by decide +kernel
theorem d_X12_walkOf_17 : decode mt_X12_walkOf.2.1 17 = .ok (.aload_n 0, 1) := by decide +kernel
theorem d_X12_walkOf_18 : decode mt_X12_walkOf.2.1 18 = .ok (.iload_n 3, 1) := by decide +kernel
theorem d_X12_walkOf_19 : decode mt_X12_walkOf.2.1 19 = .ok (.ifCond .lt 14, 3) := by decide +kernel
theorem d_X12_walkOf_22 : decode mt_X12_walkOf.2.1 22 = .ok (.iload 4, 2) := by decide +kernel
theorem d_X12_walkOf_24 : decode mt_X12_walkOf.2.1 24 = .ok (.ifCond .lt 13, 3) := by decide +kernel
theorem d_X12_walkOf_27 : decode mt_X12_walkOf.2.1 27 = .ok (.iload 4, 2) := by decide +kernel
theorem d_X12_walkOf_29 : decode mt_X12_walkOf.2.1 29 = .ok (.iload_n 3, 1) := by decide +kernel
theorem d_X12_walkOf_30 : decode mt_X12_walkOf.2.1 30 = .ok (.if_icmp .ge 7, 3) := by decide +kernel
theorem d_X12_walkOf_33 : decode mt_X12_walkOf.2.1 33 = .ok (.iconst (-1), 1) := by decide +kernel
theorem d_X12_walkOf_34 : decode mt_X12_walkOf.2.1 34 = .ok (.goto 4, 3) := by decide +kernel
theorem d_X12_walkOf_37 : decode mt_X12_walkOf.2.1 37 = .ok (.iconst 1, 1) := by decide +kernel
theorem d_X12_walkOf_38 : decode mt_X12_walkOf.2.1 38 = .ok (.putfield 433, 3) := by decide +kernel
theorem d_X12_walkOf_41 : decode mt_X12_walkOf.2.1 41 = .ok (.aload_n 0, 1) := by decide +kernel
theorem d_X12_walkOf_42 : decode mt_X12_walkOf.2.1 42 = .ok (.getfield 433, 3) := by decide +kernel
theorem d_X12_walkOf_45 : decode mt_X12_walkOf.2.1 45 = .ok (.iconst 1, 1) := by decide +kernel
theorem d_X12_walkOf_46 : decode mt_X12_walkOf.2.1 46 = .ok (.if_icmp .ne 7, 3) := by decide +kernel
theorem d_X12_walkOf_49 : decode mt_X12_walkOf.2.1 49 = .ok (.iload_n 3, 1) := by decide +kernel
theorem d_X12_walkOf_50 : decode mt_X12_walkOf.2.1 50 = .ok (.goto 5, 3) := by decide +kernel
theorem d_X12_walkOf_53 : decode mt_X12_walkOf.2.1 53 = .ok (.iload 4, 2) := by decide +kernel
theorem d_X12_walkOf_55 : decode mt_X12_walkOf.2.1 55 = .ok (.ireturn, 1) := by decide +kernel
noncomputable def f_X12_walkOf_b38 (v0 v3 v4 s0 s1 : Int) (σ : Mem) : Option (Int × Mem) :=
  (pf Sh σ 12 s1 32 s0).bind fun σ5 =>
  (gf Sh σ5 12 v0 32).bind fun x6 =>
  if x6 = 1 then
    some (v3, σ5)
  else
    some (v4, σ5)
theorem L_X12_walkOf_b38 {sc : Nat × (Nat → Int32)} {o : Int × Mem} {v0 v3 v4 s0 s1 : Int} {σ : Mem} (h : f_X12_walkOf_b38 v0 v3 v4 s0 s1 σ = some o) : E sc (Fm Sh (some (0, o.1)) Sh o.2) mt_X12_walkOf 3 Sh Sh 38 [(2, v0), (9, 0), (9, 0), (0, v3), (0, v4)] [(0, s0), (2, s1)] Sh σ := by
  unfold f_X12_walkOf_b38 at h
  refine E_put d_X12_walkOf_38 okX12 fl_X12_433 ⟨by decide, rfl⟩ (Or.inl ⟨rfl, rfl⟩) (Or.inl rfl) h (fun σ5 h => ?_)
  refine E_aload_n d_X12_walkOf_41 rfl (by decide) ?_
  refine E_get d_X12_walkOf_42 okX12 fl_X12_433 ⟨by decide, rfl⟩ h (fun x6 h => ?_)
  refine E_iconst d_X12_walkOf_45 (c32 rfl) ?_
  refine E_icmp_ne (tgt := 53) d_X12_walkOf_46 (by decide) h (fun _ h => ?_) (fun _ h => ?_)
  · refine E_iload_n d_X12_walkOf_49 rfl ?_
    refine E_goto (tgt := 55) d_X12_walkOf_50 (by decide) ?_
    cases h
    exact E_iret d_X12_walkOf_55 rfl
  · refine E_iload d_X12_walkOf_53 rfl ?_
    cases h
    exact E_iret d_X12_walkOf_55 rfl
noncomputable def f_X12_walkOf_b33 (v0 v3 v4 s0 : Int) (σ : Mem) : Option (Int × Mem) :=
  f_X12_walkOf_b38 v0 v3 v4 (-1) s0 σ
theorem L_X12_walkOf_b33 {sc : Nat × (Nat → Int32)} {o : Int × Mem} {v0 v3 v4 s0 : Int} {σ : Mem} (h : f_X12_walkOf_b33 v0 v3 v4 s0 σ = some o) : E sc (Fm Sh (some (0, o.1)) Sh o.2) mt_X12_walkOf 3 Sh Sh 33 [(2, v0), (9, 0), (9, 0), (0, v3), (0, v4)] [(2, s0)] Sh σ := by
  unfold f_X12_walkOf_b33 at h
  refine E_iconst d_X12_walkOf_33 (c32 rfl) ?_
  refine E_goto (tgt := 38) d_X12_walkOf_34 (by decide) ?_
  exact (L_X12_walkOf_b38 h)
noncomputable def f_X12_walkOf_b37 (v0 v3 v4 s0 : Int) (σ : Mem) : Option (Int × Mem) :=
  f_X12_walkOf_b38 v0 v3 v4 1 s0 σ
theorem L_X12_walkOf_b37 {sc : Nat × (Nat → Int32)} {o : Int × Mem} {v0 v3 v4 s0 : Int} {σ : Mem} (h : f_X12_walkOf_b37 v0 v3 v4 s0 σ = some o) : E sc (Fm Sh (some (0, o.1)) Sh o.2) mt_X12_walkOf 3 Sh Sh 37 [(2, v0), (9, 0), (9, 0), (0, v3), (0, v4)] [(2, s0)] Sh σ := by
  unfold f_X12_walkOf_b37 at h
  refine E_iconst d_X12_walkOf_37 (c32 rfl) ?_
  exact (L_X12_walkOf_b38 h)
noncomputable def f_X12_walkOf_b0 (v0 v1 v2 : Int) (σ : Mem) : Option (Int × Mem) :=
  (f_X12_stepsTo v0 v1 v2 1 σ).bind fun r1 =>
  (f_X12_stepsTo v0 v1 v2 (-1) σ).bind fun r3 =>
  if r1 < 0 then
    f_X12_walkOf_b33 v0 r1 r3 v0 σ
  else
    if r3 < 0 then
      f_X12_walkOf_b37 v0 r1 r3 v0 σ
    else
      if r1 ≤ r3 then
        f_X12_walkOf_b37 v0 r1 r3 v0 σ
      else
        f_X12_walkOf_b33 v0 r1 r3 v0 σ
theorem L_X12_walkOf_b0 {sc : Nat × (Nat → Int32)} {o : Int × Mem} {v0 v1 v2 : Int} {σ : Mem} (h : f_X12_walkOf_b0 v0 v1 v2 σ = some o) : E sc (Fm Sh (some (0, o.1)) Sh o.2) mt_X12_walkOf 3 Sh Sh 0 [(2, v0), (0, v1), (0, v2), (9, 0), (9, 0)] [] Sh σ := by
  unfold f_X12_walkOf_b0 at h
  refine E_aload_n d_X12_walkOf_0 rfl (by decide) ?_
  refine E_iload_n d_X12_walkOf_1 rfl ?_
  refine E_iload_n d_X12_walkOf_2 rfl ?_
  refine E_iconst d_X12_walkOf_3 (c32 rfl) ?_
  refine bd h (fun r1 q2 h => ?_)
  refine E_cV (as := [(0, v1), (0, v2), (0, 1)]) (st := []) (a := v0) d_X12_walkOf_4 mk_X12_stepsTo nl_X12_429 (by omega) ⟨rfl, rfl, Nat.le_of_ble_eq_true rfl⟩ okX12 rfl (L_X12_stepsTo q2) ?_
  refine E_istore_n d_X12_walkOf_7 (ls' := [(2, v0), (0, v1), (0, v2), (0, r1), (9, 0)]) ⟨by decide, rfl⟩ ?_
  refine E_aload_n d_X12_walkOf_8 rfl (by decide) ?_
  refine E_iload_n d_X12_walkOf_9 rfl ?_
  refine E_iload_n d_X12_walkOf_10 rfl ?_
  refine E_iconst d_X12_walkOf_11 (c32 rfl) ?_
  refine bd h (fun r3 q4 h => ?_)
  refine E_cV (as := [(0, v1), (0, v2), (0, (-1))]) (st := []) (a := v0) d_X12_walkOf_12 mk_X12_stepsTo nl_X12_429 (by omega) ⟨rfl, rfl, Nat.le_of_ble_eq_true rfl⟩ okX12 rfl (L_X12_stepsTo q4) ?_
  refine E_istore d_X12_walkOf_15 (ls' := [(2, v0), (0, v1), (0, v2), (0, r1), (0, r3)]) ⟨by decide, rfl⟩ ?_
  refine E_aload_n d_X12_walkOf_17 rfl (by decide) ?_
  refine E_iload_n d_X12_walkOf_18 rfl ?_
  refine E_if_lt (tgt := 33) d_X12_walkOf_19 (by decide) h (fun _ h => ?_) (fun _ h => ?_)
  · exact E_weak (ls' := [(2, v0), (9, 0), (9, 0), (0, r1), (0, r3)]) ⟨Or.inr rfl, Or.inl rfl, Or.inl rfl, Or.inr rfl, Or.inr rfl, trivial⟩ (L_X12_walkOf_b33 h)
  · refine E_iload d_X12_walkOf_22 rfl ?_
    refine E_if_lt (tgt := 37) d_X12_walkOf_24 (by decide) h (fun _ h => ?_) (fun _ h => ?_)
    · exact E_weak (ls' := [(2, v0), (9, 0), (9, 0), (0, r1), (0, r3)]) ⟨Or.inr rfl, Or.inl rfl, Or.inl rfl, Or.inr rfl, Or.inr rfl, trivial⟩ (L_X12_walkOf_b37 h)
    · refine E_iload d_X12_walkOf_27 rfl ?_
      refine E_iload_n d_X12_walkOf_29 rfl ?_
      refine E_icmp_ge (tgt := 37) d_X12_walkOf_30 (by decide) h (fun _ h => ?_) (fun _ h => ?_)
      · exact E_weak (ls' := [(2, v0), (9, 0), (9, 0), (0, r1), (0, r3)]) ⟨Or.inr rfl, Or.inl rfl, Or.inl rfl, Or.inr rfl, Or.inr rfl, trivial⟩ (L_X12_walkOf_b37 h)
      · exact E_weak (ls' := [(2, v0), (9, 0), (9, 0), (0, r1), (0, r3)]) ⟨Or.inr rfl, Or.inl rfl, Or.inl rfl, Or.inr rfl, Or.inr rfl, trivial⟩ (L_X12_walkOf_b33 h)
noncomputable def f_X12_walkOf (v0 v1 v2 : Int) (σ : Mem) : Option (Int × Mem) := if isO Sh 12 v0 = true then f_X12_walkOf_b0 v0 v1 v2 σ else none
theorem L_X12_walkOf {o : Int × Mem} {v0 v1 v2 : Int} {σ : Mem} (h : f_X12_walkOf v0 v1 v2 σ = some o) : (isO Sh 12 v0 = true ∧ Cn mt_X12_walkOf 3 [(2, v0), (0, v1), (0, v2)] Sh σ (some (0, o.1)) Sh o.2) := ⟨(ite_ok h).1, Cn_of mk_X12_walkOf.1.2.2.1 (Nat.le_of_ble_eq_true rfl) (fun sc => L_X12_walkOf_b0 (ite_ok h).2)⟩
theorem d_X12_walk_0 : decode mt_X12_walk.2.1 0 = .ok (.aload_n 0, 1) := by decide +kernel
theorem d_X12_walk_1 : decode mt_X12_walk.2.1 1 = .ok (.iconst 0, 1) := by decide +kernel
theorem d_X12_walk_2 : decode mt_X12_walk.2.1 2 = .ok (.putfield 70, 3) := by decide +kernel
theorem d_X12_walk_5 : decode mt_X12_walk.2.1 5 = .ok (.aload_n 0, 1) := by decide +kernel
theorem d_X12_walk_6 : decode mt_X12_walk.2.1 6 = .ok (.iconst 0, 1) := by decide +kernel
theorem d_X12_walk_7 : decode mt_X12_walk.2.1 7 = .ok (.putfield 73, 3) := by decide +kernel
theorem d_X12_walk_10 : decode mt_X12_walk.2.1 10 = .ok (.aload_n 0, 1) := by decide +kernel
theorem d_X12_walk_11 : decode mt_X12_walk.2.1 11 = .ok (.iload_n 1, 1) := by decide +kernel
theorem d_X12_walk_12 : decode mt_X12_walk.2.1 12 = .ok (.i2l, 1) := by decide +kernel
theorem d_X12_walk_13 : decode mt_X12_walk.2.1 13 = .ok (.invokevirtual 330, 3) := by decide +kernel
theorem d_X12_walk_16 : decode mt_X12_walk.2.1 16 = .ok (.ifCond .eq 12, 3) := by decide +kernel
theorem d_X12_walk_19 : decode mt_X12_walk.2.1 19 = .ok (.aload_n 0, 1) := by decide +kernel
theorem d_X12_walk_20 : decode mt_X12_walk.2.1 20 = .ok (.iload_n 2, 1) := by decide +kernel
theorem d_X12_walk_21 : decode mt_X12_walk.2.1 21 = .ok (.i2l, 1) := by decide +kernel
theorem d_X12_walk_22 : decode mt_X12_walk.2.1 22 = .ok (.invokevirtual 330, 3) := by decide +kernel
theorem d_X12_walk_25 : decode mt_X12_walk.2.1 25 = .ok (.ifCond .ne 9, 3) := by decide +kernel
theorem d_X12_walk_28 : decode mt_X12_walk.2.1 28 = .ok (.aload_n 0, 1) := by decide +kernel
theorem d_X12_walk_29 : decode mt_X12_walk.2.1 29 = .ok (.iconst 2, 1) := by decide +kernel
theorem d_X12_walk_30 : decode mt_X12_walk.2.1 30 = .ok (.invokevirtual 318, 3) := by decide +kernel
theorem d_X12_walk_33 : decode mt_X12_walk.2.1 33 = .ok (.ireturn, 1) := by decide +kernel
theorem d_X12_walk_34 : decode mt_X12_walk.2.1 34 = .ok (.aload_n 0, 1) := by decide +kernel
theorem d_X12_walk_35 : decode mt_X12_walk.2.1 35 = .ok (.iload_n 1, 1) := by decide +kernel
theorem d_X12_walk_36 : decode mt_X12_walk.2.1 36 = .ok (.iload_n 2, 1) := by decide +kernel
theorem d_X12_walk_37 : decode mt_X12_walk.2.1 37 = .ok (.invokevirtual 436, 3) := by decide +kernel
theorem d_X12_walk_40 : decode mt_X12_walk.2.1 40 = .ok (.istore_n 3, 1) := by decide +kernel
theorem d_X12_walk_41 : decode mt_X12_walk.2.1 41 = .ok (.iload_n 3, 1) := by decide +kernel
theorem d_X12_walk_42 : decode mt_X12_walk.2.1 42 = .ok (.ifCond .ge 12, 3) := by decide +kernel
theorem d_X12_walk_45 : decode mt_X12_walk.2.1 45 = .ok (.aload_n 0, 1) := by decide +kernel
theorem d_X12_walk_46 : decode mt_X12_walk.2.1 46 = .ok (.bipush 8, 2) := by decide +kernel
theorem d_X12_walk_48 : decode mt_X12_walk.2.1 48 = .ok (.invokevirtual 318, 3) := by decide +kernel
theorem d_X12_walk_51 : decode mt_X12_walk.2.1 51 = .ok (.goto 4, 3) := by decide +kernel
theorem d_X12_walk_54 : decode mt_X12_walk.2.1 54 = .ok (.iload_n 3, 1) := by decide +kernel
theorem d_X12_walk_55 : decode mt_X12_walk.2.1 55 = .ok (.ireturn, 1) := by decide +kernel
noncomputable def f_X12_walk_b28 (v0 : Int) (σ : Mem) : Option (Int × Mem) :=
  (f_X12_refuse v0 2 σ).bind fun r11 =>
  some (r11.1, r11.2)
theorem L_X12_walk_b28 {sc : Nat × (Nat → Int32)} {o : Int × Mem} {v0 : Int} {σ : Mem} (h : f_X12_walk_b28 v0 σ = some o) : E sc (Fm Sh (some (0, o.1)) Sh o.2) mt_X12_walk 4 Sh Sh 28 [(2, v0), (9, 0), (9, 0), (9, 0)] [] Sh σ := by
  unfold f_X12_walk_b28 at h
  refine E_aload_n d_X12_walk_28 rfl (by decide) ?_
  refine E_iconst d_X12_walk_29 (c32 rfl) ?_
  refine bd h (fun r11 q12 h => ?_)
  refine E_cV (as := [(0, 2)]) (st := []) (a := v0) d_X12_walk_30 mk_X12_refuse nl_X12_318 (by omega) ⟨rfl, rfl, Nat.le_of_ble_eq_true rfl⟩ okX12 rfl (L_X12_refuse q12) ?_
  cases h
  exact E_iret d_X12_walk_33 rfl
noncomputable def f_X12_walk_b0 (v0 v1 v2 : Int) (σ : Mem) : Option (Int × Mem) :=
  (pf Sh σ 12 v0 1 0).bind fun σ1 =>
  (pf Sh σ1 12 v0 0 0).bind fun σ2 =>
  (f_X12_isPlaceAt v0 v1 σ2).bind fun r3 =>
  if r3 = 0 then
    f_X12_walk_b28 v0 σ2
  else
    (f_X12_isPlaceAt v0 v2 σ2).bind fun r5 =>
    if r5 = 0 then
      f_X12_walk_b28 v0 σ2
    else
      (f_X12_walkOf v0 v1 v2 σ2).bind fun r7 =>
      if 0 ≤ r7.1 then
        some (r7.1, r7.2)
      else
        (f_X12_refuse v0 8 r7.2).bind fun r9 =>
        some (r9.1, r9.2)
theorem L_X12_walk_b0 {sc : Nat × (Nat → Int32)} {o : Int × Mem} {v0 v1 v2 : Int} {σ : Mem} (h : f_X12_walk_b0 v0 v1 v2 σ = some o) : E sc (Fm Sh (some (0, o.1)) Sh o.2) mt_X12_walk 4 Sh Sh 0 [(2, v0), (0, v1), (0, v2), (9, 0)] [] Sh σ := by
  unfold f_X12_walk_b0 at h
  refine E_aload_n d_X12_walk_0 rfl (by decide) ?_
  refine E_iconst d_X12_walk_1 (c32 rfl) ?_
  refine E_put d_X12_walk_2 okX12 fl_X12_70 ⟨by decide, rfl⟩ (Or.inl ⟨rfl, rfl⟩) (Or.inl rfl) h (fun σ1 h => ?_)
  refine E_aload_n d_X12_walk_5 rfl (by decide) ?_
  refine E_iconst d_X12_walk_6 (c32 rfl) ?_
  refine E_put d_X12_walk_7 okX12 fl_X12_73 ⟨by decide, rfl⟩ (Or.inl ⟨rfl, rfl⟩) (Or.inl rfl) h (fun σ2 h => ?_)
  refine E_aload_n d_X12_walk_10 rfl (by decide) ?_
  refine E_iload_n d_X12_walk_11 rfl ?_
  refine E_i2l d_X12_walk_12 ?_
  refine bd h (fun r3 q4 h => ?_)
  refine E_cV (as := [(1, v1)]) (st := []) (a := v0) d_X12_walk_13 mk_X12_isPlaceAt nl_X12_330 (by omega) ⟨rfl, rfl, Nat.le_of_ble_eq_true rfl⟩ okX12 rfl (L_X12_isPlaceAt q4) ?_
  refine E_if_eq (tgt := 28) d_X12_walk_16 (by decide) h (fun _ h => ?_) (fun _ h => ?_)
  · exact E_weak (ls' := [(2, v0), (9, 0), (9, 0), (9, 0)]) ⟨Or.inr rfl, Or.inl rfl, Or.inl rfl, Or.inl rfl, trivial⟩ (L_X12_walk_b28 h)
  · refine E_aload_n d_X12_walk_19 rfl (by decide) ?_
    refine E_iload_n d_X12_walk_20 rfl ?_
    refine E_i2l d_X12_walk_21 ?_
    refine bd h (fun r5 q6 h => ?_)
    refine E_cV (as := [(1, v2)]) (st := []) (a := v0) d_X12_walk_22 mk_X12_isPlaceAt nl_X12_330 (by omega) ⟨rfl, rfl, Nat.le_of_ble_eq_true rfl⟩ okX12 rfl (L_X12_isPlaceAt q6) ?_
    refine E_if_ne (tgt := 34) d_X12_walk_25 (by decide) h (fun _ h => ?_) (fun _ h => ?_)
    · exact E_weak (ls' := [(2, v0), (9, 0), (9, 0), (9, 0)]) ⟨Or.inr rfl, Or.inl rfl, Or.inl rfl, Or.inl rfl, trivial⟩ (L_X12_walk_b28 h)
    · refine E_aload_n d_X12_walk_34 rfl (by decide) ?_
      refine E_iload_n d_X12_walk_35 rfl ?_
      refine E_iload_n d_X12_walk_36 rfl ?_
      refine bd h (fun r7 q8 h => ?_)
      refine E_cV (as := [(0, v1), (0, v2)]) (st := []) (a := v0) d_X12_walk_37 mk_X12_walkOf nl_X12_436 (by omega) ⟨rfl, rfl, Nat.le_of_ble_eq_true rfl⟩ okX12 rfl (L_X12_walkOf q8) ?_
      refine E_istore_n d_X12_walk_40 (ls' := [(2, v0), (0, v1), (0, v2), (0, r7.1)]) ⟨by decide, rfl⟩ ?_
      refine E_iload_n d_X12_walk_41 rfl ?_
      refine E_if_ge (tgt := 54) d_X12_walk_42 (by decide) h (fun _ h => ?_) (fun _ h => ?_)
      · refine E_iload_n d_X12_walk_54 rfl ?_
        cases h
        exact E_iret d_X12_walk_55 rfl
      · refine E_aload_n d_X12_walk_45 rfl (by decide) ?_
        refine E_bipush d_X12_walk_46 (c8 rfl) ?_
        refine bd h (fun r9 q10 h => ?_)
        refine E_cV (as := [(0, 8)]) (st := []) (a := v0) d_X12_walk_48 mk_X12_refuse nl_X12_318 (by omega) ⟨rfl, rfl, Nat.le_of_ble_eq_true rfl⟩ okX12 rfl (L_X12_refuse q10) ?_
        refine E_goto (tgt := 55) d_X12_walk_51 (by decide) ?_
        cases h
        exact E_iret d_X12_walk_55 rfl
noncomputable def f_X12_walk (v0 v1 v2 : Int) (σ : Mem) : Option (Int × Mem) := if isO Sh 12 v0 = true then f_X12_walk_b0 v0 v1 v2 σ else none
theorem L_X12_walk {o : Int × Mem} {v0 v1 v2 : Int} {σ : Mem} (h : f_X12_walk v0 v1 v2 σ = some o) : (isO Sh 12 v0 = true ∧ Cn mt_X12_walk 4 [(2, v0), (0, v1), (0, v2)] Sh σ (some (0, o.1)) Sh o.2) := ⟨(ite_ok h).1, Cn_of mk_X12_walk.1.2.2.1 (Nat.le_of_ble_eq_true rfl) (fun sc => L_X12_walk_b0 (ite_ok h).2)⟩
theorem d_X12_walkAt_0 : decode mt_X12_walkAt.2.1 0 = .ok (.aload_n 0, 1) := by decide +kernel
theorem d_X12_walkAt_1 : decode mt_X12_walkAt.2.1 1 = .ok (.iconst 0, 1) := by decide +kernel
theorem d_X12_walkAt_2 : decode mt_X12_walkAt.2.1 2 = .ok (.putfield 70, 3) := by decide +kernel
theorem d_X12_walkAt_5 : decode mt_X12_walkAt.2.1 5 = .ok (.aload_n 0, 1) := by decide +kernel
theorem d_X12_walkAt_6 : decode mt_X12_walkAt.2.1 6 = .ok (.iconst 0, 1) := by decide +kernel
theorem d_X12_walkAt_7 : decode mt_X12_walkAt.2.1 7 = .ok (.putfield 73, 3) := by decide +kernel
theorem d_X12_walkAt_10 : decode mt_X12_walkAt.2.1 10 = .ok (.aload_n 0, 1) := by decide +kernel
theorem d_X12_walkAt_11 : decode mt_X12_walkAt.2.1 11 = .ok (.iload_n 1, 1) := by decide +kernel
theorem d_X12_walkAt_12 : decode mt_X12_walkAt.2.1 12 = .ok (.i2l, 1) := by decide +kernel
theorem d_X12_walkAt_13 : decode mt_X12_walkAt.2.1 13 = .ok (.invokevirtual 330, 3) := by decide +kernel
theorem d_X12_walkAt_16 : decode mt_X12_walkAt.2.1 16 = .ok (.ifCond .eq 12, 3) := by decide +kernel
theorem d_X12_walkAt_19 : decode mt_X12_walkAt.2.1 19 = .ok (.aload_n 0, 1) := by decide +kernel
theorem d_X12_walkAt_20 : decode mt_X12_walkAt.2.1 20 = .ok (.iload_n 2, 1) := by decide +kernel
theorem d_X12_walkAt_21 : decode mt_X12_walkAt.2.1 21 = .ok (.i2l, 1) := by decide +kernel
theorem d_X12_walkAt_22 : decode mt_X12_walkAt.2.1 22 = .ok (.invokevirtual 330, 3) := by decide +kernel
theorem d_X12_walkAt_25 : decode mt_X12_walkAt.2.1 25 = .ok (.ifCond .ne 9, 3) := by decide +kernel
theorem d_X12_walkAt_28 : decode mt_X12_walkAt.2.1 28 = .ok (.aload_n 0, 1) := by decide +kernel
theorem d_X12_walkAt_29 : decode mt_X12_walkAt.2.1 29 = .ok (.iconst 2, 1) := by decide +kernel
theorem d_X12_walkAt_30 : decode mt_X12_walkAt.2.1 30 = .ok (.invokevirtual 318, 3) := by decide +kernel
theorem d_X12_walkAt_33 : decode mt_X12_walkAt.2.1 33 = .ok (.ireturn, 1) := by decide +kernel
theorem d_X12_walkAt_34 : decode mt_X12_walkAt.2.1 34 = .ok (.aload_n 0, 1) := by decide +kernel
theorem d_X12_walkAt_35 : decode mt_X12_walkAt.2.1 35 = .ok (.iload_n 1, 1) := by decide +kernel
theorem d_X12_walkAt_36 : decode mt_X12_walkAt.2.1 36 = .ok (.iload_n 2, 1) := by decide +kernel
theorem d_X12_walkAt_37 : decode mt_X12_walkAt.2.1 37 = .ok (.invokevirtual 436, 3) := by decide +kernel
theorem d_X12_walkAt_40 : decode mt_X12_walkAt.2.1 40 = .ok (.istore 4, 2) := by decide +kernel
theorem d_X12_walkAt_42 : decode mt_X12_walkAt.2.1 42 = .ok (.iload 4, 2) := by decide +kernel
theorem d_X12_walkAt_44 : decode mt_X12_walkAt.2.1 44 = .ok (.ifCond .lt 15, 3) := by decide +kernel
theorem d_X12_walkAt_47 : decode mt_X12_walkAt.2.1 47 = .ok (.iload_n 3, 1) := by decide +kernel
theorem d_X12_walkAt_48 : decode mt_X12_walkAt.2.1 48 = .ok (.i2l, 1) := by decide +kernel
theorem d_X12_walkAt_49 : decode mt_X12_walkAt.2.1 49 = .ok (.lconst 0, 1) := by decide +kernel
theorem d_X12_walkAt_50 : decode mt_X12_walkAt.2.1 50 = .ok (.iload 4, 2) := by decide +kernel
theorem d_X12_walkAt_52 : decode mt_X12_walkAt.2.1 52 = .ok (.i2l, 1) := by decide +kernel
theorem d_X12_walkAt_53 : decode mt_X12_walkAt.2.1 53 = .ok (.invokestatic 104, 3) := by decide +kernel
theorem d_X12_walkAt_56 : decode mt_X12_walkAt.2.1 56 = .ok (.ifCond .ne 12, 3) := by decide +kernel
theorem d_X12_walkAt_59 : decode mt_X12_walkAt.2.1 59 = .ok (.aload_n 0, 1) := by decide +kernel
theorem d_X12_walkAt_60 : decode mt_X12_walkAt.2.1 60 = .ok (.bipush 8, 2) := by decide +kernel
theorem d_X12_walkAt_62 : decode mt_X12_walkAt.2.1 62 = .ok (.invokevirtual 318, 3) := by decide +kernel
theorem d_X12_walkAt_65 : decode mt_X12_walkAt.2.1 65 = .ok (.goto 25, 3) := by decide +kernel
theorem d_X12_walkAt_68 : decode mt_X12_walkAt.2.1 68 = .ok (.iload_n 1, 1) := by decide +kernel
theorem d_X12_walkAt_69 : decode mt_X12_walkAt.2.1 69 = .ok (.aload_n 0, 1) := by decide +kernel
theorem d_X12_walkAt_70 : decode mt_X12_walkAt.2.1 70 = .ok (.getfield 433, 3) := by decide +kernel
theorem d_X12_walkAt_73 : decode mt_X12_walkAt.2.1 73 = .ok (.iload_n 3, 1) := by decide +kernel
theorem d_X12_walkAt_74 : decode mt_X12_walkAt.2.1 74 = .ok (.imul, 1) := by decide +kernel
theorem d_X12_walkAt_75 : decode mt_X12_walkAt.2.1 75 = .ok (.iadd, 1) := by decide +kernel
theorem d_X12_walkAt_76 : decode mt_X12_walkAt.2.1 76 = .ok (.aload_n 0, 1) := by decide +kernel
theorem d_X12_walkAt_77 : decode mt_X12_walkAt.2.1 77 = .ok (.getfield 35, 3) := by decide +kernel
theorem d_X12_walkAt_80 : decode mt_X12_walkAt.2.1 80 = .ok (.iconst 0, 1) := by decide +kernel
theorem d_X12_walkAt_81 : decode mt_X12_walkAt.2.1 81 = .ok (.iaload, 1) := by decide +kernel
theorem d_X12_walkAt_82 : decode mt_X12_walkAt.2.1 82 = .ok (.iadd, 1) := by decide +kernel
theorem d_X12_walkAt_83 : decode mt_X12_walkAt.2.1 83 = .ok (.aload_n 0, 1) := by decide +kernel
theorem d_X12_walkAt_84 : decode mt_X12_walkAt.2.1 84 = .ok (.getfield 35, 3) := by decide +kernel
theorem d_X12_walkAt_87 : decode mt_X12_walkAt.2.1 87 = .ok (.iconst 0, 1) := by decide +kernel
theorem d_X12_walkAt_88 : decode mt_X12_walkAt.2.1 88 = .ok (.iaload, 1) := by decide +kernel
theorem d_X12_walkAt_89 : decode mt_X12_walkAt.2.1 89 = .ok (.irem, 1) := by decide +kernel
theorem d_X12_walkAt_90 : decode mt_X12_walkAt.2.1 90 = .ok (.ireturn, 1) := by decide +kernel
noncomputable def f_X12_walkAt_b28 (v0 : Int) (σ : Mem) : Option (Int × Mem) :=
  (f_X12_refuse v0 2 σ).bind fun r19 =>
  some (r19.1, r19.2)
theorem L_X12_walkAt_b28 {sc : Nat × (Nat → Int32)} {o : Int × Mem} {v0 : Int} {σ : Mem} (h : f_X12_walkAt_b28 v0 σ = some o) : E sc (Fm Sh (some (0, o.1)) Sh o.2) mt_X12_walkAt 4 Sh Sh 28 [(2, v0), (9, 0), (9, 0), (9, 0), (9, 0)] [] Sh σ := by
  unfold f_X12_walkAt_b28 at h
  refine E_aload_n d_X12_walkAt_28 rfl (by decide) ?_
  refine E_iconst d_X12_walkAt_29 (c32 rfl) ?_
  refine bd h (fun r19 q20 h => ?_)
  refine E_cV (as := [(0, 2)]) (st := []) (a := v0) d_X12_walkAt_30 mk_X12_refuse nl_X12_318 (by omega) ⟨rfl, rfl, Nat.le_of_ble_eq_true rfl⟩ okX12 rfl (L_X12_refuse q20) ?_
  cases h
  exact E_iret d_X12_walkAt_33 rfl
noncomputable def f_X12_walkAt_b59 (v0 : Int) (σ : Mem) : Option (Int × Mem) :=
  (f_X12_refuse v0 8 σ).bind fun r17 =>
  some (r17.1, r17.2)
theorem L_X12_walkAt_b59 {sc : Nat × (Nat → Int32)} {o : Int × Mem} {v0 : Int} {σ : Mem} (h : f_X12_walkAt_b59 v0 σ = some o) : E sc (Fm Sh (some (0, o.1)) Sh o.2) mt_X12_walkAt 4 Sh Sh 59 [(2, v0), (9, 0), (9, 0), (9, 0), (9, 0)] [] Sh σ := by
  unfold f_X12_walkAt_b59 at h
  refine E_aload_n d_X12_walkAt_59 rfl (by decide) ?_
  refine E_bipush d_X12_walkAt_60 (c8 rfl) ?_
  refine bd h (fun r17 q18 h => ?_)
  refine E_cV (as := [(0, 8)]) (st := []) (a := v0) d_X12_walkAt_62 mk_X12_refuse nl_X12_318 (by omega) ⟨rfl, rfl, Nat.le_of_ble_eq_true rfl⟩ okX12 rfl (L_X12_refuse q18) ?_
  refine E_goto (tgt := 90) d_X12_walkAt_65 (by decide) ?_
  cases h
  exact E_iret d_X12_walkAt_90 rfl
noncomputable def f_X12_walkAt_b0 (v0 v1 v2 v3 : Int) (σ : Mem) : Option (Int × Mem) :=
  (pf Sh σ 12 v0 1 0).bind fun σ1 =>
  (pf Sh σ1 12 v0 0 0).bind fun σ2 =>
  (f_X12_isPlaceAt v0 v1 σ2).bind fun r3 =>
  if r3 = 0 then
    f_X12_walkAt_b28 v0 σ2
  else
    (f_X12_isPlaceAt v0 v2 σ2).bind fun r5 =>
    if r5 = 0 then
      f_X12_walkAt_b28 v0 σ2
    else
      (f_X12_walkOf v0 v1 v2 σ2).bind fun r7 =>
      if r7.1 < 0 then
        f_X12_walkAt_b59 v0 r7.2
      else
        (f_X12_isIn v3 0 r7.1 r7.2).bind fun r9 =>
        if r9 = 0 then
          f_X12_walkAt_b59 v0 r7.2
        else
          (gf Sh r7.2 12 v0 32).bind fun x11 =>
          (gf Sh r7.2 12 v0 20).bind fun x12 =>
          (al Sh r7.2 20 x12 0).bind fun x13 =>
          (gf Sh r7.2 12 v0 20).bind fun x14 =>
          (al Sh r7.2 20 x14 0).bind fun x15 =>
          (nz x15).bind fun _ =>
          some (w32 (Int.tmod (w32 (w32 (v1 + (w32 (x11 * v3))) + x13)) x15), r7.2)
theorem L_X12_walkAt_b0 {sc : Nat × (Nat → Int32)} {o : Int × Mem} {v0 v1 v2 v3 : Int} {σ : Mem} (h : f_X12_walkAt_b0 v0 v1 v2 v3 σ = some o) : E sc (Fm Sh (some (0, o.1)) Sh o.2) mt_X12_walkAt 4 Sh Sh 0 [(2, v0), (0, v1), (0, v2), (0, v3), (9, 0)] [] Sh σ := by
  unfold f_X12_walkAt_b0 at h
  refine E_aload_n d_X12_walkAt_0 rfl (by decide) ?_
  refine E_iconst d_X12_walkAt_1 (c32 rfl) ?_
  refine E_put d_X12_walkAt_2 okX12 fl_X12_70 ⟨by decide, rfl⟩ (Or.inl ⟨rfl, rfl⟩) (Or.inl rfl) h (fun σ1 h => ?_)
  refine E_aload_n d_X12_walkAt_5 rfl (by decide) ?_
  refine E_iconst d_X12_walkAt_6 (c32 rfl) ?_
  refine E_put d_X12_walkAt_7 okX12 fl_X12_73 ⟨by decide, rfl⟩ (Or.inl ⟨rfl, rfl⟩) (Or.inl rfl) h (fun σ2 h => ?_)
  refine E_aload_n d_X12_walkAt_10 rfl (by decide) ?_
  refine E_iload_n d_X12_walkAt_11 rfl ?_
  refine E_i2l d_X12_walkAt_12 ?_
  refine bd h (fun r3 q4 h => ?_)
  refine E_cV (as := [(1, v1)]) (st := []) (a := v0) d_X12_walkAt_13 mk_X12_isPlaceAt nl_X12_330 (by omega) ⟨rfl, rfl, Nat.le_of_ble_eq_true rfl⟩ okX12 rfl (L_X12_isPlaceAt q4) ?_
  refine E_if_eq (tgt := 28) d_X12_walkAt_16 (by decide) h (fun _ h => ?_) (fun _ h => ?_)
  · exact E_weak (ls' := [(2, v0), (9, 0), (9, 0), (9, 0), (9, 0)]) ⟨Or.inr rfl, Or.inl rfl, Or.inl rfl, Or.inl rfl, Or.inl rfl, trivial⟩ (L_X12_walkAt_b28 h)
  · refine E_aload_n d_X12_walkAt_19 rfl (by decide) ?_
    refine E_iload_n d_X12_walkAt_20 rfl ?_
    refine E_i2l d_X12_walkAt_21 ?_
    refine bd h (fun r5 q6 h => ?_)
    refine E_cV (as := [(1, v2)]) (st := []) (a := v0) d_X12_walkAt_22 mk_X12_isPlaceAt nl_X12_330 (by omega) ⟨rfl, rfl, Nat.le_of_ble_eq_true rfl⟩ okX12 rfl (L_X12_isPlaceAt q6) ?_
    refine E_if_ne (tgt := 34) d_X12_walkAt_25 (by decide) h (fun _ h => ?_) (fun _ h => ?_)
    · exact E_weak (ls' := [(2, v0), (9, 0), (9, 0), (9, 0), (9, 0)]) ⟨Or.inr rfl, Or.inl rfl, Or.inl rfl, Or.inl rfl, Or.inl rfl, trivial⟩ (L_X12_walkAt_b28 h)
    · refine E_aload_n d_X12_walkAt_34 rfl (by decide) ?_
      refine E_iload_n d_X12_walkAt_35 rfl ?_
      refine E_iload_n d_X12_walkAt_36 rfl ?_
      refine bd h (fun r7 q8 h => ?_)
      refine E_cV (as := [(0, v1), (0, v2)]) (st := []) (a := v0) d_X12_walkAt_37 mk_X12_walkOf nl_X12_436 (by omega) ⟨rfl, rfl, Nat.le_of_ble_eq_true rfl⟩ okX12 rfl (L_X12_walkOf q8) ?_
      refine E_istore d_X12_walkAt_40 (ls' := [(2, v0), (0, v1), (0, v2), (0, v3), (0, r7.1)]) ⟨by decide, rfl⟩ ?_
      refine E_iload d_X12_walkAt_42 rfl ?_
      refine E_if_lt (tgt := 59) d_X12_walkAt_44 (by decide) h (fun _ h => ?_) (fun _ h => ?_)
      · exact E_weak (ls' := [(2, v0), (9, 0), (9, 0), (9, 0), (9, 0)]) ⟨Or.inr rfl, Or.inl rfl, Or.inl rfl, Or.inl rfl, Or.inl rfl, trivial⟩ (L_X12_walkAt_b59 h)
      · refine E_iload_n d_X12_walkAt_47 rfl ?_
        refine E_i2l d_X12_walkAt_48 ?_
        refine E_lconst d_X12_walkAt_49 cl0 ?_
        refine E_iload d_X12_walkAt_50 rfl ?_
        refine E_i2l d_X12_walkAt_52 ?_
        refine bd h (fun r9 q10 h => ?_)
        refine E_cS (as := [(1, v3), (1, 0), (1, r7.1)]) (st := []) d_X12_walkAt_53 mk_X12_isIn nl_X12_104 (by omega) ⟨rfl, rfl, Nat.le_of_ble_eq_true rfl⟩ (L_X12_isIn q10) ?_
        refine E_if_ne (tgt := 68) d_X12_walkAt_56 (by decide) h (fun _ h => ?_) (fun _ h => ?_)
        · exact E_weak (ls' := [(2, v0), (9, 0), (9, 0), (9, 0), (9, 0)]) ⟨Or.inr rfl, Or.inl rfl, Or.inl rfl, Or.inl rfl, Or.inl rfl, trivial⟩ (L_X12_walkAt_b59 h)
        · refine E_iload_n d_X12_walkAt_68 rfl ?_
          refine E_aload_n d_X12_walkAt_69 rfl (by decide) ?_
          refine E_get d_X12_walkAt_70 okX12 fl_X12_433 ⟨by decide, rfl⟩ h (fun x11 h => ?_)
          refine E_iload_n d_X12_walkAt_73 rfl ?_
          refine E_imul d_X12_walkAt_74 ?_
          refine E_iadd d_X12_walkAt_75 ?_
          refine E_aload_n d_X12_walkAt_76 rfl (by decide) ?_
          refine E_get d_X12_walkAt_77 okX12 fl_X12_35 ⟨by decide, rfl⟩ h (fun x12 h => ?_)
          refine E_iconst d_X12_walkAt_80 (c32 rfl) ?_
          refine E_iaload d_X12_walkAt_81 h (fun x13 h => ?_)
          refine E_iadd d_X12_walkAt_82 ?_
          refine E_aload_n d_X12_walkAt_83 rfl (by decide) ?_
          refine E_get d_X12_walkAt_84 okX12 fl_X12_35 ⟨by decide, rfl⟩ h (fun x14 h => ?_)
          refine E_iconst d_X12_walkAt_87 (c32 rfl) ?_
          refine E_iaload d_X12_walkAt_88 h (fun x15 h => ?_)
          refine bd_nz h (fun q16 h => ?_)
          refine E_irem d_X12_walkAt_89 q16 ?_
          cases h
          exact E_iret d_X12_walkAt_90 rfl
noncomputable def f_X12_walkAt (v0 v1 v2 v3 : Int) (σ : Mem) : Option (Int × Mem) := if isO Sh 12 v0 = true then f_X12_walkAt_b0 v0 v1 v2 v3 σ else none
theorem L_X12_walkAt {o : Int × Mem} {v0 v1 v2 v3 : Int} {σ : Mem} (h : f_X12_walkAt v0 v1 v2 v3 σ = some o) : (isO Sh 12 v0 = true ∧ Cn mt_X12_walkAt 4 [(2, v0), (0, v1), (0, v2), (0, v3)] Sh σ (some (0, o.1)) Sh o.2) := ⟨(ite_ok h).1, Cn_of mk_X12_walkAt.1.2.2.1 (Nat.le_of_ble_eq_true rfl) (fun sc => L_X12_walkAt_b0 (ite_ok h).2)⟩
theorem d_X12_longest_0 : decode mt_X12_longest.2.1 0 = .ok (.aload_n 0, 1) := by decide +kernel
theorem d_X12_longest_1 : decode mt_X12_longest.2.1 1 = .ok (.iconst 0, 1) := by decide +kernel
theorem d_X12_longest_2 : decode mt_X12_longest.2.1 2 = .ok (.putfield 70, 3) := by decide +kernel
theorem d_X12_longest_5 : decode mt_X12_longest.2.1 5 = .ok (.aload_n 0, 1) := by decide +kernel
theorem d_X12_longest_6 : decode mt_X12_longest.2.1 6 = .ok (.iconst 0, 1) := by decide +kernel
theorem d_X12_longest_7 : decode mt_X12_longest.2.1 7 = .ok (.putfield 73, 3) := by decide +kernel
theorem d_X12_longest_10 : decode mt_X12_longest.2.1 10 = .ok (.iconst 0, 1) := by decide +kernel
theorem d_X12_longest_11 : decode mt_X12_longest.2.1 11 = .ok (.istore_n 1, 1) := by decide +kernel
theorem d_X12_longest_12 : decode mt_X12_longest.2.1 12 = .ok (.iconst 0, 1) := by decide +kernel
theorem d_X12_longest_13 : decode mt_X12_longest.2.1 13 = .ok (.istore_n 2, 1) := by decide +kernel
theorem d_X12_longest_14 : decode mt_X12_longest.2.1 14 = .ok (.iload_n 2, 1) := by decide +kernel
theorem d_X12_longest_15 : decode mt_X12_longest.2.1 15 = .ok (.aload_n 0, 1) := by decide +kernel
theorem d_X12_longest_16 : decode mt_X12_longest.2.1 16 = .ok (.getfield 35, 3) := by decide +kernel
theorem d_X12_longest_19 : decode mt_X12_longest.2.1 19 = .ok (.iconst 0, 1) := by decide +kernel
theorem d_X12_longest_20 : decode mt_X12_longest.2.1 20 = .ok (.iaload, 1) := by decide +kernel
theorem d_X12_longest_21 : decode mt_X12_longest.2.1 21 = .ok (.if_icmp .ge 50, 3) := by decide +kernel
theorem d_X12_longest_24 : decode mt_X12_longest.2.1 24 = .ok (.iconst 0, 1) := by decide +kernel
theorem d_X12_longest_25 : decode mt_X12_longest.2.1 25 = .ok (.istore_n 3, 1) := by decide +kernel
theorem d_X12_longest_26 : decode mt_X12_longest.2.1 26 = .ok (.iload_n 3, 1) := by decide +kernel
theorem d_X12_longest_27 : decode mt_X12_longest.2.1 27 = .ok (.aload_n 0, 1) := by decide +kernel
theorem d_X12_longest_28 : decode mt_X12_longest.2.1 28 = .ok (.getfield 35, 3) := by decide +kernel
theorem d_X12_longest_31 : decode mt_X12_longest.2.1 31 = .ok (.iconst 0, 1) := by decide +kernel
theorem d_X12_longest_32 : decode mt_X12_longest.2.1 32 = .ok (.iaload, 1) := by decide +kernel
theorem d_X12_longest_33 : decode mt_X12_longest.2.1 33 = .ok (.if_icmp .ge 26, 3) := by decide +kernel
theorem d_X12_longest_36 : decode mt_X12_longest.2.1 36 = .ok (.aload_n 0, 1) := by decide +kernel
theorem d_X12_longest_37 : decode mt_X12_longest.2.1 37 = .ok (.iload_n 2, 1) := by decide +kernel
theorem d_X12_longest_38 : decode mt_X12_longest.2.1 38 = .ok (.iload_n 3, 1) := by decide +kernel
theorem d_X12_longest_39 : decode mt_X12_longest.2.1 39 = .ok (.iadd, 1) := by decide +kernel
theorem d_X12_longest_40 : decode mt_X12_longest.2.1 40 = .ok (.aload_n 0, 1) := by decide +kernel
theorem d_X12_longest_41 : decode mt_X12_longest.2.1 41 = .ok (.getfield 35, 3) := by decide +kernel
theorem d_X12_longest_44 : decode mt_X12_longest.2.1 44 = .ok (.iconst 0, 1) := by decide +kernel
theorem d_X12_longest_45 : decode mt_X12_longest.2.1 45 = .ok (.iaload, 1) := by decide +kernel
theorem d_X12_longest_46 : decode mt_X12_longest.2.1 46 = .ok (.irem, 1) := by decide +kernel
theorem d_X12_longest_47 : decode mt_X12_longest.2.1 47 = .ok (.invokevirtual 305, 3) := by decide +kernel
theorem d_X12_longest_50 : decode mt_X12_longest.2.1 50 = .ok (.ifCond .eq 9, 3) := by decide +kernel
theorem d_X12_longest_53 : decode mt_X12_longest.2.1 53 = .ok (.iinc 3 1, 3) := by decide +kernel
theorem d_X12_longest_56 : decode mt_X12_longest.2.1 56 = .ok (.goto (-30), 3) := by decide +kernel
theorem d_X12_longest_59 : decode mt_X12_longest.2.1 59 = .ok (.iload_n 1, 1) := by decide +kernel
theorem d_X12_longest_60 : decode mt_X12_longest.2.1 60 = .ok (.iload_n 3, 1) := by decide +kernel
theorem d_X12_longest_61 : decode mt_X12_longest.2.1 61 = .ok (.invokestatic 235, 3) := by decide +kernel
theorem d_X12_longest_64 : decode mt_X12_longest.2.1 64 = .ok (.istore_n 1, 1) := by decide +kernel
theorem d_X12_longest_65 : decode mt_X12_longest.2.1 65 = .ok (.iinc 2 1, 3) := by decide +kernel
theorem d_X12_longest_68 : decode mt_X12_longest.2.1 68 = .ok (.goto (-54), 3) := by decide +kernel
theorem d_X12_longest_71 : decode mt_X12_longest.2.1 71 = .ok (.iload_n 1, 1) := by decide +kernel
theorem d_X12_longest_72 : decode mt_X12_longest.2.1 72 = .ok (.ireturn, 1) := by decide +kernel
noncomputable def f_X12_longest_b59 (k14 : (Int → Int → Int → Mem → Option (Int × Mem))) (v0 v1 v2 v3 : Int) (σ : Mem) : Option (Int × Mem) :=
  k14 v0 (imax v1 v3) (w32 (v2 + 1)) σ
theorem L_X12_longest_b59 {sc : Nat × (Nat → Int32)} {o : Int × Mem} {k14 : (Int → Int → Int → Mem → Option (Int × Mem))} (hk14 : ∀ {v0 v1 v2 : Int} {σ : Mem}, k14 v0 v1 v2 σ = some o → E sc (Fm Sh (some (0, o.1)) Sh o.2) mt_X12_longest 2 Sh Sh 14 [(2, v0), (0, v1), (0, v2), (9, 0)] [] Sh σ) {v0 v1 v2 v3 : Int} {σ : Mem} (h : f_X12_longest_b59 k14 v0 v1 v2 v3 σ = some o) : E sc (Fm Sh (some (0, o.1)) Sh o.2) mt_X12_longest 2 Sh Sh 59 [(2, v0), (0, v1), (0, v2), (0, v3)] [] Sh σ := by
  unfold f_X12_longest_b59 at h
  refine E_iload_n d_X12_longest_59 rfl ?_
  refine E_iload_n d_X12_longest_60 rfl ?_
  refine E_imax d_X12_longest_61 nl_X12_235 (by omega) (Nat.le_of_ble_eq_true rfl) ?_
  refine E_istore_n d_X12_longest_64 (ls' := [(2, v0), (0, imax v1 v3), (0, v2), (0, v3)]) ⟨by decide, rfl⟩ ?_
  refine E_iinc d_X12_longest_65 (ls' := [(2, v0), (0, imax v1 v3), (0, w32 (v2 + 1)), (0, v3)]) rfl ⟨by decide, rfl⟩ ?_
  refine E_goto (tgt := 14) d_X12_longest_68 (by decide) ?_
  exact E_weak (ls' := [(2, v0), (0, imax v1 v3), (0, w32 (v2 + 1)), (9, 0)]) ⟨Or.inr rfl, Or.inr rfl, Or.inr rfl, Or.inl rfl, trivial⟩ (hk14 h)
noncomputable def f_X12_longest_b26 (k14 : (Int → Int → Int → Mem → Option (Int × Mem))) (k26 : (Int → Int → Int → Int → Mem → Option (Int × Mem))) (v0 v1 v2 v3 : Int) (σ : Mem) : Option (Int × Mem) :=
  (gf Sh σ 12 v0 20).bind fun x5 =>
  (al Sh σ 20 x5 0).bind fun x6 =>
  if x6 ≤ v3 then
    f_X12_longest_b59 k14 v0 v1 v2 v3 σ
  else
    (gf Sh σ 12 v0 20).bind fun x7 =>
    (al Sh σ 20 x7 0).bind fun x8 =>
    (nz x8).bind fun _ =>
    (f_X12_isStoneAt v0 (w32 (Int.tmod (w32 (v2 + v3)) x8)) σ).bind fun r10 =>
    if r10 = 0 then
      f_X12_longest_b59 k14 v0 v1 v2 v3 σ
    else
      k26 v0 v1 v2 (w32 (v3 + 1)) σ
theorem L_X12_longest_b26 {sc : Nat × (Nat → Int32)} {o : Int × Mem} {k14 : (Int → Int → Int → Mem → Option (Int × Mem))} {k26 : (Int → Int → Int → Int → Mem → Option (Int × Mem))} (hk14 : ∀ {v0 v1 v2 : Int} {σ : Mem}, k14 v0 v1 v2 σ = some o → E sc (Fm Sh (some (0, o.1)) Sh o.2) mt_X12_longest 2 Sh Sh 14 [(2, v0), (0, v1), (0, v2), (9, 0)] [] Sh σ) (hk26 : ∀ {v0 v1 v2 v3 : Int} {σ : Mem}, k26 v0 v1 v2 v3 σ = some o → E sc (Fm Sh (some (0, o.1)) Sh o.2) mt_X12_longest 2 Sh Sh 26 [(2, v0), (0, v1), (0, v2), (0, v3)] [] Sh σ) {v0 v1 v2 v3 : Int} {σ : Mem} (h : f_X12_longest_b26 k14 k26 v0 v1 v2 v3 σ = some o) : E sc (Fm Sh (some (0, o.1)) Sh o.2) mt_X12_longest 2 Sh Sh 26 [(2, v0), (0, v1), (0, v2), (0, v3)] [] Sh σ := by
  unfold f_X12_longest_b26 at h
  refine E_iload_n d_X12_longest_26 rfl ?_
  refine E_aload_n d_X12_longest_27 rfl (by decide) ?_
  refine E_get d_X12_longest_28 okX12 fl_X12_35 ⟨by decide, rfl⟩ h (fun x5 h => ?_)
  refine E_iconst d_X12_longest_31 (c32 rfl) ?_
  refine E_iaload d_X12_longest_32 h (fun x6 h => ?_)
  refine E_icmp_ge (tgt := 59) d_X12_longest_33 (by decide) h (fun _ h => ?_) (fun _ h => ?_)
  · exact (L_X12_longest_b59 hk14 h)
  · refine E_aload_n d_X12_longest_36 rfl (by decide) ?_
    refine E_iload_n d_X12_longest_37 rfl ?_
    refine E_iload_n d_X12_longest_38 rfl ?_
    refine E_iadd d_X12_longest_39 ?_
    refine E_aload_n d_X12_longest_40 rfl (by decide) ?_
    refine E_get d_X12_longest_41 okX12 fl_X12_35 ⟨by decide, rfl⟩ h (fun x7 h => ?_)
    refine E_iconst d_X12_longest_44 (c32 rfl) ?_
    refine E_iaload d_X12_longest_45 h (fun x8 h => ?_)
    refine bd_nz h (fun q9 h => ?_)
    refine E_irem d_X12_longest_46 q9 ?_
    refine bd h (fun r10 q11 h => ?_)
    refine E_cV (as := [(0, w32 (Int.tmod (w32 (v2 + v3)) x8))]) (st := []) (a := v0) d_X12_longest_47 mk_X12_isStoneAt nl_X12_305 (by omega) ⟨rfl, rfl, Nat.le_of_ble_eq_true rfl⟩ okX12 rfl (L_X12_isStoneAt q11) ?_
    refine E_if_eq (tgt := 59) d_X12_longest_50 (by decide) h (fun _ h => ?_) (fun _ h => ?_)
    · exact (L_X12_longest_b59 hk14 h)
    · refine E_iinc d_X12_longest_53 (ls' := [(2, v0), (0, v1), (0, v2), (0, w32 (v3 + 1))]) rfl ⟨by decide, rfl⟩ ?_
      refine E_goto (tgt := 26) d_X12_longest_56 (by decide) ?_
      exact (hk26 h)
noncomputable def f_X12_longest_h26 (k14 : (Int → Int → Int → Mem → Option (Int × Mem))) (n : Nat) : Int → Int → Int → Int → Mem → Option (Int × Mem) := Nat.rec (motive := fun _ => Int → Int → Int → Int → Mem → Option (Int × Mem)) (fun _ _ _ _ _ => none) (fun _ ih => f_X12_longest_b26 k14 (ih)) n
theorem L_X12_longest_h26 {sc : Nat × (Nat → Int32)} {o : Int × Mem} {k14 : (Int → Int → Int → Mem → Option (Int × Mem))} (hk14 : ∀ {v0 v1 v2 : Int} {σ : Mem}, k14 v0 v1 v2 σ = some o → E sc (Fm Sh (some (0, o.1)) Sh o.2) mt_X12_longest 2 Sh Sh 14 [(2, v0), (0, v1), (0, v2), (9, 0)] [] Sh σ) : ∀ (n : Nat) {v0 v1 v2 v3 : Int} {σ : Mem}, f_X12_longest_h26 k14 n v0 v1 v2 v3 σ = some o → E sc (Fm Sh (some (0, o.1)) Sh o.2) mt_X12_longest 2 Sh Sh 26 [(2, v0), (0, v1), (0, v2), (0, v3)] [] Sh σ := by
  intro n
  induction n with
  | zero => intro v0 v1 v2 v3 σ h; cases h
  | succ n ih => intro v0 v1 v2 v3 σ h; exact L_X12_longest_b26 hk14 (@ih) h
noncomputable def f_X12_longest_b14 (k14 : (Int → Int → Int → Mem → Option (Int × Mem))) (v0 v1 v2 : Int) (σ : Mem) : Option (Int × Mem) :=
  (gf Sh σ 12 v0 20).bind fun x3 =>
  (al Sh σ 20 x3 0).bind fun x4 =>
  if x4 ≤ v2 then
    some (v1, σ)
  else
    f_X12_longest_h26 k14 FU v0 v1 v2 0 σ
theorem L_X12_longest_b14 {sc : Nat × (Nat → Int32)} {o : Int × Mem} {k14 : (Int → Int → Int → Mem → Option (Int × Mem))} (hk14 : ∀ {v0 v1 v2 : Int} {σ : Mem}, k14 v0 v1 v2 σ = some o → E sc (Fm Sh (some (0, o.1)) Sh o.2) mt_X12_longest 2 Sh Sh 14 [(2, v0), (0, v1), (0, v2), (9, 0)] [] Sh σ) {v0 v1 v2 : Int} {σ : Mem} (h : f_X12_longest_b14 k14 v0 v1 v2 σ = some o) : E sc (Fm Sh (some (0, o.1)) Sh o.2) mt_X12_longest 2 Sh Sh 14 [(2, v0), (0, v1), (0, v2), (9, 0)] [] Sh σ := by
  unfold f_X12_longest_b14 at h
  refine E_iload_n d_X12_longest_14 rfl ?_
  refine E_aload_n d_X12_longest_15 rfl (by decide) ?_
  refine E_get d_X12_longest_16 okX12 fl_X12_35 ⟨by decide, rfl⟩ h (fun x3 h => ?_)
  refine E_iconst d_X12_longest_19 (c32 rfl) ?_
  refine E_iaload d_X12_longest_20 h (fun x4 h => ?_)
  refine E_icmp_ge (tgt := 71) d_X12_longest_21 (by decide) h (fun _ h => ?_) (fun _ h => ?_)
  · refine E_iload_n d_X12_longest_71 rfl ?_
    cases h
    exact E_iret d_X12_longest_72 rfl
  · refine E_iconst d_X12_longest_24 (c32 rfl) ?_
    refine E_istore_n d_X12_longest_25 (ls' := [(2, v0), (0, v1), (0, v2), (0, 0)]) ⟨by decide, rfl⟩ ?_
    exact (L_X12_longest_h26 hk14 FU h)
noncomputable def f_X12_longest_h14 (n : Nat) : Int → Int → Int → Mem → Option (Int × Mem) := Nat.rec (motive := fun _ => Int → Int → Int → Mem → Option (Int × Mem)) (fun _ _ _ _ => none) (fun _ ih => f_X12_longest_b14 (ih)) n
theorem L_X12_longest_h14 {sc : Nat × (Nat → Int32)} {o : Int × Mem} : ∀ (n : Nat) {v0 v1 v2 : Int} {σ : Mem}, f_X12_longest_h14 n v0 v1 v2 σ = some o → E sc (Fm Sh (some (0, o.1)) Sh o.2) mt_X12_longest 2 Sh Sh 14 [(2, v0), (0, v1), (0, v2), (9, 0)] [] Sh σ := by
  intro n
  induction n with
  | zero => intro v0 v1 v2 σ h; cases h
  | succ n ih => intro v0 v1 v2 σ h; exact L_X12_longest_b14 (@ih) h
noncomputable def f_X12_longest_b0 (v0 : Int) (σ : Mem) : Option (Int × Mem) :=
  (pf Sh σ 12 v0 1 0).bind fun σ1 =>
  (pf Sh σ1 12 v0 0 0).bind fun σ2 =>
  f_X12_longest_h14 FU v0 0 0 σ2
theorem L_X12_longest_b0 {sc : Nat × (Nat → Int32)} {o : Int × Mem} {v0 : Int} {σ : Mem} (h : f_X12_longest_b0 v0 σ = some o) : E sc (Fm Sh (some (0, o.1)) Sh o.2) mt_X12_longest 2 Sh Sh 0 [(2, v0), (9, 0), (9, 0), (9, 0)] [] Sh σ := by
  unfold f_X12_longest_b0 at h
  refine E_aload_n d_X12_longest_0 rfl (by decide) ?_
  refine E_iconst d_X12_longest_1 (c32 rfl) ?_
  refine E_put d_X12_longest_2 okX12 fl_X12_70 ⟨by decide, rfl⟩ (Or.inl ⟨rfl, rfl⟩) (Or.inl rfl) h (fun σ1 h => ?_)
  refine E_aload_n d_X12_longest_5 rfl (by decide) ?_
  refine E_iconst d_X12_longest_6 (c32 rfl) ?_
  refine E_put d_X12_longest_7 okX12 fl_X12_73 ⟨by decide, rfl⟩ (Or.inl ⟨rfl, rfl⟩) (Or.inl rfl) h (fun σ2 h => ?_)
  refine E_iconst d_X12_longest_10 (c32 rfl) ?_
  refine E_istore_n d_X12_longest_11 (ls' := [(2, v0), (0, 0), (9, 0), (9, 0)]) ⟨by decide, rfl⟩ ?_
  refine E_iconst d_X12_longest_12 (c32 rfl) ?_
  refine E_istore_n d_X12_longest_13 (ls' := [(2, v0), (0, 0), (0, 0), (9, 0)]) ⟨by decide, rfl⟩ ?_
  exact (L_X12_longest_h14 FU h)
noncomputable def f_X12_longest (v0 : Int) (σ : Mem) : Option (Int × Mem) := if isO Sh 12 v0 = true then f_X12_longest_b0 v0 σ else none
theorem L_X12_longest {o : Int × Mem} {v0 : Int} {σ : Mem} (h : f_X12_longest v0 σ = some o) : (isO Sh 12 v0 = true ∧ Cn mt_X12_longest 2 [(2, v0)] Sh σ (some (0, o.1)) Sh o.2) := ⟨(ite_ok h).1, Cn_of mk_X12_longest.1.2.2.1 (Nat.le_of_ble_eq_true rfl) (fun sc => L_X12_longest_b0 (ite_ok h).2)⟩
