theorem d_X12_runsTerms_0 : decode mt_X12_runsTerms.2.1 0 = .ok (.aload_n 0, 1) := by decide +kernel
theorem d_X12_runsTerms_1 : decode mt_X12_runsTerms.2.1 1 = .ok (.iload_n 1, 1) := by decide +kernel
theorem d_X12_runsTerms_2 : decode mt_X12_runsTerms.2.1 2 = .ok (.putfield 459, 3) := by decide +kernel
theorem d_X12_runsTerms_5 : decode mt_X12_runsTerms.2.1 5 = .ok (.aload_n 0, 1) := by decide +kernel
theorem d_X12_runsTerms_6 : decode mt_X12_runsTerms.2.1 6 = .ok (.iconst 0, 1) := by decide +kernel
theorem d_X12_runsTerms_7 : decode mt_X12_runsTerms.2.1 7 = .ok (.putfield 478, 3) := by decide +kernel
theorem d_X12_runsTerms_10 : decode mt_X12_runsTerms.2.1 10 = .ok (.aload_n 0, 1) := by decide +kernel
theorem d_X12_runsTerms_11 : decode mt_X12_runsTerms.2.1 11 = .ok (.iconst 0, 1) := by decide +kernel
theorem d_X12_runsTerms_12 : decode mt_X12_runsTerms.2.1 12 = .ok (.putfield 487, 3) := by decide +kernel
theorem d_X12_runsTerms_15 : decode mt_X12_runsTerms.2.1 15 = .ok (.aload_n 0, 1) := by decide +kernel
theorem d_X12_runsTerms_16 : decode mt_X12_runsTerms.2.1 16 = .ok (.iconst 0, 1) := by decide +kernel
theorem d_X12_runsTerms_17 : decode mt_X12_runsTerms.2.1 17 = .ok (.putfield 463, 3) := by decide +kernel
theorem d_X12_runsTerms_20 : decode mt_X12_runsTerms.2.1 20 = .ok (.aload_n 0, 1) := by decide +kernel
theorem d_X12_runsTerms_21 : decode mt_X12_runsTerms.2.1 21 = .ok (.aload_n 0, 1) := by decide +kernel
theorem d_X12_runsTerms_22 : decode mt_X12_runsTerms.2.1 22 = .ok (.getfield 35, 3) := by decide +kernel
theorem d_X12_runsTerms_25 : decode mt_X12_runsTerms.2.1 25 = .ok (.iconst 5, 1) := by decide +kernel
theorem d_X12_runsTerms_26 : decode mt_X12_runsTerms.2.1 26 = .ok (.iaload, 1) := by decide +kernel
theorem d_X12_runsTerms_27 : decode mt_X12_runsTerms.2.1 27 = .ok (.putfield 502, 3) := by decide +kernel
theorem d_X12_runsTerms_30 : decode mt_X12_runsTerms.2.1 30 = .ok (.aload_n 0, 1) := by decide +kernel
theorem d_X12_runsTerms_31 : decode mt_X12_runsTerms.2.1 31 = .ok (.aload_n 0, 1) := by decide +kernel
theorem d_X12_runsTerms_32 : decode mt_X12_runsTerms.2.1 32 = .ok (.getfield 35, 3) := by decide +kernel
theorem d_X12_runsTerms_35 : decode mt_X12_runsTerms.2.1 35 = .ok (.bipush 6, 2) := by decide +kernel
theorem d_X12_runsTerms_37 : decode mt_X12_runsTerms.2.1 37 = .ok (.iaload, 1) := by decide +kernel
theorem d_X12_runsTerms_38 : decode mt_X12_runsTerms.2.1 38 = .ok (.putfield 505, 3) := by decide +kernel
theorem d_X12_runsTerms_41 : decode mt_X12_runsTerms.2.1 41 = .ok (.aload_n 0, 1) := by decide +kernel
theorem d_X12_runsTerms_42 : decode mt_X12_runsTerms.2.1 42 = .ok (.iconst 0, 1) := by decide +kernel
theorem d_X12_runsTerms_43 : decode mt_X12_runsTerms.2.1 43 = .ok (.putfield 484, 3) := by decide +kernel
theorem d_X12_runsTerms_46 : decode mt_X12_runsTerms.2.1 46 = .ok (.aload_n 0, 1) := by decide +kernel
theorem d_X12_runsTerms_47 : decode mt_X12_runsTerms.2.1 47 = .ok (.iconst 0, 1) := by decide +kernel
theorem d_X12_runsTerms_48 : decode mt_X12_runsTerms.2.1 48 = .ok (.putfield 481, 3) := by decide +kernel
theorem d_X12_runsTerms_51 : decode mt_X12_runsTerms.2.1 51 = .ok (.aload_n 0, 1) := by decide +kernel
theorem d_X12_runsTerms_52 : decode mt_X12_runsTerms.2.1 52 = .ok (.iconst 0, 1) := by decide +kernel
theorem d_X12_runsTerms_53 : decode mt_X12_runsTerms.2.1 53 = .ok (.aload_n 0, 1) := by decide +kernel
theorem d_X12_runsTerms_54 : decode mt_X12_runsTerms.2.1 54 = .ok (.getfield 35, 3) := by decide +kernel
theorem d_X12_runsTerms_57 : decode mt_X12_runsTerms.2.1 57 = .ok (.bipush 56, 2) := by decide +kernel
theorem d_X12_runsTerms_59 : decode mt_X12_runsTerms.2.1 59 = .ok (.iaload, 1) := by decide +kernel
theorem d_X12_runsTerms_60 : decode mt_X12_runsTerms.2.1 60 = .ok (.invokevirtual 496, 3) := by decide +kernel
theorem d_X12_runsTerms_63 : decode mt_X12_runsTerms.2.1 63 = .ok (.return_, 1) := by decide +kernel
noncomputable def f_X12_runsTerms_b0 (v0 v1 : Int) (σ : Mem) : Option (Mem) :=
  (pf Sh σ 12 v0 38 v1).bind fun σ1 =>
  (pf Sh σ1 12 v0 39 0).bind fun σ2 =>
  (pf Sh σ2 12 v0 40 0).bind fun σ3 =>
  (pf Sh σ3 12 v0 41 0).bind fun σ4 =>
  (gf Sh σ4 12 v0 20).bind fun x5 =>
  (al Sh σ4 20 x5 5).bind fun x6 =>
  (pf Sh σ4 12 v0 42 x6).bind fun σ7 =>
  (gf Sh σ7 12 v0 20).bind fun x8 =>
  (al Sh σ7 20 x8 6).bind fun x9 =>
  (pf Sh σ7 12 v0 43 x9).bind fun σ10 =>
  (pf Sh σ10 12 v0 44 0).bind fun σ11 =>
  (pf Sh σ11 12 v0 37 0).bind fun σ12 =>
  (gf Sh σ12 12 v0 20).bind fun x13 =>
  (al Sh σ12 20 x13 56).bind fun x14 =>
  (f_X12_doAll FR v0 0 x14 σ12).bind fun r15 =>
  some r15
theorem L_X12_runsTerms_b0 {sc : Nat × (Nat → Int32)} {o : Mem} {v0 v1 : Int} {σ : Mem} (h : f_X12_runsTerms_b0 v0 v1 σ = some o) : E sc (Fm Sh none Sh o) mt_X12_runsTerms 401 Sh Sh 0 [(2, v0), (0, v1)] [] Sh σ := by
  unfold f_X12_runsTerms_b0 at h
  refine E_aload_n d_X12_runsTerms_0 rfl (by decide) ?_
  refine E_iload_n d_X12_runsTerms_1 rfl ?_
  refine E_put d_X12_runsTerms_2 okX12 fl_X12_459 ⟨by decide, rfl⟩ (Or.inl ⟨rfl, rfl⟩) (Or.inl rfl) h (fun σ1 h => ?_)
  refine E_aload_n d_X12_runsTerms_5 rfl (by decide) ?_
  refine E_iconst d_X12_runsTerms_6 (c32 rfl) ?_
  refine E_put d_X12_runsTerms_7 okX12 fl_X12_478 ⟨by decide, rfl⟩ (Or.inl ⟨rfl, rfl⟩) (Or.inl rfl) h (fun σ2 h => ?_)
  refine E_aload_n d_X12_runsTerms_10 rfl (by decide) ?_
  refine E_iconst d_X12_runsTerms_11 (c32 rfl) ?_
  refine E_put d_X12_runsTerms_12 okX12 fl_X12_487 ⟨by decide, rfl⟩ (Or.inl ⟨rfl, rfl⟩) (Or.inl rfl) h (fun σ3 h => ?_)
  refine E_aload_n d_X12_runsTerms_15 rfl (by decide) ?_
  refine E_iconst d_X12_runsTerms_16 (c32 rfl) ?_
  refine E_put d_X12_runsTerms_17 okX12 fl_X12_463 ⟨by decide, rfl⟩ (Or.inl ⟨rfl, rfl⟩) (Or.inl rfl) h (fun σ4 h => ?_)
  refine E_aload_n d_X12_runsTerms_20 rfl (by decide) ?_
  refine E_aload_n d_X12_runsTerms_21 rfl (by decide) ?_
  refine E_get d_X12_runsTerms_22 okX12 fl_X12_35 ⟨by decide, rfl⟩ h (fun x5 h => ?_)
  refine E_iconst d_X12_runsTerms_25 (c32 rfl) ?_
  refine E_iaload d_X12_runsTerms_26 h (fun x6 h => ?_)
  refine E_put d_X12_runsTerms_27 okX12 fl_X12_502 ⟨by decide, rfl⟩ (Or.inl ⟨rfl, rfl⟩) (Or.inl rfl) h (fun σ7 h => ?_)
  refine E_aload_n d_X12_runsTerms_30 rfl (by decide) ?_
  refine E_aload_n d_X12_runsTerms_31 rfl (by decide) ?_
  refine E_get d_X12_runsTerms_32 okX12 fl_X12_35 ⟨by decide, rfl⟩ h (fun x8 h => ?_)
  refine E_bipush d_X12_runsTerms_35 (c8 rfl) ?_
  refine E_iaload d_X12_runsTerms_37 h (fun x9 h => ?_)
  refine E_put d_X12_runsTerms_38 okX12 fl_X12_505 ⟨by decide, rfl⟩ (Or.inl ⟨rfl, rfl⟩) (Or.inl rfl) h (fun σ10 h => ?_)
  refine E_aload_n d_X12_runsTerms_41 rfl (by decide) ?_
  refine E_iconst d_X12_runsTerms_42 (c32 rfl) ?_
  refine E_put d_X12_runsTerms_43 okX12 fl_X12_484 ⟨by decide, rfl⟩ (Or.inl ⟨rfl, rfl⟩) (Or.inl rfl) h (fun σ11 h => ?_)
  refine E_aload_n d_X12_runsTerms_46 rfl (by decide) ?_
  refine E_iconst d_X12_runsTerms_47 (c32 rfl) ?_
  refine E_put d_X12_runsTerms_48 okX12 fl_X12_481 ⟨by decide, rfl⟩ (Or.inr (Or.inr (Or.inl ⟨rfl, rfl, (Or.inl rfl)⟩))) (Or.inl rfl) h (fun σ12 h => ?_)
  refine E_aload_n d_X12_runsTerms_51 rfl (by decide) ?_
  refine E_iconst d_X12_runsTerms_52 (c32 rfl) ?_
  refine E_aload_n d_X12_runsTerms_53 rfl (by decide) ?_
  refine E_get d_X12_runsTerms_54 okX12 fl_X12_35 ⟨by decide, rfl⟩ h (fun x13 h => ?_)
  refine E_bipush d_X12_runsTerms_57 (c8 rfl) ?_
  refine E_iaload d_X12_runsTerms_59 h (fun x14 h => ?_)
  refine bd h (fun r15 q16 h => ?_)
  refine E_cVv (as := [(0, 0), (0, x14)]) (st := []) (a := v0) d_X12_runsTerms_60 mk_X12_doAll nl_X12_496 (by decide) ⟨rfl, rfl, Nat.le_of_ble_eq_true rfl⟩ okX12 rfl (L_X12_doAll FR q16) ?_
  cases h
  exact E_vret d_X12_runsTerms_63 rfl
noncomputable def f_X12_runsTerms (v0 v1 : Int) (σ : Mem) : Option (Mem) := if isO Sh 12 v0 = true then f_X12_runsTerms_b0 v0 v1 σ else none
theorem L_X12_runsTerms {o : Mem} {v0 v1 : Int} {σ : Mem} (h : f_X12_runsTerms v0 v1 σ = some o) : (isO Sh 12 v0 = true ∧ Cn mt_X12_runsTerms 401 [(2, v0), (0, v1)] Sh σ none Sh o) := ⟨(ite_ok h).1, Cn_of mk_X12_runsTerms.1.2.2.1 (Nat.le_of_ble_eq_true rfl) (fun sc => L_X12_runsTerms_b0 (ite_ok h).2)⟩
theorem d_X12_live_0 : decode mt_X12_live.2.1 0 = .ok (.aload_n 0, 1) := by decide +kernel
theorem d_X12_live_1 : decode mt_X12_live.2.1 1 = .ok (.iconst 0, 1) := by decide +kernel
theorem d_X12_live_2 : decode mt_X12_live.2.1 2 = .ok (.putfield 70, 3) := by decide +kernel
theorem d_X12_live_5 : decode mt_X12_live.2.1 5 = .ok (.aload_n 0, 1) := by decide +kernel
theorem d_X12_live_6 : decode mt_X12_live.2.1 6 = .ok (.iconst 0, 1) := by decide +kernel
theorem d_X12_live_7 : decode mt_X12_live.2.1 7 = .ok (.putfield 73, 3) := by decide +kernel
theorem d_X12_live_10 : decode mt_X12_live.2.1 10 = .ok (.iload_n 1, 1) := by decide +kernel
theorem d_X12_live_11 : decode mt_X12_live.2.1 11 = .ok (.i2l, 1) := by decide +kernel
theorem d_X12_live_12 : decode mt_X12_live.2.1 12 = .ok (.lconst 0, 1) := by decide +kernel
theorem d_X12_live_13 : decode mt_X12_live.2.1 13 = .ok (.ldc2_w 508, 3) := by decide +kernel
theorem d_X12_live_16 : decode mt_X12_live.2.1 16 = .ok (.invokestatic 104, 3) := by decide +kernel
theorem d_X12_live_19 : decode mt_X12_live.2.1 19 = .ok (.ifCond .ne 9, 3) := by decide +kernel
theorem d_X12_live_22 : decode mt_X12_live.2.1 22 = .ok (.aload_n 0, 1) := by decide +kernel
theorem d_X12_live_23 : decode mt_X12_live.2.1 23 = .ok (.iconst 5, 1) := by decide +kernel
theorem d_X12_live_24 : decode mt_X12_live.2.1 24 = .ok (.invokevirtual 318, 3) := by decide +kernel
theorem d_X12_live_27 : decode mt_X12_live.2.1 27 = .ok (.ireturn, 1) := by decide +kernel
theorem d_X12_live_28 : decode mt_X12_live.2.1 28 = .ok (.aload_n 0, 1) := by decide +kernel
theorem d_X12_live_29 : decode mt_X12_live.2.1 29 = .ok (.getfield 35, 3) := by decide +kernel
theorem d_X12_live_32 : decode mt_X12_live.2.1 32 = .ok (.bipush 55, 2) := by decide +kernel
theorem d_X12_live_34 : decode mt_X12_live.2.1 34 = .ok (.iaload, 1) := by decide +kernel
theorem d_X12_live_35 : decode mt_X12_live.2.1 35 = .ok (.ifCond .ne 10, 3) := by decide +kernel
theorem d_X12_live_38 : decode mt_X12_live.2.1 38 = .ok (.aload_n 0, 1) := by decide +kernel
theorem d_X12_live_39 : decode mt_X12_live.2.1 39 = .ok (.bipush 8, 2) := by decide +kernel
theorem d_X12_live_41 : decode mt_X12_live.2.1 41 = .ok (.invokevirtual 318, 3) := by decide +kernel
theorem d_X12_live_44 : decode mt_X12_live.2.1 44 = .ok (.ireturn, 1) := by decide +kernel
theorem d_X12_live_45 : decode mt_X12_live.2.1 45 = .ok (.aload_n 0, 1) := by decide +kernel
theorem d_X12_live_46 : decode mt_X12_live.2.1 46 = .ok (.iload_n 1, 1) := by decide +kernel
theorem d_X12_live_47 : decode mt_X12_live.2.1 47 = .ok (.invokevirtual 510, 3) := by decide +kernel
theorem d_X12_live_50 : decode mt_X12_live.2.1 50 = .ok (.aload_n 0, 1) := by decide +kernel
theorem d_X12_live_51 : decode mt_X12_live.2.1 51 = .ok (.getfield 63, 3) := by decide +kernel
theorem d_X12_live_54 : decode mt_X12_live.2.1 54 = .ok (.iconst 0, 1) := by decide +kernel
theorem d_X12_live_55 : decode mt_X12_live.2.1 55 = .ok (.aload_n 0, 1) := by decide +kernel
theorem d_X12_live_56 : decode mt_X12_live.2.1 56 = .ok (.getfield 487, 3) := by decide +kernel
theorem d_X12_live_59 : decode mt_X12_live.2.1 59 = .ok (.iastore, 1) := by decide +kernel
theorem d_X12_live_60 : decode mt_X12_live.2.1 60 = .ok (.aload_n 0, 1) := by decide +kernel
theorem d_X12_live_61 : decode mt_X12_live.2.1 61 = .ok (.getfield 63, 3) := by decide +kernel
theorem d_X12_live_64 : decode mt_X12_live.2.1 64 = .ok (.iconst 1, 1) := by decide +kernel
theorem d_X12_live_65 : decode mt_X12_live.2.1 65 = .ok (.aload_n 0, 1) := by decide +kernel
theorem d_X12_live_66 : decode mt_X12_live.2.1 66 = .ok (.getfield 463, 3) := by decide +kernel
theorem d_X12_live_69 : decode mt_X12_live.2.1 69 = .ok (.iastore, 1) := by decide +kernel
theorem d_X12_live_70 : decode mt_X12_live.2.1 70 = .ok (.aload_n 0, 1) := by decide +kernel
theorem d_X12_live_71 : decode mt_X12_live.2.1 71 = .ok (.getfield 63, 3) := by decide +kernel
theorem d_X12_live_74 : decode mt_X12_live.2.1 74 = .ok (.iconst 2, 1) := by decide +kernel
theorem d_X12_live_75 : decode mt_X12_live.2.1 75 = .ok (.aload_n 0, 1) := by decide +kernel
theorem d_X12_live_76 : decode mt_X12_live.2.1 76 = .ok (.getfield 35, 3) := by decide +kernel
theorem d_X12_live_79 : decode mt_X12_live.2.1 79 = .ok (.iconst 5, 1) := by decide +kernel
theorem d_X12_live_80 : decode mt_X12_live.2.1 80 = .ok (.iaload, 1) := by decide +kernel
theorem d_X12_live_81 : decode mt_X12_live.2.1 81 = .ok (.aload_n 0, 1) := by decide +kernel
theorem d_X12_live_82 : decode mt_X12_live.2.1 82 = .ok (.getfield 502, 3) := by decide +kernel
theorem d_X12_live_85 : decode mt_X12_live.2.1 85 = .ok (.isub, 1) := by decide +kernel
theorem d_X12_live_86 : decode mt_X12_live.2.1 86 = .ok (.iastore, 1) := by decide +kernel
theorem d_X12_live_87 : decode mt_X12_live.2.1 87 = .ok (.aload_n 0, 1) := by decide +kernel
theorem d_X12_live_88 : decode mt_X12_live.2.1 88 = .ok (.getfield 63, 3) := by decide +kernel
theorem d_X12_live_91 : decode mt_X12_live.2.1 91 = .ok (.iconst 3, 1) := by decide +kernel
theorem d_X12_live_92 : decode mt_X12_live.2.1 92 = .ok (.aload_n 0, 1) := by decide +kernel
theorem d_X12_live_93 : decode mt_X12_live.2.1 93 = .ok (.getfield 35, 3) := by decide +kernel
theorem d_X12_live_96 : decode mt_X12_live.2.1 96 = .ok (.bipush 6, 2) := by decide +kernel
theorem d_X12_live_98 : decode mt_X12_live.2.1 98 = .ok (.iaload, 1) := by decide +kernel
theorem d_X12_live_99 : decode mt_X12_live.2.1 99 = .ok (.aload_n 0, 1) := by decide +kernel
theorem d_X12_live_100 : decode mt_X12_live.2.1 100 = .ok (.getfield 505, 3) := by decide +kernel
theorem d_X12_live_103 : decode mt_X12_live.2.1 103 = .ok (.isub, 1) := by decide +kernel
theorem d_X12_live_104 : decode mt_X12_live.2.1 104 = .ok (.iastore, 1) := by decide +kernel
theorem d_X12_live_105 : decode mt_X12_live.2.1 105 = .ok (.aload_n 0, 1) := by decide +kernel
theorem d_X12_live_106 : decode mt_X12_live.2.1 106 = .ok (.getfield 63, 3) := by decide +kernel
theorem d_X12_live_109 : decode mt_X12_live.2.1 109 = .ok (.iconst 4, 1) := by decide +kernel
theorem d_X12_live_110 : decode mt_X12_live.2.1 110 = .ok (.aload_n 0, 1) := by decide +kernel
theorem d_X12_live_111 : decode mt_X12_live.2.1 111 = .ok (.getfield 484, 3) := by decide +kernel
theorem d_X12_live_114 : decode mt_X12_live.2.1 114 = .ok (.iastore, 1) := by decide +kernel
theorem d_X12_live_115 : decode mt_X12_live.2.1 115 = .ok (.aload_n 0, 1) := by decide +kernel
theorem d_X12_live_116 : decode mt_X12_live.2.1 116 = .ok (.iconst 1, 1) := by decide +kernel
theorem d_X12_live_117 : decode mt_X12_live.2.1 117 = .ok (.putfield 513, 3) := by decide +kernel
theorem d_X12_live_120 : decode mt_X12_live.2.1 120 = .ok (.aload_n 0, 1) := by decide +kernel
theorem d_X12_live_121 : decode mt_X12_live.2.1 121 = .ok (.getfield 478, 3) := by decide +kernel
theorem d_X12_live_124 : decode mt_X12_live.2.1 124 = .ok (.ireturn, 1) := by decide +kernel
noncomputable def f_X12_live_b0 (v0 v1 : Int) (σ : Mem) : Option (Int × Mem) :=
  (pf Sh σ 12 v0 1 0).bind fun σ1 =>
  (pf Sh σ1 12 v0 0 0).bind fun σ2 =>
  (f_X12_isIn v1 0 9999 σ2).bind fun r3 =>
  if r3 = 0 then
    (f_X12_refuse v0 5 σ2).bind fun r5 =>
    some (r5.1, r5.2)
  else
    (gf Sh σ2 12 v0 20).bind fun x7 =>
    (al Sh σ2 20 x7 55).bind fun x8 =>
    if x8 = 0 then
      (f_X12_refuse v0 8 σ2).bind fun r9 =>
      some (r9.1, r9.2)
    else
      (f_X12_runsTerms v0 v1 σ2).bind fun r11 =>
      (gf Sh r11 12 v0 35).bind fun x13 =>
      (gf Sh r11 12 v0 40).bind fun x14 =>
      (st_ Sh r11 20 x13 0 x14).bind fun σ15 =>
      (gf Sh σ15 12 v0 35).bind fun x16 =>
      (gf Sh σ15 12 v0 41).bind fun x17 =>
      (st_ Sh σ15 20 x16 1 x17).bind fun σ18 =>
      (gf Sh σ18 12 v0 35).bind fun x19 =>
      (gf Sh σ18 12 v0 20).bind fun x20 =>
      (al Sh σ18 20 x20 5).bind fun x21 =>
      (gf Sh σ18 12 v0 42).bind fun x22 =>
      (st_ Sh σ18 20 x19 2 (w32 (x21 - x22))).bind fun σ23 =>
      (gf Sh σ23 12 v0 35).bind fun x24 =>
      (gf Sh σ23 12 v0 20).bind fun x25 =>
      (al Sh σ23 20 x25 6).bind fun x26 =>
      (gf Sh σ23 12 v0 43).bind fun x27 =>
      (st_ Sh σ23 20 x24 3 (w32 (x26 - x27))).bind fun σ28 =>
      (gf Sh σ28 12 v0 35).bind fun x29 =>
      (gf Sh σ28 12 v0 44).bind fun x30 =>
      (st_ Sh σ28 20 x29 4 x30).bind fun σ31 =>
      (pf Sh σ31 12 v0 36 1).bind fun σ32 =>
      (gf Sh σ32 12 v0 39).bind fun x33 =>
      some (x33, σ32)
theorem L_X12_live_b0 {sc : Nat × (Nat → Int32)} {o : Int × Mem} {v0 v1 : Int} {σ : Mem} (h : f_X12_live_b0 v0 v1 σ = some o) : E sc (Fm Sh (some (0, o.1)) Sh o.2) mt_X12_live 402 Sh Sh 0 [(2, v0), (0, v1)] [] Sh σ := by
  unfold f_X12_live_b0 at h
  refine E_aload_n d_X12_live_0 rfl (by decide) ?_
  refine E_iconst d_X12_live_1 (c32 rfl) ?_
  refine E_put d_X12_live_2 okX12 fl_X12_70 ⟨by decide, rfl⟩ (Or.inl ⟨rfl, rfl⟩) (Or.inl rfl) h (fun σ1 h => ?_)
  refine E_aload_n d_X12_live_5 rfl (by decide) ?_
  refine E_iconst d_X12_live_6 (c32 rfl) ?_
  refine E_put d_X12_live_7 okX12 fl_X12_73 ⟨by decide, rfl⟩ (Or.inl ⟨rfl, rfl⟩) (Or.inl rfl) h (fun σ2 h => ?_)
  refine E_iload_n d_X12_live_10 rfl ?_
  refine E_i2l d_X12_live_11 ?_
  refine E_lconst d_X12_live_12 cl0 ?_
  refine E_ldc2 d_X12_live_13 kw_X12_508 ?_
  refine bd h (fun r3 q4 h => ?_)
  refine E_cS (as := [(1, v1), (1, 0), (1, 9999)]) (st := []) d_X12_live_16 mk_X12_isIn nl_X12_104 (by omega) ⟨rfl, rfl, Nat.le_of_ble_eq_true rfl⟩ (L_X12_isIn q4) ?_
  refine E_if_ne (tgt := 28) d_X12_live_19 (by decide) h (fun _ h => ?_) (fun _ h => ?_)
  · refine E_aload_n d_X12_live_22 rfl (by decide) ?_
    refine E_iconst d_X12_live_23 (c32 rfl) ?_
    refine bd h (fun r5 q6 h => ?_)
    refine E_cV (as := [(0, 5)]) (st := []) (a := v0) d_X12_live_24 mk_X12_refuse nl_X12_318 (by omega) ⟨rfl, rfl, Nat.le_of_ble_eq_true rfl⟩ okX12 rfl (L_X12_refuse q6) ?_
    cases h
    exact E_iret d_X12_live_27 rfl
  · refine E_aload_n d_X12_live_28 rfl (by decide) ?_
    refine E_get d_X12_live_29 okX12 fl_X12_35 ⟨by decide, rfl⟩ h (fun x7 h => ?_)
    refine E_bipush d_X12_live_32 (c8 rfl) ?_
    refine E_iaload d_X12_live_34 h (fun x8 h => ?_)
    refine E_if_ne (tgt := 45) d_X12_live_35 (by decide) h (fun _ h => ?_) (fun _ h => ?_)
    · refine E_aload_n d_X12_live_38 rfl (by decide) ?_
      refine E_bipush d_X12_live_39 (c8 rfl) ?_
      refine bd h (fun r9 q10 h => ?_)
      refine E_cV (as := [(0, 8)]) (st := []) (a := v0) d_X12_live_41 mk_X12_refuse nl_X12_318 (by omega) ⟨rfl, rfl, Nat.le_of_ble_eq_true rfl⟩ okX12 rfl (L_X12_refuse q10) ?_
      cases h
      exact E_iret d_X12_live_44 rfl
    · refine E_aload_n d_X12_live_45 rfl (by decide) ?_
      refine E_iload_n d_X12_live_46 rfl ?_
      refine bd h (fun r11 q12 h => ?_)
      refine E_cVv (as := [(0, v1)]) (st := []) (a := v0) d_X12_live_47 mk_X12_runsTerms nl_X12_510 (by omega) ⟨rfl, rfl, Nat.le_of_ble_eq_true rfl⟩ okX12 rfl (L_X12_runsTerms q12) ?_
      refine E_aload_n d_X12_live_50 rfl (by decide) ?_
      refine E_get d_X12_live_51 okX12 fl_X12_63 ⟨by decide, rfl⟩ h (fun x13 h => ?_)
      refine E_iconst d_X12_live_54 (c32 rfl) ?_
      refine E_aload_n d_X12_live_55 rfl (by decide) ?_
      refine E_get d_X12_live_56 okX12 fl_X12_487 ⟨by decide, rfl⟩ h (fun x14 h => ?_)
      refine E_iastore d_X12_live_59 h (fun σ15 h => ?_)
      refine E_aload_n d_X12_live_60 rfl (by decide) ?_
      refine E_get d_X12_live_61 okX12 fl_X12_63 ⟨by decide, rfl⟩ h (fun x16 h => ?_)
      refine E_iconst d_X12_live_64 (c32 rfl) ?_
      refine E_aload_n d_X12_live_65 rfl (by decide) ?_
      refine E_get d_X12_live_66 okX12 fl_X12_463 ⟨by decide, rfl⟩ h (fun x17 h => ?_)
      refine E_iastore d_X12_live_69 h (fun σ18 h => ?_)
      refine E_aload_n d_X12_live_70 rfl (by decide) ?_
      refine E_get d_X12_live_71 okX12 fl_X12_63 ⟨by decide, rfl⟩ h (fun x19 h => ?_)
      refine E_iconst d_X12_live_74 (c32 rfl) ?_
      refine E_aload_n d_X12_live_75 rfl (by decide) ?_
      refine E_get d_X12_live_76 okX12 fl_X12_35 ⟨by decide, rfl⟩ h (fun x20 h => ?_)
      refine E_iconst d_X12_live_79 (c32 rfl) ?_
      refine E_iaload d_X12_live_80 h (fun x21 h => ?_)
      refine E_aload_n d_X12_live_81 rfl (by decide) ?_
      refine E_get d_X12_live_82 okX12 fl_X12_502 ⟨by decide, rfl⟩ h (fun x22 h => ?_)
      refine E_isub d_X12_live_85 ?_
      refine E_iastore d_X12_live_86 h (fun σ23 h => ?_)
      refine E_aload_n d_X12_live_87 rfl (by decide) ?_
      refine E_get d_X12_live_88 okX12 fl_X12_63 ⟨by decide, rfl⟩ h (fun x24 h => ?_)
      refine E_iconst d_X12_live_91 (c32 rfl) ?_
      refine E_aload_n d_X12_live_92 rfl (by decide) ?_
      refine E_get d_X12_live_93 okX12 fl_X12_35 ⟨by decide, rfl⟩ h (fun x25 h => ?_)
      refine E_bipush d_X12_live_96 (c8 rfl) ?_
      refine E_iaload d_X12_live_98 h (fun x26 h => ?_)
      refine E_aload_n d_X12_live_99 rfl (by decide) ?_
      refine E_get d_X12_live_100 okX12 fl_X12_505 ⟨by decide, rfl⟩ h (fun x27 h => ?_)
      refine E_isub d_X12_live_103 ?_
      refine E_iastore d_X12_live_104 h (fun σ28 h => ?_)
      refine E_aload_n d_X12_live_105 rfl (by decide) ?_
      refine E_get d_X12_live_106 okX12 fl_X12_63 ⟨by decide, rfl⟩ h (fun x29 h => ?_)
      refine E_iconst d_X12_live_109 (c32 rfl) ?_
      refine E_aload_n d_X12_live_110 rfl (by decide) ?_
      refine E_get d_X12_live_111 okX12 fl_X12_484 ⟨by decide, rfl⟩ h (fun x30 h => ?_)
      refine E_iastore d_X12_live_114 h (fun σ31 h => ?_)
      refine E_aload_n d_X12_live_115 rfl (by decide) ?_
      refine E_iconst d_X12_live_116 (c32 rfl) ?_
      refine E_put d_X12_live_117 okX12 fl_X12_513 ⟨by decide, rfl⟩ (Or.inr (Or.inr (Or.inl ⟨rfl, rfl, (Or.inr rfl)⟩))) (Or.inl rfl) h (fun σ32 h => ?_)
      refine E_aload_n d_X12_live_120 rfl (by decide) ?_
      refine E_get d_X12_live_121 okX12 fl_X12_478 ⟨by decide, rfl⟩ h (fun x33 h => ?_)
      cases h
      exact E_iret d_X12_live_124 rfl
noncomputable def f_X12_live (v0 v1 : Int) (σ : Mem) : Option (Int × Mem) := if isO Sh 12 v0 = true then f_X12_live_b0 v0 v1 σ else none
theorem L_X12_live {o : Int × Mem} {v0 v1 : Int} {σ : Mem} (h : f_X12_live v0 v1 σ = some o) : (isO Sh 12 v0 = true ∧ Cn mt_X12_live 402 [(2, v0), (0, v1)] Sh σ (some (0, o.1)) Sh o.2) := ⟨(ite_ok h).1, Cn_of mk_X12_live.1.2.2.1 (Nat.le_of_ble_eq_true rfl) (fun sc => L_X12_live_b0 (ite_ok h).2)⟩
theorem d_X12_lived_0 : decode mt_X12_lived.2.1 0 = .ok (.aload_n 0, 1) := by decide +kernel
theorem d_X12_lived_1 : decode mt_X12_lived.2.1 1 = .ok (.iconst 0, 1) := by decide +kernel
theorem d_X12_lived_2 : decode mt_X12_lived.2.1 2 = .ok (.putfield 70, 3) := by decide +kernel
theorem d_X12_lived_5 : decode mt_X12_lived.2.1 5 = .ok (.aload_n 0, 1) := by decide +kernel
theorem d_X12_lived_6 : decode mt_X12_lived.2.1 6 = .ok (.iconst 0, 1) := by decide +kernel
theorem d_X12_lived_7 : decode mt_X12_lived.2.1 7 = .ok (.putfield 73, 3) := by decide +kernel
theorem d_X12_lived_10 : decode mt_X12_lived.2.1 10 = .ok (.iload_n 1, 1) := by decide +kernel
theorem d_X12_lived_11 : decode mt_X12_lived.2.1 11 = .ok (.i2l, 1) := by decide +kernel
theorem d_X12_lived_12 : decode mt_X12_lived.2.1 12 = .ok (.lconst 0, 1) := by decide +kernel
theorem d_X12_lived_13 : decode mt_X12_lived.2.1 13 = .ok (.ldc2_w 333, 3) := by decide +kernel
theorem d_X12_lived_16 : decode mt_X12_lived.2.1 16 = .ok (.invokestatic 104, 3) := by decide +kernel
theorem d_X12_lived_19 : decode mt_X12_lived.2.1 19 = .ok (.ifCond .ne 9, 3) := by decide +kernel
theorem d_X12_lived_22 : decode mt_X12_lived.2.1 22 = .ok (.aload_n 0, 1) := by decide +kernel
theorem d_X12_lived_23 : decode mt_X12_lived.2.1 23 = .ok (.iconst 5, 1) := by decide +kernel
theorem d_X12_lived_24 : decode mt_X12_lived.2.1 24 = .ok (.invokevirtual 318, 3) := by decide +kernel
theorem d_X12_lived_27 : decode mt_X12_lived.2.1 27 = .ok (.ireturn, 1) := by decide +kernel
theorem d_X12_lived_28 : decode mt_X12_lived.2.1 28 = .ok (.aload_n 0, 1) := by decide +kernel
theorem d_X12_lived_29 : decode mt_X12_lived.2.1 29 = .ok (.getfield 513, 3) := by decide +kernel
theorem d_X12_lived_32 : decode mt_X12_lived.2.1 32 = .ok (.ifCond .eq 12, 3) := by decide +kernel
theorem d_X12_lived_35 : decode mt_X12_lived.2.1 35 = .ok (.aload_n 0, 1) := by decide +kernel
theorem d_X12_lived_36 : decode mt_X12_lived.2.1 36 = .ok (.getfield 63, 3) := by decide +kernel
theorem d_X12_lived_39 : decode mt_X12_lived.2.1 39 = .ok (.iload_n 1, 1) := by decide +kernel
theorem d_X12_lived_40 : decode mt_X12_lived.2.1 40 = .ok (.iaload, 1) := by decide +kernel
theorem d_X12_lived_41 : decode mt_X12_lived.2.1 41 = .ok (.goto 9, 3) := by decide +kernel
theorem d_X12_lived_44 : decode mt_X12_lived.2.1 44 = .ok (.aload_n 0, 1) := by decide +kernel
theorem d_X12_lived_45 : decode mt_X12_lived.2.1 45 = .ok (.bipush 8, 2) := by decide +kernel
theorem d_X12_lived_47 : decode mt_X12_lived.2.1 47 = .ok (.invokevirtual 318, 3) := by decide +kernel
theorem d_X12_lived_50 : decode mt_X12_lived.2.1 50 = .ok (.ireturn, 1) := by decide +kernel
noncomputable def f_X12_lived_b0 (v0 v1 : Int) (σ : Mem) : Option (Int × Mem) :=
  (pf Sh σ 12 v0 1 0).bind fun σ1 =>
  (pf Sh σ1 12 v0 0 0).bind fun σ2 =>
  (f_X12_isIn v1 0 4 σ2).bind fun r3 =>
  if r3 = 0 then
    (f_X12_refuse v0 5 σ2).bind fun r5 =>
    some (r5.1, r5.2)
  else
    (gf Sh σ2 12 v0 36).bind fun x7 =>
    if x7 = 0 then
      (f_X12_refuse v0 8 σ2).bind fun r8 =>
      some (r8.1, r8.2)
    else
      (gf Sh σ2 12 v0 35).bind fun x10 =>
      (al Sh σ2 20 x10 v1).bind fun x11 =>
      some (x11, σ2)
theorem L_X12_lived_b0 {sc : Nat × (Nat → Int32)} {o : Int × Mem} {v0 v1 : Int} {σ : Mem} (h : f_X12_lived_b0 v0 v1 σ = some o) : E sc (Fm Sh (some (0, o.1)) Sh o.2) mt_X12_lived 2 Sh Sh 0 [(2, v0), (0, v1)] [] Sh σ := by
  unfold f_X12_lived_b0 at h
  refine E_aload_n d_X12_lived_0 rfl (by decide) ?_
  refine E_iconst d_X12_lived_1 (c32 rfl) ?_
  refine E_put d_X12_lived_2 okX12 fl_X12_70 ⟨by decide, rfl⟩ (Or.inl ⟨rfl, rfl⟩) (Or.inl rfl) h (fun σ1 h => ?_)
  refine E_aload_n d_X12_lived_5 rfl (by decide) ?_
  refine E_iconst d_X12_lived_6 (c32 rfl) ?_
  refine E_put d_X12_lived_7 okX12 fl_X12_73 ⟨by decide, rfl⟩ (Or.inl ⟨rfl, rfl⟩) (Or.inl rfl) h (fun σ2 h => ?_)
  refine E_iload_n d_X12_lived_10 rfl ?_
  refine E_i2l d_X12_lived_11 ?_
  refine E_lconst d_X12_lived_12 cl0 ?_
  refine E_ldc2 d_X12_lived_13 kw_X12_333 ?_
  refine bd h (fun r3 q4 h => ?_)
  refine E_cS (as := [(1, v1), (1, 0), (1, 4)]) (st := []) d_X12_lived_16 mk_X12_isIn nl_X12_104 (by omega) ⟨rfl, rfl, Nat.le_of_ble_eq_true rfl⟩ (L_X12_isIn q4) ?_
  refine E_if_ne (tgt := 28) d_X12_lived_19 (by decide) h (fun _ h => ?_) (fun _ h => ?_)
  · refine E_aload_n d_X12_lived_22 rfl (by decide) ?_
    refine E_iconst d_X12_lived_23 (c32 rfl) ?_
    refine bd h (fun r5 q6 h => ?_)
    refine E_cV (as := [(0, 5)]) (st := []) (a := v0) d_X12_lived_24 mk_X12_refuse nl_X12_318 (by omega) ⟨rfl, rfl, Nat.le_of_ble_eq_true rfl⟩ okX12 rfl (L_X12_refuse q6) ?_
    cases h
    exact E_iret d_X12_lived_27 rfl
  · refine E_aload_n d_X12_lived_28 rfl (by decide) ?_
    refine E_get d_X12_lived_29 okX12 fl_X12_513 ⟨by decide, rfl⟩ h (fun x7 h => ?_)
    refine E_if_eq (tgt := 44) d_X12_lived_32 (by decide) h (fun _ h => ?_) (fun _ h => ?_)
    · refine E_aload_n d_X12_lived_44 rfl (by decide) ?_
      refine E_bipush d_X12_lived_45 (c8 rfl) ?_
      refine bd h (fun r8 q9 h => ?_)
      refine E_cV (as := [(0, 8)]) (st := []) (a := v0) d_X12_lived_47 mk_X12_refuse nl_X12_318 (by omega) ⟨rfl, rfl, Nat.le_of_ble_eq_true rfl⟩ okX12 rfl (L_X12_refuse q9) ?_
      cases h
      exact E_iret d_X12_lived_50 rfl
    · refine E_aload_n d_X12_lived_35 rfl (by decide) ?_
      refine E_get d_X12_lived_36 okX12 fl_X12_63 ⟨by decide, rfl⟩ h (fun x10 h => ?_)
      refine E_iload_n d_X12_lived_39 rfl ?_
      refine E_iaload d_X12_lived_40 h (fun x11 h => ?_)
      refine E_goto (tgt := 50) d_X12_lived_41 (by decide) ?_
      cases h
      exact E_iret d_X12_lived_50 rfl
noncomputable def f_X12_lived (v0 v1 : Int) (σ : Mem) : Option (Int × Mem) := if isO Sh 12 v0 = true then f_X12_lived_b0 v0 v1 σ else none
theorem L_X12_lived {o : Int × Mem} {v0 v1 : Int} {σ : Mem} (h : f_X12_lived v0 v1 σ = some o) : (isO Sh 12 v0 = true ∧ Cn mt_X12_lived 2 [(2, v0), (0, v1)] Sh σ (some (0, o.1)) Sh o.2) := ⟨(ite_ok h).1, Cn_of mk_X12_lived.1.2.2.1 (Nat.le_of_ble_eq_true rfl) (fun sc => L_X12_lived_b0 (ite_ok h).2)⟩
theorem d_X12_mean_0 : decode mt_X12_mean.2.1 0 = .ok (.aload_n 0, 1) := by decide +kernel
theorem d_X12_mean_1 : decode mt_X12_mean.2.1 1 = .ok (.iconst 0, 1) := by decide +kernel
theorem d_X12_mean_2 : decode mt_X12_mean.2.1 2 = .ok (.putfield 70, 3) := by decide +kernel
theorem d_X12_mean_5 : decode mt_X12_mean.2.1 5 = .ok (.aload_n 0, 1) := by decide +kernel
theorem d_X12_mean_6 : decode mt_X12_mean.2.1 6 = .ok (.iconst 0, 1) := by decide +kernel
theorem d_X12_mean_7 : decode mt_X12_mean.2.1 7 = .ok (.putfield 73, 3) := by decide +kernel
theorem d_X12_mean_10 : decode mt_X12_mean.2.1 10 = .ok (.iload_n 2, 1) := by decide +kernel
theorem d_X12_mean_11 : decode mt_X12_mean.2.1 11 = .ok (.i2l, 1) := by decide +kernel
theorem d_X12_mean_12 : decode mt_X12_mean.2.1 12 = .ok (.lconst 1, 1) := by decide +kernel
theorem d_X12_mean_13 : decode mt_X12_mean.2.1 13 = .ok (.ldc2_w 389, 3) := by decide +kernel
theorem d_X12_mean_16 : decode mt_X12_mean.2.1 16 = .ok (.invokestatic 104, 3) := by decide +kernel
theorem d_X12_mean_19 : decode mt_X12_mean.2.1 19 = .ok (.ifCond .eq 18, 3) := by decide +kernel
theorem d_X12_mean_22 : decode mt_X12_mean.2.1 22 = .ok (.iload_n 1, 1) := by decide +kernel
theorem d_X12_mean_23 : decode mt_X12_mean.2.1 23 = .ok (.i2l, 1) := by decide +kernel
theorem d_X12_mean_24 : decode mt_X12_mean.2.1 24 = .ok (.lconst 0, 1) := by decide +kernel
theorem d_X12_mean_25 : decode mt_X12_mean.2.1 25 = .ok (.sipush 10000, 3) := by decide +kernel
theorem d_X12_mean_28 : decode mt_X12_mean.2.1 28 = .ok (.iload_n 2, 1) := by decide +kernel
theorem d_X12_mean_29 : decode mt_X12_mean.2.1 29 = .ok (.isub, 1) := by decide +kernel
theorem d_X12_mean_30 : decode mt_X12_mean.2.1 30 = .ok (.i2l, 1) := by decide +kernel
theorem d_X12_mean_31 : decode mt_X12_mean.2.1 31 = .ok (.invokestatic 104, 3) := by decide +kernel
theorem d_X12_mean_34 : decode mt_X12_mean.2.1 34 = .ok (.ifCond .ne 9, 3) := by decide +kernel
theorem d_X12_mean_37 : decode mt_X12_mean.2.1 37 = .ok (.aload_n 0, 1) := by decide +kernel
theorem d_X12_mean_38 : decode mt_X12_mean.2.1 38 = .ok (.iconst 5, 1) := by decide +kernel
theorem d_X12_mean_39 : decode mt_X12_mean.2.1 39 = .ok (.invokevirtual 85, 3) := by decide +kernel
theorem d_X12_mean_42 : decode mt_X12_mean.2.1 42 = .ok (.ireturn, 1) := by decide +kernel
theorem d_X12_mean_43 : decode mt_X12_mean.2.1 43 = .ok (.aload_n 0, 1) := by decide +kernel
theorem d_X12_mean_44 : decode mt_X12_mean.2.1 44 = .ok (.getfield 35, 3) := by decide +kernel
theorem d_X12_mean_47 : decode mt_X12_mean.2.1 47 = .ok (.bipush 55, 2) := by decide +kernel
theorem d_X12_mean_49 : decode mt_X12_mean.2.1 49 = .ok (.iaload, 1) := by decide +kernel
theorem d_X12_mean_50 : decode mt_X12_mean.2.1 50 = .ok (.ifCond .ne 10, 3) := by decide +kernel
theorem d_X12_mean_53 : decode mt_X12_mean.2.1 53 = .ok (.aload_n 0, 1) := by decide +kernel
theorem d_X12_mean_54 : decode mt_X12_mean.2.1 54 = .ok (.bipush 8, 2) := by decide +kernel
theorem d_X12_mean_56 : decode mt_X12_mean.2.1 56 = .ok (.invokevirtual 85, 3) := by decide +kernel
theorem d_X12_mean_59 : decode mt_X12_mean.2.1 59 = .ok (.ireturn, 1) := by decide +kernel
theorem d_X12_mean_60 : decode mt_X12_mean.2.1 60 = .ok (.iconst 0, 1) := by decide +kernel
theorem d_X12_mean_61 : decode mt_X12_mean.2.1 61 = .ok (.istore_n 3, 1) := by decide +kernel
theorem d_X12_mean_62 : decode mt_X12_mean.2.1 62 = .ok (.iload_n 3, 1) := by decide +kernel
theorem d_X12_mean_63 : decode mt_X12_mean.2.1 63 = .ok (.bipush 55, 2) := by decide +kernel
theorem d_X12_mean_65 : decode mt_X12_mean.2.1 65 = .ok (.if_icmp .ge 21, 3) := by decide +kernel
theorem d_X12_mean_68 : decode mt_X12_mean.2.1 68 = .ok (.aload_n 0, 1) := by decide +kernel
theorem d_X12_mean_69 : decode mt_X12_mean.2.1 69 = .ok (.getfield 38, 3) := by decide +kernel
theorem d_X12_mean_72 : decode mt_X12_mean.2.1 72 = .ok (.iload_n 3, 1) := by decide +kernel
theorem d_X12_mean_73 : decode mt_X12_mean.2.1 73 = .ok (.aload_n 0, 1) := by decide +kernel
theorem d_X12_mean_74 : decode mt_X12_mean.2.1 74 = .ok (.getfield 35, 3) := by decide +kernel
theorem d_X12_mean_77 : decode mt_X12_mean.2.1 77 = .ok (.iload_n 3, 1) := by decide +kernel
theorem d_X12_mean_78 : decode mt_X12_mean.2.1 78 = .ok (.iaload, 1) := by decide +kernel
theorem d_X12_mean_79 : decode mt_X12_mean.2.1 79 = .ok (.iastore, 1) := by decide +kernel
theorem d_X12_mean_80 : decode mt_X12_mean.2.1 80 = .ok (.iinc 3 1, 3) := by decide +kernel
theorem d_X12_mean_83 : decode mt_X12_mean.2.1 83 = .ok (.goto (-21), 3) := by decide +kernel
theorem d_X12_mean_86 : decode mt_X12_mean.2.1 86 = .ok (.lconst 0, 1) := by decide +kernel
theorem d_X12_mean_87 : decode mt_X12_mean.2.1 87 = .ok (.lstore_n 3, 1) := by decide +kernel
theorem d_X12_mean_88 : decode mt_X12_mean.2.1 88 = .ok (.iconst 0, 1) := by decide +kernel
theorem d_X12_mean_89 : decode mt_X12_mean.2.1 89 = .ok (.istore 5, 2) := by decide +kernel
theorem d_X12_mean_91 : decode mt_X12_mean.2.1 91 = .ok (.iload 5, 2) := by decide +kernel
theorem d_X12_mean_93 : decode mt_X12_mean.2.1 93 = .ok (.iload_n 2, 1) := by decide +kernel
theorem d_X12_mean_94 : decode mt_X12_mean.2.1 94 = .ok (.if_icmp .ge 58, 3) := by decide +kernel
theorem d_X12_mean_97 : decode mt_X12_mean.2.1 97 = .ok (.aload_n 0, 1) := by decide +kernel
theorem d_X12_mean_98 : decode mt_X12_mean.2.1 98 = .ok (.iload_n 1, 1) := by decide +kernel
theorem d_X12_mean_99 : decode mt_X12_mean.2.1 99 = .ok (.iload 5, 2) := by decide +kernel
theorem d_X12_mean_101 : decode mt_X12_mean.2.1 101 = .ok (.iadd, 1) := by decide +kernel
theorem d_X12_mean_102 : decode mt_X12_mean.2.1 102 = .ok (.invokevirtual 510, 3) := by decide +kernel
theorem d_X12_mean_105 : decode mt_X12_mean.2.1 105 = .ok (.lload_n 3, 1) := by decide +kernel
theorem d_X12_mean_106 : decode mt_X12_mean.2.1 106 = .ok (.aload_n 0, 1) := by decide +kernel
theorem d_X12_mean_107 : decode mt_X12_mean.2.1 107 = .ok (.invokevirtual 321, 3) := by decide +kernel
theorem d_X12_mean_110 : decode mt_X12_mean.2.1 110 = .ok (.invokestatic 324, 3) := by decide +kernel
theorem d_X12_mean_113 : decode mt_X12_mean.2.1 113 = .ok (.i2l, 1) := by decide +kernel
theorem d_X12_mean_114 : decode mt_X12_mean.2.1 114 = .ok (.ladd, 1) := by decide +kernel
theorem d_X12_mean_115 : decode mt_X12_mean.2.1 115 = .ok (.lstore_n 3, 1) := by decide +kernel
theorem d_X12_mean_116 : decode mt_X12_mean.2.1 116 = .ok (.iconst 0, 1) := by decide +kernel
theorem d_X12_mean_117 : decode mt_X12_mean.2.1 117 = .ok (.istore 6, 2) := by decide +kernel
theorem d_X12_mean_119 : decode mt_X12_mean.2.1 119 = .ok (.iload 6, 2) := by decide +kernel
theorem d_X12_mean_121 : decode mt_X12_mean.2.1 121 = .ok (.bipush 55, 2) := by decide +kernel
theorem d_X12_mean_123 : decode mt_X12_mean.2.1 123 = .ok (.if_icmp .ge 23, 3) := by decide +kernel
theorem d_X12_mean_126 : decode mt_X12_mean.2.1 126 = .ok (.aload_n 0, 1) := by decide +kernel
theorem d_X12_mean_127 : decode mt_X12_mean.2.1 127 = .ok (.getfield 35, 3) := by decide +kernel
theorem d_X12_mean_130 : decode mt_X12_mean.2.1 130 = .ok (.iload 6, 2) := by decide +kernel
theorem d_X12_mean_132 : decode mt_X12_mean.2.1 132 = .ok (.aload_n 0, 1) := by decide +kernel
theorem d_X12_mean_133 : decode mt_X12_mean.2.1 133 = .ok (.getfield 38, 3) := by decide +kernel
theorem d_X12_mean_136 : decode mt_X12_mean.2.1 136 = .ok (.iload 6, 2) := by decide +kernel
theorem d_X12_mean_138 : decode mt_X12_mean.2.1 138 = .ok (.iaload, 1) := by decide +kernel
theorem d_X12_mean_139 : decode mt_X12_mean.2.1 139 = .ok (.iastore, 1) := by decide +kernel
theorem d_X12_mean_140 : decode mt_X12_mean.2.1 140 = .ok (.iinc 6 1, 3) := by decide +kernel
theorem d_X12_mean_143 : decode mt_X12_mean.2.1 143 = .ok (.goto (-24), 3) := by decide +kernel
theorem d_X12_mean_146 : decode mt_X12_mean.2.1 146 = .ok (.iinc 5 1, 3) := by decide +kernel
theorem d_X12_mean_149 : decode mt_X12_mean.2.1 149 = .ok (.goto (-58), 3) := by decide +kernel
theorem d_X12_mean_152 : decode mt_X12_mean.2.1 152 = .ok (.aload_n 0, 1) := by decide +kernel
theorem d_X12_mean_153 : decode mt_X12_mean.2.1 153 = .ok (.lload_n 3, 1) := by decide +kernel
theorem d_X12_mean_154 : decode mt_X12_mean.2.1 154 = .ok (.iload_n 2, 1) := by decide +kernel
theorem d_X12_mean_155 : decode mt_X12_mean.2.1 155 = .ok (.i2l, 1) := by decide +kernel
theorem d_X12_mean_156 : decode mt_X12_mean.2.1 156 = .ok (.invokevirtual 453, 3) := by decide +kernel
theorem d_X12_mean_159 : decode mt_X12_mean.2.1 159 = .ok (.ireturn, 1) := by decide +kernel
noncomputable def f_X12_mean_b37 (v0 : Int) (σ : Mem) : Option (Int × Mem) :=
  (f_X12_no v0 5 σ).bind fun r29 =>
  (bz r29.1).bind fun _ =>
  some (r29.1, r29.2)
theorem L_X12_mean_b37 {sc : Nat × (Nat → Int32)} {o : Int × Mem} {v0 : Int} {σ : Mem} (h : f_X12_mean_b37 v0 σ = some o) : E sc (Fm Sh (some (0, o.1)) Sh o.2) mt_X12_mean 402 Sh Sh 37 [(2, v0), (9, 0), (9, 0), (9, 0), (9, 0), (9, 0), (9, 0)] [] Sh σ := by
  unfold f_X12_mean_b37 at h
  refine E_aload_n d_X12_mean_37 rfl (by decide) ?_
  refine E_iconst d_X12_mean_38 (c32 rfl) ?_
  refine bd h (fun r29 q30 h => ?_)
  refine E_cV (as := [(0, 5)]) (st := []) (a := v0) d_X12_mean_39 mk_X12_no nl_X12_85 (by omega) ⟨rfl, rfl, Nat.le_of_ble_eq_true rfl⟩ okX12 rfl (L_X12_no q30) ?_
  refine bd_bz h (fun q31 h => ?_)
  cases h
  exact E_zret d_X12_mean_42 rfl q31
noncomputable def f_X12_mean_b119 (k91 : (Int → Int → Int → Int → Int → Mem → Option (Int × Mem))) (k119 : (Int → Int → Int → Int → Int → Int → Mem → Option (Int × Mem))) (v0 v1 v2 v3 v5 v6 : Int) (σ : Mem) : Option (Int × Mem) :=
  if 55 ≤ v6 then
    k91 v0 v1 v2 v3 (w32 (v5 + 1)) σ
  else
    (gf Sh σ 12 v0 20).bind fun x25 =>
    (gf Sh σ 12 v0 21).bind fun x26 =>
    (al Sh σ 20 x26 v6).bind fun x27 =>
    (st_ Sh σ 20 x25 v6 x27).bind fun σ28 =>
    k119 v0 v1 v2 v3 v5 (w32 (v6 + 1)) σ28
theorem L_X12_mean_b119 {sc : Nat × (Nat → Int32)} {o : Int × Mem} {k91 : (Int → Int → Int → Int → Int → Mem → Option (Int × Mem))} {k119 : (Int → Int → Int → Int → Int → Int → Mem → Option (Int × Mem))} (hk91 : ∀ {v0 v1 v2 v3 v5 : Int} {σ : Mem}, k91 v0 v1 v2 v3 v5 σ = some o → E sc (Fm Sh (some (0, o.1)) Sh o.2) mt_X12_mean 402 Sh Sh 91 [(2, v0), (0, v1), (0, v2), (1, v3), (9, 0), (0, v5), (9, 0)] [] Sh σ) (hk119 : ∀ {v0 v1 v2 v3 v5 v6 : Int} {σ : Mem}, k119 v0 v1 v2 v3 v5 v6 σ = some o → E sc (Fm Sh (some (0, o.1)) Sh o.2) mt_X12_mean 402 Sh Sh 119 [(2, v0), (0, v1), (0, v2), (1, v3), (9, 0), (0, v5), (0, v6)] [] Sh σ) {v0 v1 v2 v3 v5 v6 : Int} {σ : Mem} (h : f_X12_mean_b119 k91 k119 v0 v1 v2 v3 v5 v6 σ = some o) : E sc (Fm Sh (some (0, o.1)) Sh o.2) mt_X12_mean 402 Sh Sh 119 [(2, v0), (0, v1), (0, v2), (1, v3), (9, 0), (0, v5), (0, v6)] [] Sh σ := by
  unfold f_X12_mean_b119 at h
  refine E_iload d_X12_mean_119 rfl ?_
  refine E_bipush d_X12_mean_121 (c8 rfl) ?_
  refine E_icmp_ge (tgt := 146) d_X12_mean_123 (by decide) h (fun _ h => ?_) (fun _ h => ?_)
  · refine E_iinc d_X12_mean_146 (ls' := [(2, v0), (0, v1), (0, v2), (1, v3), (9, 0), (0, w32 (v5 + 1)), (0, v6)]) rfl ⟨by decide, rfl⟩ ?_
    refine E_goto (tgt := 91) d_X12_mean_149 (by decide) ?_
    exact E_weak (ls' := [(2, v0), (0, v1), (0, v2), (1, v3), (9, 0), (0, w32 (v5 + 1)), (9, 0)]) ⟨Or.inr rfl, Or.inr rfl, Or.inr rfl, Or.inr rfl, Or.inl rfl, Or.inr rfl, Or.inl rfl, trivial⟩ (hk91 h)
  · refine E_aload_n d_X12_mean_126 rfl (by decide) ?_
    refine E_get d_X12_mean_127 okX12 fl_X12_35 ⟨by decide, rfl⟩ h (fun x25 h => ?_)
    refine E_iload d_X12_mean_130 rfl ?_
    refine E_aload_n d_X12_mean_132 rfl (by decide) ?_
    refine E_get d_X12_mean_133 okX12 fl_X12_38 ⟨by decide, rfl⟩ h (fun x26 h => ?_)
    refine E_iload d_X12_mean_136 rfl ?_
    refine E_iaload d_X12_mean_138 h (fun x27 h => ?_)
    refine E_iastore d_X12_mean_139 h (fun σ28 h => ?_)
    refine E_iinc d_X12_mean_140 (ls' := [(2, v0), (0, v1), (0, v2), (1, v3), (9, 0), (0, v5), (0, w32 (v6 + 1))]) rfl ⟨by decide, rfl⟩ ?_
    refine E_goto (tgt := 119) d_X12_mean_143 (by decide) ?_
    exact (hk119 h)
noncomputable def f_X12_mean_h119 (k91 : (Int → Int → Int → Int → Int → Mem → Option (Int × Mem))) (n : Nat) : Int → Int → Int → Int → Int → Int → Mem → Option (Int × Mem) := Nat.rec (motive := fun _ => Int → Int → Int → Int → Int → Int → Mem → Option (Int × Mem)) (fun _ _ _ _ _ _ _ => none) (fun _ ih => f_X12_mean_b119 k91 (ih)) n
theorem L_X12_mean_h119 {sc : Nat × (Nat → Int32)} {o : Int × Mem} {k91 : (Int → Int → Int → Int → Int → Mem → Option (Int × Mem))} (hk91 : ∀ {v0 v1 v2 v3 v5 : Int} {σ : Mem}, k91 v0 v1 v2 v3 v5 σ = some o → E sc (Fm Sh (some (0, o.1)) Sh o.2) mt_X12_mean 402 Sh Sh 91 [(2, v0), (0, v1), (0, v2), (1, v3), (9, 0), (0, v5), (9, 0)] [] Sh σ) : ∀ (n : Nat) {v0 v1 v2 v3 v5 v6 : Int} {σ : Mem}, f_X12_mean_h119 k91 n v0 v1 v2 v3 v5 v6 σ = some o → E sc (Fm Sh (some (0, o.1)) Sh o.2) mt_X12_mean 402 Sh Sh 119 [(2, v0), (0, v1), (0, v2), (1, v3), (9, 0), (0, v5), (0, v6)] [] Sh σ := by
  intro n
  induction n with
  | zero => intro v0 v1 v2 v3 v5 v6 σ h; cases h
  | succ n ih => intro v0 v1 v2 v3 v5 v6 σ h; exact L_X12_mean_b119 hk91 (@ih) h
noncomputable def f_X12_mean_b91 (k91 : (Int → Int → Int → Int → Int → Mem → Option (Int × Mem))) (v0 v1 v2 v3 v5 : Int) (σ : Mem) : Option (Int × Mem) :=
  if v2 ≤ v5 then
    (f_X12_fraction v0 v3 v2 σ).bind fun r16 =>
    (bz r16.1).bind fun _ =>
    some (r16.1, r16.2)
  else
    (f_X12_runsTerms v0 (w32 (v1 + v5)) σ).bind fun r19 =>
    (f_X12_stones v0 r19).bind fun r21 =>
    (f_X12_sizeOf r21 r19).bind fun r23 =>
    f_X12_mean_h119 k91 FU v0 v1 v2 (w64 (v3 + r23)) v5 0 r19
theorem L_X12_mean_b91 {sc : Nat × (Nat → Int32)} {o : Int × Mem} {k91 : (Int → Int → Int → Int → Int → Mem → Option (Int × Mem))} (hk91 : ∀ {v0 v1 v2 v3 v5 : Int} {σ : Mem}, k91 v0 v1 v2 v3 v5 σ = some o → E sc (Fm Sh (some (0, o.1)) Sh o.2) mt_X12_mean 402 Sh Sh 91 [(2, v0), (0, v1), (0, v2), (1, v3), (9, 0), (0, v5), (9, 0)] [] Sh σ) {v0 v1 v2 v3 v5 : Int} {σ : Mem} (h : f_X12_mean_b91 k91 v0 v1 v2 v3 v5 σ = some o) : E sc (Fm Sh (some (0, o.1)) Sh o.2) mt_X12_mean 402 Sh Sh 91 [(2, v0), (0, v1), (0, v2), (1, v3), (9, 0), (0, v5), (9, 0)] [] Sh σ := by
  unfold f_X12_mean_b91 at h
  refine E_iload d_X12_mean_91 rfl ?_
  refine E_iload_n d_X12_mean_93 rfl ?_
  refine E_icmp_ge (tgt := 152) d_X12_mean_94 (by decide) h (fun _ h => ?_) (fun _ h => ?_)
  · refine E_aload_n d_X12_mean_152 rfl (by decide) ?_
    refine E_lload_n d_X12_mean_153 rfl ?_
    refine E_iload_n d_X12_mean_154 rfl ?_
    refine E_i2l d_X12_mean_155 ?_
    refine bd h (fun r16 q17 h => ?_)
    refine E_cV (as := [(1, v3), (1, v2)]) (st := []) (a := v0) d_X12_mean_156 mk_X12_fraction nl_X12_453 (by omega) ⟨rfl, rfl, Nat.le_of_ble_eq_true rfl⟩ okX12 rfl (L_X12_fraction q17) ?_
    refine bd_bz h (fun q18 h => ?_)
    cases h
    exact E_zret d_X12_mean_159 rfl q18
  · refine E_aload_n d_X12_mean_97 rfl (by decide) ?_
    refine E_iload_n d_X12_mean_98 rfl ?_
    refine E_iload d_X12_mean_99 rfl ?_
    refine E_iadd d_X12_mean_101 ?_
    refine bd h (fun r19 q20 h => ?_)
    refine E_cVv (as := [(0, w32 (v1 + v5))]) (st := []) (a := v0) d_X12_mean_102 mk_X12_runsTerms nl_X12_510 (by omega) ⟨rfl, rfl, Nat.le_of_ble_eq_true rfl⟩ okX12 rfl (L_X12_runsTerms q20) ?_
    refine E_lload_n d_X12_mean_105 rfl ?_
    refine E_aload_n d_X12_mean_106 rfl (by decide) ?_
    refine bd h (fun r21 q22 h => ?_)
    refine E_cV (as := []) (st := [(1, v3)]) (a := v0) d_X12_mean_107 mk_X12_stones nl_X12_321 (by omega) ⟨rfl, rfl, Nat.le_of_ble_eq_true rfl⟩ okX12 rfl (L_X12_stones q22) ?_
    refine bd h (fun r23 q24 h => ?_)
    refine E_cS (as := [(0, r21)]) (st := [(1, v3)]) d_X12_mean_110 mk_X12_sizeOf nl_X12_324 (by omega) ⟨rfl, rfl, Nat.le_of_ble_eq_true rfl⟩ (L_X12_sizeOf q24) ?_
    refine E_i2l d_X12_mean_113 ?_
    refine E_ladd d_X12_mean_114 ?_
    refine E_lstore_n d_X12_mean_115 (ls' := [(2, v0), (0, v1), (0, v2), (1, w64 (v3 + r23)), (9, 0), (0, v5), (9, 0)]) ⟨by decide, rfl⟩ ?_
    refine E_iconst d_X12_mean_116 (c32 rfl) ?_
    refine E_istore d_X12_mean_117 (ls' := [(2, v0), (0, v1), (0, v2), (1, w64 (v3 + r23)), (9, 0), (0, v5), (0, 0)]) ⟨by decide, rfl⟩ ?_
    exact (L_X12_mean_h119 hk91 FU h)
noncomputable def f_X12_mean_h91 (n : Nat) : Int → Int → Int → Int → Int → Mem → Option (Int × Mem) := Nat.rec (motive := fun _ => Int → Int → Int → Int → Int → Mem → Option (Int × Mem)) (fun _ _ _ _ _ _ => none) (fun _ ih => f_X12_mean_b91 (ih)) n
theorem L_X12_mean_h91 {sc : Nat × (Nat → Int32)} {o : Int × Mem} : ∀ (n : Nat) {v0 v1 v2 v3 v5 : Int} {σ : Mem}, f_X12_mean_h91 n v0 v1 v2 v3 v5 σ = some o → E sc (Fm Sh (some (0, o.1)) Sh o.2) mt_X12_mean 402 Sh Sh 91 [(2, v0), (0, v1), (0, v2), (1, v3), (9, 0), (0, v5), (9, 0)] [] Sh σ := by
  intro n
  induction n with
  | zero => intro v0 v1 v2 v3 v5 σ h; cases h
  | succ n ih => intro v0 v1 v2 v3 v5 σ h; exact L_X12_mean_b91 (@ih) h
noncomputable def f_X12_mean_b62 (k62 : (Int → Int → Int → Int → Mem → Option (Int × Mem))) (v0 v1 v2 v3 : Int) (σ : Mem) : Option (Int × Mem) :=
  if 55 ≤ v3 then
    f_X12_mean_h91 FU v0 v1 v2 0 0 σ
  else
    (gf Sh σ 12 v0 21).bind fun x12 =>
    (gf Sh σ 12 v0 20).bind fun x13 =>
    (al Sh σ 20 x13 v3).bind fun x14 =>
    (st_ Sh σ 20 x12 v3 x14).bind fun σ15 =>
    k62 v0 v1 v2 (w32 (v3 + 1)) σ15
theorem L_X12_mean_b62 {sc : Nat × (Nat → Int32)} {o : Int × Mem} {k62 : (Int → Int → Int → Int → Mem → Option (Int × Mem))} (hk62 : ∀ {v0 v1 v2 v3 : Int} {σ : Mem}, k62 v0 v1 v2 v3 σ = some o → E sc (Fm Sh (some (0, o.1)) Sh o.2) mt_X12_mean 402 Sh Sh 62 [(2, v0), (0, v1), (0, v2), (0, v3), (9, 0), (9, 0), (9, 0)] [] Sh σ) {v0 v1 v2 v3 : Int} {σ : Mem} (h : f_X12_mean_b62 k62 v0 v1 v2 v3 σ = some o) : E sc (Fm Sh (some (0, o.1)) Sh o.2) mt_X12_mean 402 Sh Sh 62 [(2, v0), (0, v1), (0, v2), (0, v3), (9, 0), (9, 0), (9, 0)] [] Sh σ := by
  unfold f_X12_mean_b62 at h
  refine E_iload_n d_X12_mean_62 rfl ?_
  refine E_bipush d_X12_mean_63 (c8 rfl) ?_
  refine E_icmp_ge (tgt := 86) d_X12_mean_65 (by decide) h (fun _ h => ?_) (fun _ h => ?_)
  · refine E_lconst d_X12_mean_86 cl0 ?_
    refine E_lstore_n d_X12_mean_87 (ls' := [(2, v0), (0, v1), (0, v2), (1, 0), (9, 0), (9, 0), (9, 0)]) ⟨by decide, rfl⟩ ?_
    refine E_iconst d_X12_mean_88 (c32 rfl) ?_
    refine E_istore d_X12_mean_89 (ls' := [(2, v0), (0, v1), (0, v2), (1, 0), (9, 0), (0, 0), (9, 0)]) ⟨by decide, rfl⟩ ?_
    exact (L_X12_mean_h91 FU h)
  · refine E_aload_n d_X12_mean_68 rfl (by decide) ?_
    refine E_get d_X12_mean_69 okX12 fl_X12_38 ⟨by decide, rfl⟩ h (fun x12 h => ?_)
    refine E_iload_n d_X12_mean_72 rfl ?_
    refine E_aload_n d_X12_mean_73 rfl (by decide) ?_
    refine E_get d_X12_mean_74 okX12 fl_X12_35 ⟨by decide, rfl⟩ h (fun x13 h => ?_)
    refine E_iload_n d_X12_mean_77 rfl ?_
    refine E_iaload d_X12_mean_78 h (fun x14 h => ?_)
    refine E_iastore d_X12_mean_79 h (fun σ15 h => ?_)
    refine E_iinc d_X12_mean_80 (ls' := [(2, v0), (0, v1), (0, v2), (0, w32 (v3 + 1)), (9, 0), (9, 0), (9, 0)]) rfl ⟨by decide, rfl⟩ ?_
    refine E_goto (tgt := 62) d_X12_mean_83 (by decide) ?_
    exact (hk62 h)
noncomputable def f_X12_mean_h62 (n : Nat) : Int → Int → Int → Int → Mem → Option (Int × Mem) := Nat.rec (motive := fun _ => Int → Int → Int → Int → Mem → Option (Int × Mem)) (fun _ _ _ _ _ => none) (fun _ ih => f_X12_mean_b62 (ih)) n
theorem L_X12_mean_h62 {sc : Nat × (Nat → Int32)} {o : Int × Mem} : ∀ (n : Nat) {v0 v1 v2 v3 : Int} {σ : Mem}, f_X12_mean_h62 n v0 v1 v2 v3 σ = some o → E sc (Fm Sh (some (0, o.1)) Sh o.2) mt_X12_mean 402 Sh Sh 62 [(2, v0), (0, v1), (0, v2), (0, v3), (9, 0), (9, 0), (9, 0)] [] Sh σ := by
  intro n
  induction n with
  | zero => intro v0 v1 v2 v3 σ h; cases h
  | succ n ih => intro v0 v1 v2 v3 σ h; exact L_X12_mean_b62 (@ih) h
noncomputable def f_X12_mean_b0 (v0 v1 v2 : Int) (σ : Mem) : Option (Int × Mem) :=
  (pf Sh σ 12 v0 1 0).bind fun σ1 =>
  (pf Sh σ1 12 v0 0 0).bind fun σ2 =>
  (f_X12_isIn v2 1 20 σ2).bind fun r3 =>
  if r3 = 0 then
    f_X12_mean_b37 v0 σ2
  else
    (f_X12_isIn v1 0 (w32 (10000 - v2)) σ2).bind fun r5 =>
    if r5 = 0 then
      f_X12_mean_b37 v0 σ2
    else
      (gf Sh σ2 12 v0 20).bind fun x7 =>
      (al Sh σ2 20 x7 55).bind fun x8 =>
      if x8 = 0 then
        (f_X12_no v0 8 σ2).bind fun r9 =>
        (bz r9.1).bind fun _ =>
        some (r9.1, r9.2)
      else
        f_X12_mean_h62 FU v0 v1 v2 0 σ2
theorem L_X12_mean_b0 {sc : Nat × (Nat → Int32)} {o : Int × Mem} {v0 v1 v2 : Int} {σ : Mem} (h : f_X12_mean_b0 v0 v1 v2 σ = some o) : E sc (Fm Sh (some (0, o.1)) Sh o.2) mt_X12_mean 402 Sh Sh 0 [(2, v0), (0, v1), (0, v2), (9, 0), (9, 0), (9, 0), (9, 0)] [] Sh σ := by
  unfold f_X12_mean_b0 at h
  refine E_aload_n d_X12_mean_0 rfl (by decide) ?_
  refine E_iconst d_X12_mean_1 (c32 rfl) ?_
  refine E_put d_X12_mean_2 okX12 fl_X12_70 ⟨by decide, rfl⟩ (Or.inl ⟨rfl, rfl⟩) (Or.inl rfl) h (fun σ1 h => ?_)
  refine E_aload_n d_X12_mean_5 rfl (by decide) ?_
  refine E_iconst d_X12_mean_6 (c32 rfl) ?_
  refine E_put d_X12_mean_7 okX12 fl_X12_73 ⟨by decide, rfl⟩ (Or.inl ⟨rfl, rfl⟩) (Or.inl rfl) h (fun σ2 h => ?_)
  refine E_iload_n d_X12_mean_10 rfl ?_
  refine E_i2l d_X12_mean_11 ?_
  refine E_lconst d_X12_mean_12 cl1 ?_
  refine E_ldc2 d_X12_mean_13 kw_X12_389 ?_
  refine bd h (fun r3 q4 h => ?_)
  refine E_cS (as := [(1, v2), (1, 1), (1, 20)]) (st := []) d_X12_mean_16 mk_X12_isIn nl_X12_104 (by omega) ⟨rfl, rfl, Nat.le_of_ble_eq_true rfl⟩ (L_X12_isIn q4) ?_
  refine E_if_eq (tgt := 37) d_X12_mean_19 (by decide) h (fun _ h => ?_) (fun _ h => ?_)
  · exact E_weak (ls' := [(2, v0), (9, 0), (9, 0), (9, 0), (9, 0), (9, 0), (9, 0)]) ⟨Or.inr rfl, Or.inl rfl, Or.inl rfl, Or.inl rfl, Or.inl rfl, Or.inl rfl, Or.inl rfl, trivial⟩ (L_X12_mean_b37 h)
  · refine E_iload_n d_X12_mean_22 rfl ?_
    refine E_i2l d_X12_mean_23 ?_
    refine E_lconst d_X12_mean_24 cl0 ?_
    refine E_sipush d_X12_mean_25 (c16 rfl) ?_
    refine E_iload_n d_X12_mean_28 rfl ?_
    refine E_isub d_X12_mean_29 ?_
    refine E_i2l d_X12_mean_30 ?_
    refine bd h (fun r5 q6 h => ?_)
    refine E_cS (as := [(1, v1), (1, 0), (1, w32 (10000 - v2))]) (st := []) d_X12_mean_31 mk_X12_isIn nl_X12_104 (by omega) ⟨rfl, rfl, Nat.le_of_ble_eq_true rfl⟩ (L_X12_isIn q6) ?_
    refine E_if_ne (tgt := 43) d_X12_mean_34 (by decide) h (fun _ h => ?_) (fun _ h => ?_)
    · exact E_weak (ls' := [(2, v0), (9, 0), (9, 0), (9, 0), (9, 0), (9, 0), (9, 0)]) ⟨Or.inr rfl, Or.inl rfl, Or.inl rfl, Or.inl rfl, Or.inl rfl, Or.inl rfl, Or.inl rfl, trivial⟩ (L_X12_mean_b37 h)
    · refine E_aload_n d_X12_mean_43 rfl (by decide) ?_
      refine E_get d_X12_mean_44 okX12 fl_X12_35 ⟨by decide, rfl⟩ h (fun x7 h => ?_)
      refine E_bipush d_X12_mean_47 (c8 rfl) ?_
      refine E_iaload d_X12_mean_49 h (fun x8 h => ?_)
      refine E_if_ne (tgt := 60) d_X12_mean_50 (by decide) h (fun _ h => ?_) (fun _ h => ?_)
      · refine E_aload_n d_X12_mean_53 rfl (by decide) ?_
        refine E_bipush d_X12_mean_54 (c8 rfl) ?_
        refine bd h (fun r9 q10 h => ?_)
        refine E_cV (as := [(0, 8)]) (st := []) (a := v0) d_X12_mean_56 mk_X12_no nl_X12_85 (by omega) ⟨rfl, rfl, Nat.le_of_ble_eq_true rfl⟩ okX12 rfl (L_X12_no q10) ?_
        refine bd_bz h (fun q11 h => ?_)
        cases h
        exact E_zret d_X12_mean_59 rfl q11
      · refine E_iconst d_X12_mean_60 (c32 rfl) ?_
        refine E_istore_n d_X12_mean_61 (ls' := [(2, v0), (0, v1), (0, v2), (0, 0), (9, 0), (9, 0), (9, 0)]) ⟨by decide, rfl⟩ ?_
        exact (L_X12_mean_h62 FU h)
noncomputable def f_X12_mean (v0 v1 v2 : Int) (σ : Mem) : Option (Int × Mem) := if isO Sh 12 v0 = true then f_X12_mean_b0 v0 v1 v2 σ else none
theorem L_X12_mean {o : Int × Mem} {v0 v1 v2 : Int} {σ : Mem} (h : f_X12_mean v0 v1 v2 σ = some o) : (isO Sh 12 v0 = true ∧ Cn mt_X12_mean 402 [(2, v0), (0, v1), (0, v2)] Sh σ (some (0, o.1)) Sh o.2) := ⟨(ite_ok h).1, Cn_of mk_X12_mean.1.2.2.1 (Nat.le_of_ble_eq_true rfl) (fun sc => L_X12_mean_b0 (ite_ok h).2)⟩
theorem d_X12_mark_0 : decode mt_X12_mark.2.1 0 = .ok (.aload_n 0, 1) := by decide +kernel
theorem d_X12_mark_1 : decode mt_X12_mark.2.1 1 = .ok (.iconst 0, 1) := by decide +kernel
theorem d_X12_mark_2 : decode mt_X12_mark.2.1 2 = .ok (.putfield 70, 3) := by decide +kernel
theorem d_X12_mark_5 : decode mt_X12_mark.2.1 5 = .ok (.aload_n 0, 1) := by decide +kernel
theorem d_X12_mark_6 : decode mt_X12_mark.2.1 6 = .ok (.iconst 0, 1) := by decide +kernel
theorem d_X12_mark_7 : decode mt_X12_mark.2.1 7 = .ok (.putfield 73, 3) := by decide +kernel
theorem d_X12_mark_10 : decode mt_X12_mark.2.1 10 = .ok (.aload_n 0, 1) := by decide +kernel
theorem d_X12_mark_11 : decode mt_X12_mark.2.1 11 = .ok (.getfield 516, 3) := by decide +kernel
theorem d_X12_mark_14 : decode mt_X12_mark.2.1 14 = .ok (.iconst 3, 1) := by decide +kernel
theorem d_X12_mark_15 : decode mt_X12_mark.2.1 15 = .ok (.if_icmp .ne 10, 3) := by decide +kernel
theorem d_X12_mark_18 : decode mt_X12_mark.2.1 18 = .ok (.aload_n 0, 1) := by decide +kernel
theorem d_X12_mark_19 : decode mt_X12_mark.2.1 19 = .ok (.bipush 7, 2) := by decide +kernel
theorem d_X12_mark_21 : decode mt_X12_mark.2.1 21 = .ok (.invokevirtual 318, 3) := by decide +kernel
theorem d_X12_mark_24 : decode mt_X12_mark.2.1 24 = .ok (.ireturn, 1) := by decide +kernel
theorem d_X12_mark_25 : decode mt_X12_mark.2.1 25 = .ok (.aload_n 0, 1) := by decide +kernel
theorem d_X12_mark_26 : decode mt_X12_mark.2.1 26 = .ok (.dup, 1) := by decide +kernel
theorem d_X12_mark_27 : decode mt_X12_mark.2.1 27 = .ok (.getfield 516, 3) := by decide +kernel
theorem d_X12_mark_30 : decode mt_X12_mark.2.1 30 = .ok (.iconst 1, 1) := by decide +kernel
theorem d_X12_mark_31 : decode mt_X12_mark.2.1 31 = .ok (.iadd, 1) := by decide +kernel
theorem d_X12_mark_32 : decode mt_X12_mark.2.1 32 = .ok (.putfield 516, 3) := by decide +kernel
theorem d_X12_mark_35 : decode mt_X12_mark.2.1 35 = .ok (.aload_n 0, 1) := by decide +kernel
theorem d_X12_mark_36 : decode mt_X12_mark.2.1 36 = .ok (.iconst 0, 1) := by decide +kernel
theorem d_X12_mark_37 : decode mt_X12_mark.2.1 37 = .ok (.aload_n 0, 1) := by decide +kernel
theorem d_X12_mark_38 : decode mt_X12_mark.2.1 38 = .ok (.getfield 516, 3) := by decide +kernel
theorem d_X12_mark_41 : decode mt_X12_mark.2.1 41 = .ok (.invokevirtual 287, 3) := by decide +kernel
theorem d_X12_mark_44 : decode mt_X12_mark.2.1 44 = .ok (.aload_n 0, 1) := by decide +kernel
theorem d_X12_mark_45 : decode mt_X12_mark.2.1 45 = .ok (.getfield 516, 3) := by decide +kernel
theorem d_X12_mark_48 : decode mt_X12_mark.2.1 48 = .ok (.ireturn, 1) := by decide +kernel
noncomputable def f_X12_mark_b0 (v0 : Int) (σ : Mem) : Option (Int × Mem) :=
  (pf Sh σ 12 v0 1 0).bind fun σ1 =>
  (pf Sh σ1 12 v0 0 0).bind fun σ2 =>
  (gf Sh σ2 12 v0 23).bind fun x3 =>
  if x3 = 3 then
    (f_X12_refuse v0 7 σ2).bind fun r4 =>
    some (r4.1, r4.2)
  else
    (gf Sh σ2 12 v0 23).bind fun x6 =>
    (pf Sh σ2 12 v0 23 (w32 (x6 + 1))).bind fun σ7 =>
    (gf Sh σ7 12 v0 23).bind fun x8 =>
    (f_X12_copy v0 0 x8 σ7).bind fun r9 =>
    (gf Sh r9 12 v0 23).bind fun x11 =>
    some (x11, r9)
theorem L_X12_mark_b0 {sc : Nat × (Nat → Int32)} {o : Int × Mem} {v0 : Int} {σ : Mem} (h : f_X12_mark_b0 v0 σ = some o) : E sc (Fm Sh (some (0, o.1)) Sh o.2) mt_X12_mark 2 Sh Sh 0 [(2, v0)] [] Sh σ := by
  unfold f_X12_mark_b0 at h
  refine E_aload_n d_X12_mark_0 rfl (by decide) ?_
  refine E_iconst d_X12_mark_1 (c32 rfl) ?_
  refine E_put d_X12_mark_2 okX12 fl_X12_70 ⟨by decide, rfl⟩ (Or.inl ⟨rfl, rfl⟩) (Or.inl rfl) h (fun σ1 h => ?_)
  refine E_aload_n d_X12_mark_5 rfl (by decide) ?_
  refine E_iconst d_X12_mark_6 (c32 rfl) ?_
  refine E_put d_X12_mark_7 okX12 fl_X12_73 ⟨by decide, rfl⟩ (Or.inl ⟨rfl, rfl⟩) (Or.inl rfl) h (fun σ2 h => ?_)
  refine E_aload_n d_X12_mark_10 rfl (by decide) ?_
  refine E_get d_X12_mark_11 okX12 fl_X12_516 ⟨by decide, rfl⟩ h (fun x3 h => ?_)
  refine E_iconst d_X12_mark_14 (c32 rfl) ?_
  refine E_icmp_ne (tgt := 25) d_X12_mark_15 (by decide) h (fun _ h => ?_) (fun _ h => ?_)
  · refine E_aload_n d_X12_mark_18 rfl (by decide) ?_
    refine E_bipush d_X12_mark_19 (c8 rfl) ?_
    refine bd h (fun r4 q5 h => ?_)
    refine E_cV (as := [(0, 7)]) (st := []) (a := v0) d_X12_mark_21 mk_X12_refuse nl_X12_318 (by omega) ⟨rfl, rfl, Nat.le_of_ble_eq_true rfl⟩ okX12 rfl (L_X12_refuse q5) ?_
    cases h
    exact E_iret d_X12_mark_24 rfl
  · refine E_aload_n d_X12_mark_25 rfl (by decide) ?_
    refine E_dupT d_X12_mark_26 (by decide) ?_
    refine E_get d_X12_mark_27 okX12 fl_X12_516 ⟨by decide, rfl⟩ h (fun x6 h => ?_)
    refine E_iconst d_X12_mark_30 (c32 rfl) ?_
    refine E_iadd d_X12_mark_31 ?_
    refine E_put d_X12_mark_32 okX12 fl_X12_516 ⟨by decide, rfl⟩ (Or.inl ⟨rfl, rfl⟩) (Or.inl rfl) h (fun σ7 h => ?_)
    refine E_aload_n d_X12_mark_35 rfl (by decide) ?_
    refine E_iconst d_X12_mark_36 (c32 rfl) ?_
    refine E_aload_n d_X12_mark_37 rfl (by decide) ?_
    refine E_get d_X12_mark_38 okX12 fl_X12_516 ⟨by decide, rfl⟩ h (fun x8 h => ?_)
    refine bd h (fun r9 q10 h => ?_)
    refine E_cVv (as := [(0, 0), (0, x8)]) (st := []) (a := v0) d_X12_mark_41 mk_X12_copy nl_X12_287 (by omega) ⟨rfl, rfl, Nat.le_of_ble_eq_true rfl⟩ okX12 rfl (L_X12_copy q10) ?_
    refine E_aload_n d_X12_mark_44 rfl (by decide) ?_
    refine E_get d_X12_mark_45 okX12 fl_X12_516 ⟨by decide, rfl⟩ h (fun x11 h => ?_)
    cases h
    exact E_iret d_X12_mark_48 rfl
noncomputable def f_X12_mark (v0 : Int) (σ : Mem) : Option (Int × Mem) := if isO Sh 12 v0 = true then f_X12_mark_b0 v0 σ else none
theorem L_X12_mark {o : Int × Mem} {v0 : Int} {σ : Mem} (h : f_X12_mark v0 σ = some o) : (isO Sh 12 v0 = true ∧ Cn mt_X12_mark 2 [(2, v0)] Sh σ (some (0, o.1)) Sh o.2) := ⟨(ite_ok h).1, Cn_of mk_X12_mark.1.2.2.1 (Nat.le_of_ble_eq_true rfl) (fun sc => L_X12_mark_b0 (ite_ok h).2)⟩
theorem d_X12_back_0 : decode mt_X12_back.2.1 0 = .ok (.aload_n 0, 1) := by decide +kernel
theorem d_X12_back_1 : decode mt_X12_back.2.1 1 = .ok (.iconst 0, 1) := by decide +kernel
theorem d_X12_back_2 : decode mt_X12_back.2.1 2 = .ok (.putfield 70, 3) := by decide +kernel
theorem d_X12_back_5 : decode mt_X12_back.2.1 5 = .ok (.aload_n 0, 1) := by decide +kernel
theorem d_X12_back_6 : decode mt_X12_back.2.1 6 = .ok (.iconst 0, 1) := by decide +kernel
theorem d_X12_back_7 : decode mt_X12_back.2.1 7 = .ok (.putfield 73, 3) := by decide +kernel
theorem d_X12_back_10 : decode mt_X12_back.2.1 10 = .ok (.aload_n 0, 1) := by decide +kernel
theorem d_X12_back_11 : decode mt_X12_back.2.1 11 = .ok (.getfield 516, 3) := by decide +kernel
theorem d_X12_back_14 : decode mt_X12_back.2.1 14 = .ok (.ifCond .ne 10, 3) := by decide +kernel
theorem d_X12_back_17 : decode mt_X12_back.2.1 17 = .ok (.aload_n 0, 1) := by decide +kernel
theorem d_X12_back_18 : decode mt_X12_back.2.1 18 = .ok (.bipush 8, 2) := by decide +kernel
theorem d_X12_back_20 : decode mt_X12_back.2.1 20 = .ok (.invokevirtual 318, 3) := by decide +kernel
theorem d_X12_back_23 : decode mt_X12_back.2.1 23 = .ok (.ireturn, 1) := by decide +kernel
theorem d_X12_back_24 : decode mt_X12_back.2.1 24 = .ok (.aload_n 0, 1) := by decide +kernel
theorem d_X12_back_25 : decode mt_X12_back.2.1 25 = .ok (.aload_n 0, 1) := by decide +kernel
theorem d_X12_back_26 : decode mt_X12_back.2.1 26 = .ok (.getfield 516, 3) := by decide +kernel
theorem d_X12_back_29 : decode mt_X12_back.2.1 29 = .ok (.iconst 0, 1) := by decide +kernel
theorem d_X12_back_30 : decode mt_X12_back.2.1 30 = .ok (.invokevirtual 287, 3) := by decide +kernel
theorem d_X12_back_33 : decode mt_X12_back.2.1 33 = .ok (.aload_n 0, 1) := by decide +kernel
theorem d_X12_back_34 : decode mt_X12_back.2.1 34 = .ok (.dup, 1) := by decide +kernel
theorem d_X12_back_35 : decode mt_X12_back.2.1 35 = .ok (.getfield 516, 3) := by decide +kernel
theorem d_X12_back_38 : decode mt_X12_back.2.1 38 = .ok (.iconst 1, 1) := by decide +kernel
theorem d_X12_back_39 : decode mt_X12_back.2.1 39 = .ok (.isub, 1) := by decide +kernel
theorem d_X12_back_40 : decode mt_X12_back.2.1 40 = .ok (.putfield 516, 3) := by decide +kernel
theorem d_X12_back_43 : decode mt_X12_back.2.1 43 = .ok (.aload_n 0, 1) := by decide +kernel
theorem d_X12_back_44 : decode mt_X12_back.2.1 44 = .ok (.getfield 516, 3) := by decide +kernel
theorem d_X12_back_47 : decode mt_X12_back.2.1 47 = .ok (.ireturn, 1) := by decide +kernel
noncomputable def f_X12_back_b0 (v0 : Int) (σ : Mem) : Option (Int × Mem) :=
  (pf Sh σ 12 v0 1 0).bind fun σ1 =>
  (pf Sh σ1 12 v0 0 0).bind fun σ2 =>
  (gf Sh σ2 12 v0 23).bind fun x3 =>
  if x3 = 0 then
    (f_X12_refuse v0 8 σ2).bind fun r4 =>
    some (r4.1, r4.2)
  else
    (gf Sh σ2 12 v0 23).bind fun x6 =>
    (f_X12_copy v0 x6 0 σ2).bind fun r7 =>
    (gf Sh r7 12 v0 23).bind fun x9 =>
    (pf Sh r7 12 v0 23 (w32 (x9 - 1))).bind fun σ10 =>
    (gf Sh σ10 12 v0 23).bind fun x11 =>
    some (x11, σ10)
theorem L_X12_back_b0 {sc : Nat × (Nat → Int32)} {o : Int × Mem} {v0 : Int} {σ : Mem} (h : f_X12_back_b0 v0 σ = some o) : E sc (Fm Sh (some (0, o.1)) Sh o.2) mt_X12_back 2 Sh Sh 0 [(2, v0)] [] Sh σ := by
  unfold f_X12_back_b0 at h
  refine E_aload_n d_X12_back_0 rfl (by decide) ?_
  refine E_iconst d_X12_back_1 (c32 rfl) ?_
  refine E_put d_X12_back_2 okX12 fl_X12_70 ⟨by decide, rfl⟩ (Or.inl ⟨rfl, rfl⟩) (Or.inl rfl) h (fun σ1 h => ?_)
  refine E_aload_n d_X12_back_5 rfl (by decide) ?_
  refine E_iconst d_X12_back_6 (c32 rfl) ?_
  refine E_put d_X12_back_7 okX12 fl_X12_73 ⟨by decide, rfl⟩ (Or.inl ⟨rfl, rfl⟩) (Or.inl rfl) h (fun σ2 h => ?_)
  refine E_aload_n d_X12_back_10 rfl (by decide) ?_
  refine E_get d_X12_back_11 okX12 fl_X12_516 ⟨by decide, rfl⟩ h (fun x3 h => ?_)
  refine E_if_ne (tgt := 24) d_X12_back_14 (by decide) h (fun _ h => ?_) (fun _ h => ?_)
  · refine E_aload_n d_X12_back_17 rfl (by decide) ?_
    refine E_bipush d_X12_back_18 (c8 rfl) ?_
    refine bd h (fun r4 q5 h => ?_)
    refine E_cV (as := [(0, 8)]) (st := []) (a := v0) d_X12_back_20 mk_X12_refuse nl_X12_318 (by omega) ⟨rfl, rfl, Nat.le_of_ble_eq_true rfl⟩ okX12 rfl (L_X12_refuse q5) ?_
    cases h
    exact E_iret d_X12_back_23 rfl
  · refine E_aload_n d_X12_back_24 rfl (by decide) ?_
    refine E_aload_n d_X12_back_25 rfl (by decide) ?_
    refine E_get d_X12_back_26 okX12 fl_X12_516 ⟨by decide, rfl⟩ h (fun x6 h => ?_)
    refine E_iconst d_X12_back_29 (c32 rfl) ?_
    refine bd h (fun r7 q8 h => ?_)
    refine E_cVv (as := [(0, x6), (0, 0)]) (st := []) (a := v0) d_X12_back_30 mk_X12_copy nl_X12_287 (by omega) ⟨rfl, rfl, Nat.le_of_ble_eq_true rfl⟩ okX12 rfl (L_X12_copy q8) ?_
    refine E_aload_n d_X12_back_33 rfl (by decide) ?_
    refine E_dupT d_X12_back_34 (by decide) ?_
    refine E_get d_X12_back_35 okX12 fl_X12_516 ⟨by decide, rfl⟩ h (fun x9 h => ?_)
    refine E_iconst d_X12_back_38 (c32 rfl) ?_
    refine E_isub d_X12_back_39 ?_
    refine E_put d_X12_back_40 okX12 fl_X12_516 ⟨by decide, rfl⟩ (Or.inl ⟨rfl, rfl⟩) (Or.inl rfl) h (fun σ10 h => ?_)
    refine E_aload_n d_X12_back_43 rfl (by decide) ?_
    refine E_get d_X12_back_44 okX12 fl_X12_516 ⟨by decide, rfl⟩ h (fun x11 h => ?_)
    cases h
    exact E_iret d_X12_back_47 rfl
noncomputable def f_X12_back (v0 : Int) (σ : Mem) : Option (Int × Mem) := if isO Sh 12 v0 = true then f_X12_back_b0 v0 σ else none
theorem L_X12_back {o : Int × Mem} {v0 : Int} {σ : Mem} (h : f_X12_back v0 σ = some o) : (isO Sh 12 v0 = true ∧ Cn mt_X12_back 2 [(2, v0)] Sh σ (some (0, o.1)) Sh o.2) := ⟨(ite_ok h).1, Cn_of mk_X12_back.1.2.2.1 (Nat.le_of_ble_eq_true rfl) (fun sc => L_X12_back_b0 (ite_ok h).2)⟩
