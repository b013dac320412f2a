theorem d_X12_isOn_0 : decode mt_X12_isOn.2.1 0 = .ok (.aload_n 0, 1) := by decide +kernel
theorem d_X12_isOn_1 : decode mt_X12_isOn.2.1 1 = .ok (.bipush 111, 2) := by decide +kernel
theorem d_X12_isOn_3 : decode mt_X12_isOn.2.1 3 = .ok (.bipush 110, 2) := by decide +kernel
theorem d_X12_isOn_5 : decode mt_X12_isOn.2.1 5 = .ok (.iconst 0, 1) := by decide +kernel
theorem d_X12_isOn_6 : decode mt_X12_isOn.2.1 6 = .ok (.iconst 0, 1) := by decide +kernel
theorem d_X12_isOn_7 : decode mt_X12_isOn.2.1 7 = .ok (.iconst 0, 1) := by decide +kernel
theorem d_X12_isOn_8 : decode mt_X12_isOn.2.1 8 = .ok (.iconst 0, 1) := by decide +kernel
theorem d_X12_isOn_9 : decode mt_X12_isOn.2.1 9 = .ok (.invokestatic 149, 3) := by decide +kernel
theorem d_X12_isOn_12 : decode mt_X12_isOn.2.1 12 = .ok (.invokevirtual 153, 3) := by decide +kernel
theorem d_X12_isOn_15 : decode mt_X12_isOn.2.1 15 = .ok (.ireturn, 1) := by decide +kernel
noncomputable def f_X12_isOn_b0 (v0 : Int) (σ : Mem) : Option (Int) :=
  (f_X12_spelled 111 110 0 0 0 0 σ).bind fun r1 =>
  (f_X12_isWord v0 r1 σ).bind fun r3 =>
  (bz r3).bind fun _ =>
  some (r3)
theorem L_X12_isOn_b0 {sc : Nat × (Nat → Int32)} {o : Int} {σ : Mem} {v0 : Int} (h : f_X12_isOn_b0 v0 σ = some o) : E sc (Fm Sh (some (0, o)) Sh σ) mt_X12_isOn 2 Sh Sh 0 [(2, v0)] [] Sh σ := by
  unfold f_X12_isOn_b0 at h
  refine E_aload_n d_X12_isOn_0 rfl (by decide) ?_
  refine E_bipush d_X12_isOn_1 (c8 rfl) ?_
  refine E_bipush d_X12_isOn_3 (c8 rfl) ?_
  refine E_iconst d_X12_isOn_5 (c32 rfl) ?_
  refine E_iconst d_X12_isOn_6 (c32 rfl) ?_
  refine E_iconst d_X12_isOn_7 (c32 rfl) ?_
  refine E_iconst d_X12_isOn_8 (c32 rfl) ?_
  refine bd h (fun r1 q2 h => ?_)
  refine E_cS (as := [(0, 111), (0, 110), (0, 0), (0, 0), (0, 0), (0, 0)]) (st := [(2, v0)]) d_X12_isOn_9 mk_X12_spelled nl_X12_149 (by omega) ⟨rfl, rfl, Nat.le_of_ble_eq_true rfl⟩ (L_X12_spelled q2) ?_
  refine bd h (fun r3 q4 h => ?_)
  refine E_cV (as := [(1, r1)]) (st := []) (a := v0) d_X12_isOn_12 mk_X12_isWord nl_X12_153 (by omega) ⟨rfl, rfl, Nat.le_of_ble_eq_true rfl⟩ okX12 rfl (L_X12_isWord q4) ?_
  refine bd_bz h (fun q5 h => ?_)
  cases h
  exact E_zret d_X12_isOn_15 rfl q5
noncomputable def f_X12_isOn (v0 : Int) (σ : Mem) : Option (Int) := if isO Sh 12 v0 = true then f_X12_isOn_b0 v0 σ else none
theorem L_X12_isOn {o : Int} {v0 : Int} {σ : Mem} (h : f_X12_isOn v0 σ = some o) : (isO Sh 12 v0 = true ∧ Cn mt_X12_isOn 2 [(2, v0)] Sh σ (some (0, o)) Sh σ) := ⟨(ite_ok h).1, Cn_of mk_X12_isOn.1.2.2.1 (Nat.le_of_ble_eq_true rfl) (fun sc => L_X12_isOn_b0 (ite_ok h).2)⟩
theorem d_X12_sideWord_0 : decode mt_X12_sideWord.2.1 0 = .ok (.aload_n 0, 1) := by decide +kernel
theorem d_X12_sideWord_1 : decode mt_X12_sideWord.2.1 1 = .ok (.bipush 102, 2) := by decide +kernel
theorem d_X12_sideWord_3 : decode mt_X12_sideWord.2.1 3 = .ok (.bipush 111, 2) := by decide +kernel
theorem d_X12_sideWord_5 : decode mt_X12_sideWord.2.1 5 = .ok (.bipush 114, 2) := by decide +kernel
theorem d_X12_sideWord_7 : decode mt_X12_sideWord.2.1 7 = .ok (.iconst 0, 1) := by decide +kernel
theorem d_X12_sideWord_8 : decode mt_X12_sideWord.2.1 8 = .ok (.iconst 0, 1) := by decide +kernel
theorem d_X12_sideWord_9 : decode mt_X12_sideWord.2.1 9 = .ok (.iconst 0, 1) := by decide +kernel
theorem d_X12_sideWord_10 : decode mt_X12_sideWord.2.1 10 = .ok (.invokestatic 149, 3) := by decide +kernel
theorem d_X12_sideWord_13 : decode mt_X12_sideWord.2.1 13 = .ok (.invokevirtual 153, 3) := by decide +kernel
theorem d_X12_sideWord_16 : decode mt_X12_sideWord.2.1 16 = .ok (.ifCond .eq 5, 3) := by decide +kernel
theorem d_X12_sideWord_19 : decode mt_X12_sideWord.2.1 19 = .ok (.iconst 1, 1) := by decide +kernel
theorem d_X12_sideWord_20 : decode mt_X12_sideWord.2.1 20 = .ok (.ireturn, 1) := by decide +kernel
theorem d_X12_sideWord_21 : decode mt_X12_sideWord.2.1 21 = .ok (.aload_n 0, 1) := by decide +kernel
theorem d_X12_sideWord_22 : decode mt_X12_sideWord.2.1 22 = .ok (.bipush 97, 2) := by decide +kernel
theorem d_X12_sideWord_24 : decode mt_X12_sideWord.2.1 24 = .ok (.bipush 103, 2) := by decide +kernel
theorem d_X12_sideWord_26 : decode mt_X12_sideWord.2.1 26 = .ok (.bipush 97, 2) := by decide +kernel
theorem d_X12_sideWord_28 : decode mt_X12_sideWord.2.1 28 = .ok (.bipush 105, 2) := by decide +kernel
theorem d_X12_sideWord_30 : decode mt_X12_sideWord.2.1 30 = .ok (.bipush 110, 2) := by decide +kernel
theorem d_X12_sideWord_32 : decode mt_X12_sideWord.2.1 32 = .ok (.bipush 115, 2) := by decide +kernel
theorem d_X12_sideWord_34 : decode mt_X12_sideWord.2.1 34 = .ok (.invokestatic 149, 3) := by decide +kernel
theorem d_X12_sideWord_37 : decode mt_X12_sideWord.2.1 37 = .ok (.ldc2_w 133, 3) := by decide +kernel
theorem d_X12_sideWord_40 : decode mt_X12_sideWord.2.1 40 = .ok (.lmul, 1) := by decide +kernel
theorem d_X12_sideWord_41 : decode mt_X12_sideWord.2.1 41 = .ok (.ldc2_w 157, 3) := by decide +kernel
theorem d_X12_sideWord_44 : decode mt_X12_sideWord.2.1 44 = .ok (.ladd, 1) := by decide +kernel
theorem d_X12_sideWord_45 : decode mt_X12_sideWord.2.1 45 = .ok (.ldc2_w 135, 3) := by decide +kernel
theorem d_X12_sideWord_48 : decode mt_X12_sideWord.2.1 48 = .ok (.lsub, 1) := by decide +kernel
theorem d_X12_sideWord_49 : decode mt_X12_sideWord.2.1 49 = .ok (.invokevirtual 153, 3) := by decide +kernel
theorem d_X12_sideWord_52 : decode mt_X12_sideWord.2.1 52 = .ok (.ifCond .eq 7, 3) := by decide +kernel
theorem d_X12_sideWord_55 : decode mt_X12_sideWord.2.1 55 = .ok (.iconst 0, 1) := by decide +kernel
theorem d_X12_sideWord_56 : decode mt_X12_sideWord.2.1 56 = .ok (.goto 4, 3) := by decide +kernel
theorem d_X12_sideWord_59 : decode mt_X12_sideWord.2.1 59 = .ok (.iconst (-1), 1) := by decide +kernel
theorem d_X12_sideWord_60 : decode mt_X12_sideWord.2.1 60 = .ok (.ireturn, 1) := by decide +kernel
noncomputable def f_X12_sideWord_b0 (v0 : Int) (σ : Mem) : Option (Int) :=
  (f_X12_spelled 102 111 114 0 0 0 σ).bind fun r1 =>
  (f_X12_isWord v0 r1 σ).bind fun r3 =>
  if r3 = 0 then
    (f_X12_spelled 97 103 97 105 110 115 σ).bind fun r5 =>
    (f_X12_isWord v0 (w64 (w64 (w64 (r5 * 32) + 116) - 96)) σ).bind fun r7 =>
    if r7 = 0 then
      some ((-1))
    else
      some (0)
  else
    some (1)
theorem L_X12_sideWord_b0 {sc : Nat × (Nat → Int32)} {o : Int} {σ : Mem} {v0 : Int} (h : f_X12_sideWord_b0 v0 σ = some o) : E sc (Fm Sh (some (0, o)) Sh σ) mt_X12_sideWord 2 Sh Sh 0 [(2, v0)] [] Sh σ := by
  unfold f_X12_sideWord_b0 at h
  refine E_aload_n d_X12_sideWord_0 rfl (by decide) ?_
  refine E_bipush d_X12_sideWord_1 (c8 rfl) ?_
  refine E_bipush d_X12_sideWord_3 (c8 rfl) ?_
  refine E_bipush d_X12_sideWord_5 (c8 rfl) ?_
  refine E_iconst d_X12_sideWord_7 (c32 rfl) ?_
  refine E_iconst d_X12_sideWord_8 (c32 rfl) ?_
  refine E_iconst d_X12_sideWord_9 (c32 rfl) ?_
  refine bd h (fun r1 q2 h => ?_)
  refine E_cS (as := [(0, 102), (0, 111), (0, 114), (0, 0), (0, 0), (0, 0)]) (st := [(2, v0)]) d_X12_sideWord_10 mk_X12_spelled nl_X12_149 (by omega) ⟨rfl, rfl, Nat.le_of_ble_eq_true rfl⟩ (L_X12_spelled q2) ?_
  refine bd h (fun r3 q4 h => ?_)
  refine E_cV (as := [(1, r1)]) (st := []) (a := v0) d_X12_sideWord_13 mk_X12_isWord nl_X12_153 (by omega) ⟨rfl, rfl, Nat.le_of_ble_eq_true rfl⟩ okX12 rfl (L_X12_isWord q4) ?_
  refine E_if_eq (tgt := 21) d_X12_sideWord_16 (by decide) h (fun _ h => ?_) (fun _ h => ?_)
  · refine E_aload_n d_X12_sideWord_21 rfl (by decide) ?_
    refine E_bipush d_X12_sideWord_22 (c8 rfl) ?_
    refine E_bipush d_X12_sideWord_24 (c8 rfl) ?_
    refine E_bipush d_X12_sideWord_26 (c8 rfl) ?_
    refine E_bipush d_X12_sideWord_28 (c8 rfl) ?_
    refine E_bipush d_X12_sideWord_30 (c8 rfl) ?_
    refine E_bipush d_X12_sideWord_32 (c8 rfl) ?_
    refine bd h (fun r5 q6 h => ?_)
    refine E_cS (as := [(0, 97), (0, 103), (0, 97), (0, 105), (0, 110), (0, 115)]) (st := [(2, v0)]) d_X12_sideWord_34 mk_X12_spelled nl_X12_149 (by omega) ⟨rfl, rfl, Nat.le_of_ble_eq_true rfl⟩ (L_X12_spelled q6) ?_
    refine E_ldc2 d_X12_sideWord_37 kw_X12_133 ?_
    refine E_lmul d_X12_sideWord_40 ?_
    refine E_ldc2 d_X12_sideWord_41 kw_X12_157 ?_
    refine E_ladd d_X12_sideWord_44 ?_
    refine E_ldc2 d_X12_sideWord_45 kw_X12_135 ?_
    refine E_lsub d_X12_sideWord_48 ?_
    refine bd h (fun r7 q8 h => ?_)
    refine E_cV (as := [(1, w64 (w64 (w64 (r5 * 32) + 116) - 96))]) (st := []) (a := v0) d_X12_sideWord_49 mk_X12_isWord nl_X12_153 (by omega) ⟨rfl, rfl, Nat.le_of_ble_eq_true rfl⟩ okX12 rfl (L_X12_isWord q8) ?_
    refine E_if_eq (tgt := 59) d_X12_sideWord_52 (by decide) h (fun _ h => ?_) (fun _ h => ?_)
    · refine E_iconst d_X12_sideWord_59 (c32 rfl) ?_
      cases h
      exact E_iret d_X12_sideWord_60 rfl
    · refine E_iconst d_X12_sideWord_55 (c32 rfl) ?_
      refine E_goto (tgt := 60) d_X12_sideWord_56 (by decide) ?_
      cases h
      exact E_iret d_X12_sideWord_60 rfl
  · refine E_iconst d_X12_sideWord_19 (c32 rfl) ?_
    cases h
    exact E_iret d_X12_sideWord_20 rfl
noncomputable def f_X12_sideWord (v0 : Int) (σ : Mem) : Option (Int) := if isO Sh 12 v0 = true then f_X12_sideWord_b0 v0 σ else none
theorem L_X12_sideWord {o : Int} {v0 : Int} {σ : Mem} (h : f_X12_sideWord v0 σ = some o) : (isO Sh 12 v0 = true ∧ Cn mt_X12_sideWord 2 [(2, v0)] Sh σ (some (0, o)) Sh σ) := ⟨(ite_ok h).1, Cn_of mk_X12_sideWord.1.2.2.1 (Nat.le_of_ble_eq_true rfl) (fun sc => L_X12_sideWord_b0 (ite_ok h).2)⟩
theorem d_X12_stepWord_0 : decode mt_X12_stepWord.2.1 0 = .ok (.aload_n 0, 1) := by decide +kernel
theorem d_X12_stepWord_1 : decode mt_X12_stepWord.2.1 1 = .ok (.bipush 121, 2) := by decide +kernel
theorem d_X12_stepWord_3 : decode mt_X12_stepWord.2.1 3 = .ok (.bipush 101, 2) := by decide +kernel
theorem d_X12_stepWord_5 : decode mt_X12_stepWord.2.1 5 = .ok (.bipush 97, 2) := by decide +kernel
theorem d_X12_stepWord_7 : decode mt_X12_stepWord.2.1 7 = .ok (.bipush 114, 2) := by decide +kernel
theorem d_X12_stepWord_9 : decode mt_X12_stepWord.2.1 9 = .ok (.iconst 0, 1) := by decide +kernel
theorem d_X12_stepWord_10 : decode mt_X12_stepWord.2.1 10 = .ok (.iconst 0, 1) := by decide +kernel
theorem d_X12_stepWord_11 : decode mt_X12_stepWord.2.1 11 = .ok (.invokestatic 149, 3) := by decide +kernel
theorem d_X12_stepWord_14 : decode mt_X12_stepWord.2.1 14 = .ok (.invokevirtual 153, 3) := by decide +kernel
theorem d_X12_stepWord_17 : decode mt_X12_stepWord.2.1 17 = .ok (.ifCond .eq 5, 3) := by decide +kernel
theorem d_X12_stepWord_20 : decode mt_X12_stepWord.2.1 20 = .ok (.iconst 0, 1) := by decide +kernel
theorem d_X12_stepWord_21 : decode mt_X12_stepWord.2.1 21 = .ok (.ireturn, 1) := by decide +kernel
theorem d_X12_stepWord_22 : decode mt_X12_stepWord.2.1 22 = .ok (.aload_n 0, 1) := by decide +kernel
theorem d_X12_stepWord_23 : decode mt_X12_stepWord.2.1 23 = .ok (.bipush 116, 2) := by decide +kernel
theorem d_X12_stepWord_25 : decode mt_X12_stepWord.2.1 25 = .ok (.bipush 114, 2) := by decide +kernel
theorem d_X12_stepWord_27 : decode mt_X12_stepWord.2.1 27 = .ok (.bipush 121, 2) := by decide +kernel
theorem d_X12_stepWord_29 : decode mt_X12_stepWord.2.1 29 = .ok (.iconst 0, 1) := by decide +kernel
theorem d_X12_stepWord_30 : decode mt_X12_stepWord.2.1 30 = .ok (.iconst 0, 1) := by decide +kernel
theorem d_X12_stepWord_31 : decode mt_X12_stepWord.2.1 31 = .ok (.iconst 0, 1) := by decide +kernel
theorem d_X12_stepWord_32 : decode mt_X12_stepWord.2.1 32 = .ok (.invokestatic 149, 3) := by decide +kernel
theorem d_X12_stepWord_35 : decode mt_X12_stepWord.2.1 35 = .ok (.invokevirtual 153, 3) := by decide +kernel
theorem d_X12_stepWord_38 : decode mt_X12_stepWord.2.1 38 = .ok (.ifCond .eq 5, 3) := by decide +kernel
theorem d_X12_stepWord_41 : decode mt_X12_stepWord.2.1 41 = .ok (.iconst 1, 1) := by decide +kernel
theorem d_X12_stepWord_42 : decode mt_X12_stepWord.2.1 42 = .ok (.ireturn, 1) := by decide +kernel
theorem d_X12_stepWord_43 : decode mt_X12_stepWord.2.1 43 = .ok (.aload_n 0, 1) := by decide +kernel
theorem d_X12_stepWord_44 : decode mt_X12_stepWord.2.1 44 = .ok (.bipush 107, 2) := by decide +kernel
theorem d_X12_stepWord_46 : decode mt_X12_stepWord.2.1 46 = .ok (.bipush 105, 2) := by decide +kernel
theorem d_X12_stepWord_48 : decode mt_X12_stepWord.2.1 48 = .ok (.bipush 110, 2) := by decide +kernel
theorem d_X12_stepWord_50 : decode mt_X12_stepWord.2.1 50 = .ok (.bipush 100, 2) := by decide +kernel
theorem d_X12_stepWord_52 : decode mt_X12_stepWord.2.1 52 = .ok (.iconst 0, 1) := by decide +kernel
theorem d_X12_stepWord_53 : decode mt_X12_stepWord.2.1 53 = .ok (.iconst 0, 1) := by decide +kernel
theorem d_X12_stepWord_54 : decode mt_X12_stepWord.2.1 54 = .ok (.invokestatic 149, 3) := by decide +kernel
theorem d_X12_stepWord_57 : decode mt_X12_stepWord.2.1 57 = .ok (.invokevirtual 153, 3) := by decide +kernel
theorem d_X12_stepWord_60 : decode mt_X12_stepWord.2.1 60 = .ok (.ifCond .eq 5, 3) := by decide +kernel
theorem d_X12_stepWord_63 : decode mt_X12_stepWord.2.1 63 = .ok (.iconst 2, 1) := by decide +kernel
theorem d_X12_stepWord_64 : decode mt_X12_stepWord.2.1 64 = .ok (.ireturn, 1) := by decide +kernel
theorem d_X12_stepWord_65 : decode mt_X12_stepWord.2.1 65 = .ok (.aload_n 0, 1) := by decide +kernel
theorem d_X12_stepWord_66 : decode mt_X12_stepWord.2.1 66 = .ok (.bipush 104, 2) := by decide +kernel
theorem d_X12_stepWord_68 : decode mt_X12_stepWord.2.1 68 = .ok (.bipush 97, 2) := by decide +kernel
theorem d_X12_stepWord_70 : decode mt_X12_stepWord.2.1 70 = .ok (.bipush 114, 2) := by decide +kernel
theorem d_X12_stepWord_72 : decode mt_X12_stepWord.2.1 72 = .ok (.bipush 115, 2) := by decide +kernel
theorem d_X12_stepWord_74 : decode mt_X12_stepWord.2.1 74 = .ok (.bipush 104, 2) := by decide +kernel
theorem d_X12_stepWord_76 : decode mt_X12_stepWord.2.1 76 = .ok (.iconst 0, 1) := by decide +kernel
theorem d_X12_stepWord_77 : decode mt_X12_stepWord.2.1 77 = .ok (.invokestatic 149, 3) := by decide +kernel
theorem d_X12_stepWord_80 : decode mt_X12_stepWord.2.1 80 = .ok (.invokevirtual 153, 3) := by decide +kernel
theorem d_X12_stepWord_83 : decode mt_X12_stepWord.2.1 83 = .ok (.ifCond .eq 5, 3) := by decide +kernel
theorem d_X12_stepWord_86 : decode mt_X12_stepWord.2.1 86 = .ok (.iconst 3, 1) := by decide +kernel
theorem d_X12_stepWord_87 : decode mt_X12_stepWord.2.1 87 = .ok (.ireturn, 1) := by decide +kernel
theorem d_X12_stepWord_88 : decode mt_X12_stepWord.2.1 88 = .ok (.aload_n 0, 1) := by decide +kernel
theorem d_X12_stepWord_89 : decode mt_X12_stepWord.2.1 89 = .ok (.bipush 99, 2) := by decide +kernel
theorem d_X12_stepWord_91 : decode mt_X12_stepWord.2.1 91 = .ok (.bipush 108, 2) := by decide +kernel
theorem d_X12_stepWord_93 : decode mt_X12_stepWord.2.1 93 = .ok (.bipush 101, 2) := by decide +kernel
theorem d_X12_stepWord_95 : decode mt_X12_stepWord.2.1 95 = .ok (.bipush 97, 2) := by decide +kernel
theorem d_X12_stepWord_97 : decode mt_X12_stepWord.2.1 97 = .ok (.bipush 114, 2) := by decide +kernel
theorem d_X12_stepWord_99 : decode mt_X12_stepWord.2.1 99 = .ok (.iconst 0, 1) := by decide +kernel
theorem d_X12_stepWord_100 : decode mt_X12_stepWord.2.1 100 = .ok (.invokestatic 149, 3) := by decide +kernel
theorem d_X12_stepWord_103 : decode mt_X12_stepWord.2.1 103 = .ok (.invokevirtual 153, 3) := by decide +kernel
theorem d_X12_stepWord_106 : decode mt_X12_stepWord.2.1 106 = .ok (.ifCond .eq 5, 3) := by decide +kernel
theorem d_X12_stepWord_109 : decode mt_X12_stepWord.2.1 109 = .ok (.iconst 4, 1) := by decide +kernel
theorem d_X12_stepWord_110 : decode mt_X12_stepWord.2.1 110 = .ok (.ireturn, 1) := by decide +kernel
theorem d_X12_stepWord_111 : decode mt_X12_stepWord.2.1 111 = .ok (.aload_n 0, 1) := by decide +kernel
theorem d_X12_stepWord_112 : decode mt_X12_stepWord.2.1 112 = .ok (.bipush 102, 2) := by decide +kernel
theorem d_X12_stepWord_114 : decode mt_X12_stepWord.2.1 114 = .ok (.bipush 108, 2) := by decide +kernel
theorem d_X12_stepWord_116 : decode mt_X12_stepWord.2.1 116 = .ok (.bipush 121, 2) := by decide +kernel
theorem d_X12_stepWord_118 : decode mt_X12_stepWord.2.1 118 = .ok (.iconst 0, 1) := by decide +kernel
theorem d_X12_stepWord_119 : decode mt_X12_stepWord.2.1 119 = .ok (.iconst 0, 1) := by decide +kernel
theorem d_X12_stepWord_120 : decode mt_X12_stepWord.2.1 120 = .ok (.iconst 0, 1) := by decide +kernel
theorem d_X12_stepWord_121 : decode mt_X12_stepWord.2.1 121 = .ok (.invokestatic 149, 3) := by decide +kernel
theorem d_X12_stepWord_124 : decode mt_X12_stepWord.2.1 124 = .ok (.invokevirtual 153, 3) := by decide +kernel
theorem d_X12_stepWord_127 : decode mt_X12_stepWord.2.1 127 = .ok (.ifCond .eq 5, 3) := by decide +kernel
theorem d_X12_stepWord_130 : decode mt_X12_stepWord.2.1 130 = .ok (.iconst 5, 1) := by decide +kernel
theorem d_X12_stepWord_131 : decode mt_X12_stepWord.2.1 131 = .ok (.ireturn, 1) := by decide +kernel
theorem d_X12_stepWord_132 : decode mt_X12_stepWord.2.1 132 = .ok (.aload_n 0, 1) := by decide +kernel
theorem d_X12_stepWord_133 : decode mt_X12_stepWord.2.1 133 = .ok (.bipush 97, 2) := by decide +kernel
theorem d_X12_stepWord_135 : decode mt_X12_stepWord.2.1 135 = .ok (.bipush 110, 2) := by decide +kernel
theorem d_X12_stepWord_137 : decode mt_X12_stepWord.2.1 137 = .ok (.bipush 121, 2) := by decide +kernel
theorem d_X12_stepWord_139 : decode mt_X12_stepWord.2.1 139 = .ok (.iconst 0, 1) := by decide +kernel
theorem d_X12_stepWord_140 : decode mt_X12_stepWord.2.1 140 = .ok (.iconst 0, 1) := by decide +kernel
theorem d_X12_stepWord_141 : decode mt_X12_stepWord.2.1 141 = .ok (.iconst 0, 1) := by decide +kernel
theorem d_X12_stepWord_142 : decode mt_X12_stepWord.2.1 142 = .ok (.invokestatic 149, 3) := by decide +kernel
theorem d_X12_stepWord_145 : decode mt_X12_stepWord.2.1 145 = .ok (.invokevirtual 153, 3) := by decide +kernel
theorem d_X12_stepWord_148 : decode mt_X12_stepWord.2.1 148 = .ok (.ifCond .eq 6, 3) := by decide +kernel
theorem d_X12_stepWord_151 : decode mt_X12_stepWord.2.1 151 = .ok (.bipush 6, 2) := by decide +kernel
theorem d_X12_stepWord_153 : decode mt_X12_stepWord.2.1 153 = .ok (.ireturn, 1) := by decide +kernel
theorem d_X12_stepWord_154 : decode mt_X12_stepWord.2.1 154 = .ok (.aload_n 0, 1) := by decide +kernel
theorem d_X12_stepWord_155 : decode mt_X12_stepWord.2.1 155 = .ok (.bipush 119, 2) := by decide +kernel
theorem d_X12_stepWord_157 : decode mt_X12_stepWord.2.1 157 = .ok (.bipush 104, 2) := by decide +kernel
theorem d_X12_stepWord_159 : decode mt_X12_stepWord.2.1 159 = .ok (.bipush 101, 2) := by decide +kernel
theorem d_X12_stepWord_161 : decode mt_X12_stepWord.2.1 161 = .ok (.bipush 110, 2) := by decide +kernel
theorem d_X12_stepWord_163 : decode mt_X12_stepWord.2.1 163 = .ok (.iconst 0, 1) := by decide +kernel
theorem d_X12_stepWord_164 : decode mt_X12_stepWord.2.1 164 = .ok (.iconst 0, 1) := by decide +kernel
theorem d_X12_stepWord_165 : decode mt_X12_stepWord.2.1 165 = .ok (.invokestatic 149, 3) := by decide +kernel
theorem d_X12_stepWord_168 : decode mt_X12_stepWord.2.1 168 = .ok (.invokevirtual 153, 3) := by decide +kernel
theorem d_X12_stepWord_171 : decode mt_X12_stepWord.2.1 171 = .ok (.ifCond .eq 6, 3) := by decide +kernel
theorem d_X12_stepWord_174 : decode mt_X12_stepWord.2.1 174 = .ok (.bipush 7, 2) := by decide +kernel
theorem d_X12_stepWord_176 : decode mt_X12_stepWord.2.1 176 = .ok (.ireturn, 1) := by decide +kernel
theorem d_X12_stepWord_177 : decode mt_X12_stepWord.2.1 177 = .ok (.aload_n 0, 1) := by decide +kernel
theorem d_X12_stepWord_178 : decode mt_X12_stepWord.2.1 178 = .ok (.bipush 108, 2) := by decide +kernel
theorem d_X12_stepWord_180 : decode mt_X12_stepWord.2.1 180 = .ok (.bipush 111, 2) := by decide +kernel
theorem d_X12_stepWord_182 : decode mt_X12_stepWord.2.1 182 = .ok (.bipush 111, 2) := by decide +kernel
theorem d_X12_stepWord_184 : decode mt_X12_stepWord.2.1 184 = .ok (.bipush 112, 2) := by decide +kernel
theorem d_X12_stepWord_186 : decode mt_X12_stepWord.2.1 186 = .ok (.iconst 0, 1) := by decide +kernel
theorem d_X12_stepWord_187 : decode mt_X12_stepWord.2.1 187 = .ok (.iconst 0, 1) := by decide +kernel
theorem d_X12_stepWord_188 : decode mt_X12_stepWord.2.1 188 = .ok (.invokestatic 149, 3) := by decide +kernel
theorem d_X12_stepWord_191 : decode mt_X12_stepWord.2.1 191 = .ok (.invokevirtual 153, 3) := by decide +kernel
theorem d_X12_stepWord_194 : decode mt_X12_stepWord.2.1 194 = .ok (.ifCond .eq 6, 3) := by decide +kernel
theorem d_X12_stepWord_197 : decode mt_X12_stepWord.2.1 197 = .ok (.bipush 8, 2) := by decide +kernel
theorem d_X12_stepWord_199 : decode mt_X12_stepWord.2.1 199 = .ok (.ireturn, 1) := by decide +kernel
theorem d_X12_stepWord_200 : decode mt_X12_stepWord.2.1 200 = .ok (.aload_n 0, 1) := by decide +kernel
theorem d_X12_stepWord_201 : decode mt_X12_stepWord.2.1 201 = .ok (.bipush 115, 2) := by decide +kernel
theorem d_X12_stepWord_203 : decode mt_X12_stepWord.2.1 203 = .ok (.bipush 116, 2) := by decide +kernel
theorem d_X12_stepWord_205 : decode mt_X12_stepWord.2.1 205 = .ok (.bipush 111, 2) := by decide +kernel
theorem d_X12_stepWord_207 : decode mt_X12_stepWord.2.1 207 = .ok (.bipush 112, 2) := by decide +kernel
theorem d_X12_stepWord_209 : decode mt_X12_stepWord.2.1 209 = .ok (.iconst 0, 1) := by decide +kernel
theorem d_X12_stepWord_210 : decode mt_X12_stepWord.2.1 210 = .ok (.iconst 0, 1) := by decide +kernel
theorem d_X12_stepWord_211 : decode mt_X12_stepWord.2.1 211 = .ok (.invokestatic 149, 3) := by decide +kernel
theorem d_X12_stepWord_214 : decode mt_X12_stepWord.2.1 214 = .ok (.invokevirtual 153, 3) := by decide +kernel
theorem d_X12_stepWord_217 : decode mt_X12_stepWord.2.1 217 = .ok (.ifCond .eq 8, 3) := by decide +kernel
theorem d_X12_stepWord_220 : decode mt_X12_stepWord.2.1 220 = .ok (.bipush 9, 2) := by decide +kernel
theorem d_X12_stepWord_222 : decode mt_X12_stepWord.2.1 222 = .ok (.goto 4, 3) := by decide +kernel
theorem d_X12_stepWord_225 : decode mt_X12_stepWord.2.1 225 = .ok (.iconst (-1), 1) := by decide +kernel
theorem d_X12_stepWord_226 : decode mt_X12_stepWord.2.1 226 = .ok (.ireturn, 1) := by decide +kernel
noncomputable def f_X12_stepWord_b0 (v0 : Int) (σ : Mem) : Option (Int) :=
  (f_X12_spelled 121 101 97 114 0 0 σ).bind fun r1 =>
  (f_X12_isWord v0 r1 σ).bind fun r3 =>
  if r3 = 0 then
    (f_X12_spelled 116 114 121 0 0 0 σ).bind fun r5 =>
    (f_X12_isWord v0 r5 σ).bind fun r7 =>
    if r7 = 0 then
      (f_X12_spelled 107 105 110 100 0 0 σ).bind fun r9 =>
      (f_X12_isWord v0 r9 σ).bind fun r11 =>
      if r11 = 0 then
        (f_X12_spelled 104 97 114 115 104 0 σ).bind fun r13 =>
        (f_X12_isWord v0 r13 σ).bind fun r15 =>
        if r15 = 0 then
          (f_X12_spelled 99 108 101 97 114 0 σ).bind fun r17 =>
          (f_X12_isWord v0 r17 σ).bind fun r19 =>
          if r19 = 0 then
            (f_X12_spelled 102 108 121 0 0 0 σ).bind fun r21 =>
            (f_X12_isWord v0 r21 σ).bind fun r23 =>
            if r23 = 0 then
              (f_X12_spelled 97 110 121 0 0 0 σ).bind fun r25 =>
              (f_X12_isWord v0 r25 σ).bind fun r27 =>
              if r27 = 0 then
                (f_X12_spelled 119 104 101 110 0 0 σ).bind fun r29 =>
                (f_X12_isWord v0 r29 σ).bind fun r31 =>
                if r31 = 0 then
                  (f_X12_spelled 108 111 111 112 0 0 σ).bind fun r33 =>
                  (f_X12_isWord v0 r33 σ).bind fun r35 =>
                  if r35 = 0 then
                    (f_X12_spelled 115 116 111 112 0 0 σ).bind fun r37 =>
                    (f_X12_isWord v0 r37 σ).bind fun r39 =>
                    if r39 = 0 then
                      some ((-1))
                    else
                      some (9)
                  else
                    some (8)
                else
                  some (7)
              else
                some (6)
            else
              some (5)
          else
            some (4)
        else
          some (3)
      else
        some (2)
    else
      some (1)
  else
    some (0)
theorem L_X12_stepWord_b0 {sc : Nat × (Nat → Int32)} {o : Int} {σ : Mem} {v0 : Int} (h : f_X12_stepWord_b0 v0 σ = some o) : E sc (Fm Sh (some (0, o)) Sh σ) mt_X12_stepWord 2 Sh Sh 0 [(2, v0)] [] Sh σ := by
  unfold f_X12_stepWord_b0 at h
  refine E_aload_n d_X12_stepWord_0 rfl (by decide) ?_
  refine E_bipush d_X12_stepWord_1 (c8 rfl) ?_
  refine E_bipush d_X12_stepWord_3 (c8 rfl) ?_
  refine E_bipush d_X12_stepWord_5 (c8 rfl) ?_
  refine E_bipush d_X12_stepWord_7 (c8 rfl) ?_
  refine E_iconst d_X12_stepWord_9 (c32 rfl) ?_
  refine E_iconst d_X12_stepWord_10 (c32 rfl) ?_
  refine bd h (fun r1 q2 h => ?_)
  refine E_cS (as := [(0, 121), (0, 101), (0, 97), (0, 114), (0, 0), (0, 0)]) (st := [(2, v0)]) d_X12_stepWord_11 mk_X12_spelled nl_X12_149 (by omega) ⟨rfl, rfl, Nat.le_of_ble_eq_true rfl⟩ (L_X12_spelled q2) ?_
  refine bd h (fun r3 q4 h => ?_)
  refine E_cV (as := [(1, r1)]) (st := []) (a := v0) d_X12_stepWord_14 mk_X12_isWord nl_X12_153 (by omega) ⟨rfl, rfl, Nat.le_of_ble_eq_true rfl⟩ okX12 rfl (L_X12_isWord q4) ?_
  refine E_if_eq (tgt := 22) d_X12_stepWord_17 (by decide) h (fun _ h => ?_) (fun _ h => ?_)
  · refine E_aload_n d_X12_stepWord_22 rfl (by decide) ?_
    refine E_bipush d_X12_stepWord_23 (c8 rfl) ?_
    refine E_bipush d_X12_stepWord_25 (c8 rfl) ?_
    refine E_bipush d_X12_stepWord_27 (c8 rfl) ?_
    refine E_iconst d_X12_stepWord_29 (c32 rfl) ?_
    refine E_iconst d_X12_stepWord_30 (c32 rfl) ?_
    refine E_iconst d_X12_stepWord_31 (c32 rfl) ?_
    refine bd h (fun r5 q6 h => ?_)
    refine E_cS (as := [(0, 116), (0, 114), (0, 121), (0, 0), (0, 0), (0, 0)]) (st := [(2, v0)]) d_X12_stepWord_32 mk_X12_spelled nl_X12_149 (by omega) ⟨rfl, rfl, Nat.le_of_ble_eq_true rfl⟩ (L_X12_spelled q6) ?_
    refine bd h (fun r7 q8 h => ?_)
    refine E_cV (as := [(1, r5)]) (st := []) (a := v0) d_X12_stepWord_35 mk_X12_isWord nl_X12_153 (by omega) ⟨rfl, rfl, Nat.le_of_ble_eq_true rfl⟩ okX12 rfl (L_X12_isWord q8) ?_
    refine E_if_eq (tgt := 43) d_X12_stepWord_38 (by decide) h (fun _ h => ?_) (fun _ h => ?_)
    · refine E_aload_n d_X12_stepWord_43 rfl (by decide) ?_
      refine E_bipush d_X12_stepWord_44 (c8 rfl) ?_
      refine E_bipush d_X12_stepWord_46 (c8 rfl) ?_
      refine E_bipush d_X12_stepWord_48 (c8 rfl) ?_
      refine E_bipush d_X12_stepWord_50 (c8 rfl) ?_
      refine E_iconst d_X12_stepWord_52 (c32 rfl) ?_
      refine E_iconst d_X12_stepWord_53 (c32 rfl) ?_
      refine bd h (fun r9 q10 h => ?_)
      refine E_cS (as := [(0, 107), (0, 105), (0, 110), (0, 100), (0, 0), (0, 0)]) (st := [(2, v0)]) d_X12_stepWord_54 mk_X12_spelled nl_X12_149 (by omega) ⟨rfl, rfl, Nat.le_of_ble_eq_true rfl⟩ (L_X12_spelled q10) ?_
      refine bd h (fun r11 q12 h => ?_)
      refine E_cV (as := [(1, r9)]) (st := []) (a := v0) d_X12_stepWord_57 mk_X12_isWord nl_X12_153 (by omega) ⟨rfl, rfl, Nat.le_of_ble_eq_true rfl⟩ okX12 rfl (L_X12_isWord q12) ?_
      refine E_if_eq (tgt := 65) d_X12_stepWord_60 (by decide) h (fun _ h => ?_) (fun _ h => ?_)
      · refine E_aload_n d_X12_stepWord_65 rfl (by decide) ?_
        refine E_bipush d_X12_stepWord_66 (c8 rfl) ?_
        refine E_bipush d_X12_stepWord_68 (c8 rfl) ?_
        refine E_bipush d_X12_stepWord_70 (c8 rfl) ?_
        refine E_bipush d_X12_stepWord_72 (c8 rfl) ?_
        refine E_bipush d_X12_stepWord_74 (c8 rfl) ?_
        refine E_iconst d_X12_stepWord_76 (c32 rfl) ?_
        refine bd h (fun r13 q14 h => ?_)
        refine E_cS (as := [(0, 104), (0, 97), (0, 114), (0, 115), (0, 104), (0, 0)]) (st := [(2, v0)]) d_X12_stepWord_77 mk_X12_spelled nl_X12_149 (by omega) ⟨rfl, rfl, Nat.le_of_ble_eq_true rfl⟩ (L_X12_spelled q14) ?_
        refine bd h (fun r15 q16 h => ?_)
        refine E_cV (as := [(1, r13)]) (st := []) (a := v0) d_X12_stepWord_80 mk_X12_isWord nl_X12_153 (by omega) ⟨rfl, rfl, Nat.le_of_ble_eq_true rfl⟩ okX12 rfl (L_X12_isWord q16) ?_
        refine E_if_eq (tgt := 88) d_X12_stepWord_83 (by decide) h (fun _ h => ?_) (fun _ h => ?_)
        · refine E_aload_n d_X12_stepWord_88 rfl (by decide) ?_
          refine E_bipush d_X12_stepWord_89 (c8 rfl) ?_
          refine E_bipush d_X12_stepWord_91 (c8 rfl) ?_
          refine E_bipush d_X12_stepWord_93 (c8 rfl) ?_
          refine E_bipush d_X12_stepWord_95 (c8 rfl) ?_
          refine E_bipush d_X12_stepWord_97 (c8 rfl) ?_
          refine E_iconst d_X12_stepWord_99 (c32 rfl) ?_
          refine bd h (fun r17 q18 h => ?_)
          refine E_cS (as := [(0, 99), (0, 108), (0, 101), (0, 97), (0, 114), (0, 0)]) (st := [(2, v0)]) d_X12_stepWord_100 mk_X12_spelled nl_X12_149 (by omega) ⟨rfl, rfl, Nat.le_of_ble_eq_true rfl⟩ (L_X12_spelled q18) ?_
          refine bd h (fun r19 q20 h => ?_)
          refine E_cV (as := [(1, r17)]) (st := []) (a := v0) d_X12_stepWord_103 mk_X12_isWord nl_X12_153 (by omega) ⟨rfl, rfl, Nat.le_of_ble_eq_true rfl⟩ okX12 rfl (L_X12_isWord q20) ?_
          refine E_if_eq (tgt := 111) d_X12_stepWord_106 (by decide) h (fun _ h => ?_) (fun _ h => ?_)
          · refine E_aload_n d_X12_stepWord_111 rfl (by decide) ?_
            refine E_bipush d_X12_stepWord_112 (c8 rfl) ?_
            refine E_bipush d_X12_stepWord_114 (c8 rfl) ?_
            refine E_bipush d_X12_stepWord_116 (c8 rfl) ?_
            refine E_iconst d_X12_stepWord_118 (c32 rfl) ?_
            refine E_iconst d_X12_stepWord_119 (c32 rfl) ?_
            refine E_iconst d_X12_stepWord_120 (c32 rfl) ?_
            refine bd h (fun r21 q22 h => ?_)
            refine E_cS (as := [(0, 102), (0, 108), (0, 121), (0, 0), (0, 0), (0, 0)]) (st := [(2, v0)]) d_X12_stepWord_121 mk_X12_spelled nl_X12_149 (by omega) ⟨rfl, rfl, Nat.le_of_ble_eq_true rfl⟩ (L_X12_spelled q22) ?_
            refine bd h (fun r23 q24 h => ?_)
            refine E_cV (as := [(1, r21)]) (st := []) (a := v0) d_X12_stepWord_124 mk_X12_isWord nl_X12_153 (by omega) ⟨rfl, rfl, Nat.le_of_ble_eq_true rfl⟩ okX12 rfl (L_X12_isWord q24) ?_
            refine E_if_eq (tgt := 132) d_X12_stepWord_127 (by decide) h (fun _ h => ?_) (fun _ h => ?_)
            · refine E_aload_n d_X12_stepWord_132 rfl (by decide) ?_
              refine E_bipush d_X12_stepWord_133 (c8 rfl) ?_
              refine E_bipush d_X12_stepWord_135 (c8 rfl) ?_
              refine E_bipush d_X12_stepWord_137 (c8 rfl) ?_
              refine E_iconst d_X12_stepWord_139 (c32 rfl) ?_
              refine E_iconst d_X12_stepWord_140 (c32 rfl) ?_
              refine E_iconst d_X12_stepWord_141 (c32 rfl) ?_
              refine bd h (fun r25 q26 h => ?_)
              refine E_cS (as := [(0, 97), (0, 110), (0, 121), (0, 0), (0, 0), (0, 0)]) (st := [(2, v0)]) d_X12_stepWord_142 mk_X12_spelled nl_X12_149 (by omega) ⟨rfl, rfl, Nat.le_of_ble_eq_true rfl⟩ (L_X12_spelled q26) ?_
              refine bd h (fun r27 q28 h => ?_)
              refine E_cV (as := [(1, r25)]) (st := []) (a := v0) d_X12_stepWord_145 mk_X12_isWord nl_X12_153 (by omega) ⟨rfl, rfl, Nat.le_of_ble_eq_true rfl⟩ okX12 rfl (L_X12_isWord q28) ?_
              refine E_if_eq (tgt := 154) d_X12_stepWord_148 (by decide) h (fun _ h => ?_) (fun _ h => ?_)
              · refine E_aload_n d_X12_stepWord_154 rfl (by decide) ?_
                refine E_bipush d_X12_stepWord_155 (c8 rfl) ?_
                refine E_bipush d_X12_stepWord_157 (c8 rfl) ?_
                refine E_bipush d_X12_stepWord_159 (c8 rfl) ?_
                refine E_bipush d_X12_stepWord_161 (c8 rfl) ?_
                refine E_iconst d_X12_stepWord_163 (c32 rfl) ?_
                refine E_iconst d_X12_stepWord_164 (c32 rfl) ?_
                refine bd h (fun r29 q30 h => ?_)
                refine E_cS (as := [(0, 119), (0, 104), (0, 101), (0, 110), (0, 0), (0, 0)]) (st := [(2, v0)]) d_X12_stepWord_165 mk_X12_spelled nl_X12_149 (by omega) ⟨rfl, rfl, Nat.le_of_ble_eq_true rfl⟩ (L_X12_spelled q30) ?_
                refine bd h (fun r31 q32 h => ?_)
                refine E_cV (as := [(1, r29)]) (st := []) (a := v0) d_X12_stepWord_168 mk_X12_isWord nl_X12_153 (by omega) ⟨rfl, rfl, Nat.le_of_ble_eq_true rfl⟩ okX12 rfl (L_X12_isWord q32) ?_
                refine E_if_eq (tgt := 177) d_X12_stepWord_171 (by decide) h (fun _ h => ?_) (fun _ h => ?_)
                · refine E_aload_n d_X12_stepWord_177 rfl (by decide) ?_
                  refine E_bipush d_X12_stepWord_178 (c8 rfl) ?_
                  refine E_bipush d_X12_stepWord_180 (c8 rfl) ?_
                  refine E_bipush d_X12_stepWord_182 (c8 rfl) ?_
                  refine E_bipush d_X12_stepWord_184 (c8 rfl) ?_
                  refine E_iconst d_X12_stepWord_186 (c32 rfl) ?_
                  refine E_iconst d_X12_stepWord_187 (c32 rfl) ?_
                  refine bd h (fun r33 q34 h => ?_)
                  refine E_cS (as := [(0, 108), (0, 111), (0, 111), (0, 112), (0, 0), (0, 0)]) (st := [(2, v0)]) d_X12_stepWord_188 mk_X12_spelled nl_X12_149 (by omega) ⟨rfl, rfl, Nat.le_of_ble_eq_true rfl⟩ (L_X12_spelled q34) ?_
                  refine bd h (fun r35 q36 h => ?_)
                  refine E_cV (as := [(1, r33)]) (st := []) (a := v0) d_X12_stepWord_191 mk_X12_isWord nl_X12_153 (by omega) ⟨rfl, rfl, Nat.le_of_ble_eq_true rfl⟩ okX12 rfl (L_X12_isWord q36) ?_
                  refine E_if_eq (tgt := 200) d_X12_stepWord_194 (by decide) h (fun _ h => ?_) (fun _ h => ?_)
                  · refine E_aload_n d_X12_stepWord_200 rfl (by decide) ?_
                    refine E_bipush d_X12_stepWord_201 (c8 rfl) ?_
                    refine E_bipush d_X12_stepWord_203 (c8 rfl) ?_
                    refine E_bipush d_X12_stepWord_205 (c8 rfl) ?_
                    refine E_bipush d_X12_stepWord_207 (c8 rfl) ?_
                    refine E_iconst d_X12_stepWord_209 (c32 rfl) ?_
                    refine E_iconst d_X12_stepWord_210 (c32 rfl) ?_
                    refine bd h (fun r37 q38 h => ?_)
                    refine E_cS (as := [(0, 115), (0, 116), (0, 111), (0, 112), (0, 0), (0, 0)]) (st := [(2, v0)]) d_X12_stepWord_211 mk_X12_spelled nl_X12_149 (by omega) ⟨rfl, rfl, Nat.le_of_ble_eq_true rfl⟩ (L_X12_spelled q38) ?_
                    refine bd h (fun r39 q40 h => ?_)
                    refine E_cV (as := [(1, r37)]) (st := []) (a := v0) d_X12_stepWord_214 mk_X12_isWord nl_X12_153 (by omega) ⟨rfl, rfl, Nat.le_of_ble_eq_true rfl⟩ okX12 rfl (L_X12_isWord q40) ?_
                    refine E_if_eq (tgt := 225) d_X12_stepWord_217 (by decide) h (fun _ h => ?_) (fun _ h => ?_)
                    · refine E_iconst d_X12_stepWord_225 (c32 rfl) ?_
                      cases h
                      exact E_iret d_X12_stepWord_226 rfl
                    · refine E_bipush d_X12_stepWord_220 (c8 rfl) ?_
                      refine E_goto (tgt := 226) d_X12_stepWord_222 (by decide) ?_
                      cases h
                      exact E_iret d_X12_stepWord_226 rfl
                  · refine E_bipush d_X12_stepWord_197 (c8 rfl) ?_
                    cases h
                    exact E_iret d_X12_stepWord_199 rfl
                · refine E_bipush d_X12_stepWord_174 (c8 rfl) ?_
                  cases h
                  exact E_iret d_X12_stepWord_176 rfl
              · refine E_bipush d_X12_stepWord_151 (c8 rfl) ?_
                cases h
                exact E_iret d_X12_stepWord_153 rfl
            · refine E_iconst d_X12_stepWord_130 (c32 rfl) ?_
              cases h
              exact E_iret d_X12_stepWord_131 rfl
          · refine E_iconst d_X12_stepWord_109 (c32 rfl) ?_
            cases h
            exact E_iret d_X12_stepWord_110 rfl
        · refine E_iconst d_X12_stepWord_86 (c32 rfl) ?_
          cases h
          exact E_iret d_X12_stepWord_87 rfl
      · refine E_iconst d_X12_stepWord_63 (c32 rfl) ?_
        cases h
        exact E_iret d_X12_stepWord_64 rfl
    · refine E_iconst d_X12_stepWord_41 (c32 rfl) ?_
      cases h
      exact E_iret d_X12_stepWord_42 rfl
  · refine E_iconst d_X12_stepWord_20 (c32 rfl) ?_
    cases h
    exact E_iret d_X12_stepWord_21 rfl
noncomputable def f_X12_stepWord (v0 : Int) (σ : Mem) : Option (Int) := if isO Sh 12 v0 = true then f_X12_stepWord_b0 v0 σ else none
theorem L_X12_stepWord {o : Int} {v0 : Int} {σ : Mem} (h : f_X12_stepWord v0 σ = some o) : (isO Sh 12 v0 = true ∧ Cn mt_X12_stepWord 2 [(2, v0)] Sh σ (some (0, o)) Sh σ) := ⟨(ite_ok h).1, Cn_of mk_X12_stepWord.1.2.2.1 (Nat.le_of_ble_eq_true rfl) (fun sc => L_X12_stepWord_b0 (ite_ok h).2)⟩
theorem d_X12_isMoss_0 : decode mt_X12_isMoss.2.1 0 = .ok (.aload_n 0, 1) := by decide +kernel
theorem d_X12_isMoss_1 : decode mt_X12_isMoss.2.1 1 = .ok (.bipush 109, 2) := by decide +kernel
theorem d_X12_isMoss_3 : decode mt_X12_isMoss.2.1 3 = .ok (.bipush 111, 2) := by decide +kernel
theorem d_X12_isMoss_5 : decode mt_X12_isMoss.2.1 5 = .ok (.bipush 115, 2) := by decide +kernel
theorem d_X12_isMoss_7 : decode mt_X12_isMoss.2.1 7 = .ok (.bipush 115, 2) := by decide +kernel
theorem d_X12_isMoss_9 : decode mt_X12_isMoss.2.1 9 = .ok (.iconst 0, 1) := by decide +kernel
theorem d_X12_isMoss_10 : decode mt_X12_isMoss.2.1 10 = .ok (.iconst 0, 1) := by decide +kernel
theorem d_X12_isMoss_11 : decode mt_X12_isMoss.2.1 11 = .ok (.invokestatic 149, 3) := by decide +kernel
theorem d_X12_isMoss_14 : decode mt_X12_isMoss.2.1 14 = .ok (.invokevirtual 153, 3) := by decide +kernel
theorem d_X12_isMoss_17 : decode mt_X12_isMoss.2.1 17 = .ok (.ireturn, 1) := by decide +kernel
noncomputable def f_X12_isMoss_b0 (v0 : Int) (σ : Mem) : Option (Int) :=
  (f_X12_spelled 109 111 115 115 0 0 σ).bind fun r1 =>
  (f_X12_isWord v0 r1 σ).bind fun r3 =>
  (bz r3).bind fun _ =>
  some (r3)
theorem L_X12_isMoss_b0 {sc : Nat × (Nat → Int32)} {o : Int} {σ : Mem} {v0 : Int} (h : f_X12_isMoss_b0 v0 σ = some o) : E sc (Fm Sh (some (0, o)) Sh σ) mt_X12_isMoss 2 Sh Sh 0 [(2, v0)] [] Sh σ := by
  unfold f_X12_isMoss_b0 at h
  refine E_aload_n d_X12_isMoss_0 rfl (by decide) ?_
  refine E_bipush d_X12_isMoss_1 (c8 rfl) ?_
  refine E_bipush d_X12_isMoss_3 (c8 rfl) ?_
  refine E_bipush d_X12_isMoss_5 (c8 rfl) ?_
  refine E_bipush d_X12_isMoss_7 (c8 rfl) ?_
  refine E_iconst d_X12_isMoss_9 (c32 rfl) ?_
  refine E_iconst d_X12_isMoss_10 (c32 rfl) ?_
  refine bd h (fun r1 q2 h => ?_)
  refine E_cS (as := [(0, 109), (0, 111), (0, 115), (0, 115), (0, 0), (0, 0)]) (st := [(2, v0)]) d_X12_isMoss_11 mk_X12_spelled nl_X12_149 (by omega) ⟨rfl, rfl, Nat.le_of_ble_eq_true rfl⟩ (L_X12_spelled q2) ?_
  refine bd h (fun r3 q4 h => ?_)
  refine E_cV (as := [(1, r1)]) (st := []) (a := v0) d_X12_isMoss_14 mk_X12_isWord nl_X12_153 (by omega) ⟨rfl, rfl, Nat.le_of_ble_eq_true rfl⟩ okX12 rfl (L_X12_isWord q4) ?_
  refine bd_bz h (fun q5 h => ?_)
  cases h
  exact E_zret d_X12_isMoss_17 rfl q5
noncomputable def f_X12_isMoss (v0 : Int) (σ : Mem) : Option (Int) := if isO Sh 12 v0 = true then f_X12_isMoss_b0 v0 σ else none
theorem L_X12_isMoss {o : Int} {v0 : Int} {σ : Mem} (h : f_X12_isMoss v0 σ = some o) : (isO Sh 12 v0 = true ∧ Cn mt_X12_isMoss 2 [(2, v0)] Sh σ (some (0, o)) Sh σ) := ⟨(ite_ok h).1, Cn_of mk_X12_isMoss.1.2.2.1 (Nat.le_of_ble_eq_true rfl) (fun sc => L_X12_isMoss_b0 (ite_ok h).2)⟩
theorem d_X12_testWord_0 : decode mt_X12_testWord.2.1 0 = .ok (.aload_n 0, 1) := by decide +kernel
theorem d_X12_testWord_1 : decode mt_X12_testWord.2.1 1 = .ok (.bipush 116, 2) := by decide +kernel
theorem d_X12_testWord_3 : decode mt_X12_testWord.2.1 3 = .ok (.bipush 117, 2) := by decide +kernel
theorem d_X12_testWord_5 : decode mt_X12_testWord.2.1 5 = .ok (.bipush 114, 2) := by decide +kernel
theorem d_X12_testWord_7 : decode mt_X12_testWord.2.1 7 = .ok (.bipush 110, 2) := by decide +kernel
theorem d_X12_testWord_9 : decode mt_X12_testWord.2.1 9 = .ok (.bipush 115, 2) := by decide +kernel
theorem d_X12_testWord_11 : decode mt_X12_testWord.2.1 11 = .ok (.iconst 0, 1) := by decide +kernel
theorem d_X12_testWord_12 : decode mt_X12_testWord.2.1 12 = .ok (.invokestatic 149, 3) := by decide +kernel
theorem d_X12_testWord_15 : decode mt_X12_testWord.2.1 15 = .ok (.invokevirtual 153, 3) := by decide +kernel
theorem d_X12_testWord_18 : decode mt_X12_testWord.2.1 18 = .ok (.ifCond .eq 5, 3) := by decide +kernel
theorem d_X12_testWord_21 : decode mt_X12_testWord.2.1 21 = .ok (.iconst 0, 1) := by decide +kernel
theorem d_X12_testWord_22 : decode mt_X12_testWord.2.1 22 = .ok (.ireturn, 1) := by decide +kernel
theorem d_X12_testWord_23 : decode mt_X12_testWord.2.1 23 = .ok (.aload_n 0, 1) := by decide +kernel
theorem d_X12_testWord_24 : decode mt_X12_testWord.2.1 24 = .ok (.bipush 115, 2) := by decide +kernel
theorem d_X12_testWord_26 : decode mt_X12_testWord.2.1 26 = .ok (.bipush 116, 2) := by decide +kernel
theorem d_X12_testWord_28 : decode mt_X12_testWord.2.1 28 = .ok (.bipush 97, 2) := by decide +kernel
theorem d_X12_testWord_30 : decode mt_X12_testWord.2.1 30 = .ok (.bipush 110, 2) := by decide +kernel
theorem d_X12_testWord_32 : decode mt_X12_testWord.2.1 32 = .ok (.bipush 100, 2) := by decide +kernel
theorem d_X12_testWord_34 : decode mt_X12_testWord.2.1 34 = .ok (.bipush 115, 2) := by decide +kernel
theorem d_X12_testWord_36 : decode mt_X12_testWord.2.1 36 = .ok (.invokestatic 149, 3) := by decide +kernel
theorem d_X12_testWord_39 : decode mt_X12_testWord.2.1 39 = .ok (.invokevirtual 153, 3) := by decide +kernel
theorem d_X12_testWord_42 : decode mt_X12_testWord.2.1 42 = .ok (.ifCond .eq 5, 3) := by decide +kernel
theorem d_X12_testWord_45 : decode mt_X12_testWord.2.1 45 = .ok (.iconst 1, 1) := by decide +kernel
theorem d_X12_testWord_46 : decode mt_X12_testWord.2.1 46 = .ok (.ireturn, 1) := by decide +kernel
theorem d_X12_testWord_47 : decode mt_X12_testWord.2.1 47 = .ok (.aload_n 0, 1) := by decide +kernel
theorem d_X12_testWord_48 : decode mt_X12_testWord.2.1 48 = .ok (.invokevirtual 159, 3) := by decide +kernel
theorem d_X12_testWord_51 : decode mt_X12_testWord.2.1 51 = .ok (.ifCond .eq 7, 3) := by decide +kernel
theorem d_X12_testWord_54 : decode mt_X12_testWord.2.1 54 = .ok (.iconst 2, 1) := by decide +kernel
theorem d_X12_testWord_55 : decode mt_X12_testWord.2.1 55 = .ok (.goto 4, 3) := by decide +kernel
theorem d_X12_testWord_58 : decode mt_X12_testWord.2.1 58 = .ok (.iconst (-1), 1) := by decide +kernel
theorem d_X12_testWord_59 : decode mt_X12_testWord.2.1 59 = .ok (.ireturn, 1) := by decide +kernel
noncomputable def f_X12_testWord_b0 (v0 : Int) (σ : Mem) : Option (Int) :=
  (f_X12_spelled 116 117 114 110 115 0 σ).bind fun r1 =>
  (f_X12_isWord v0 r1 σ).bind fun r3 =>
  if r3 = 0 then
    (f_X12_spelled 115 116 97 110 100 115 σ).bind fun r5 =>
    (f_X12_isWord v0 r5 σ).bind fun r7 =>
    if r7 = 0 then
      (f_X12_isMoss v0 σ).bind fun r9 =>
      if r9 = 0 then
        some ((-1))
      else
        some (2)
    else
      some (1)
  else
    some (0)
theorem L_X12_testWord_b0 {sc : Nat × (Nat → Int32)} {o : Int} {σ : Mem} {v0 : Int} (h : f_X12_testWord_b0 v0 σ = some o) : E sc (Fm Sh (some (0, o)) Sh σ) mt_X12_testWord 3 Sh Sh 0 [(2, v0)] [] Sh σ := by
  unfold f_X12_testWord_b0 at h
  refine E_aload_n d_X12_testWord_0 rfl (by decide) ?_
  refine E_bipush d_X12_testWord_1 (c8 rfl) ?_
  refine E_bipush d_X12_testWord_3 (c8 rfl) ?_
  refine E_bipush d_X12_testWord_5 (c8 rfl) ?_
  refine E_bipush d_X12_testWord_7 (c8 rfl) ?_
  refine E_bipush d_X12_testWord_9 (c8 rfl) ?_
  refine E_iconst d_X12_testWord_11 (c32 rfl) ?_
  refine bd h (fun r1 q2 h => ?_)
  refine E_cS (as := [(0, 116), (0, 117), (0, 114), (0, 110), (0, 115), (0, 0)]) (st := [(2, v0)]) d_X12_testWord_12 mk_X12_spelled nl_X12_149 (by omega) ⟨rfl, rfl, Nat.le_of_ble_eq_true rfl⟩ (L_X12_spelled q2) ?_
  refine bd h (fun r3 q4 h => ?_)
  refine E_cV (as := [(1, r1)]) (st := []) (a := v0) d_X12_testWord_15 mk_X12_isWord nl_X12_153 (by omega) ⟨rfl, rfl, Nat.le_of_ble_eq_true rfl⟩ okX12 rfl (L_X12_isWord q4) ?_
  refine E_if_eq (tgt := 23) d_X12_testWord_18 (by decide) h (fun _ h => ?_) (fun _ h => ?_)
  · refine E_aload_n d_X12_testWord_23 rfl (by decide) ?_
    refine E_bipush d_X12_testWord_24 (c8 rfl) ?_
    refine E_bipush d_X12_testWord_26 (c8 rfl) ?_
    refine E_bipush d_X12_testWord_28 (c8 rfl) ?_
    refine E_bipush d_X12_testWord_30 (c8 rfl) ?_
    refine E_bipush d_X12_testWord_32 (c8 rfl) ?_
    refine E_bipush d_X12_testWord_34 (c8 rfl) ?_
    refine bd h (fun r5 q6 h => ?_)
    refine E_cS (as := [(0, 115), (0, 116), (0, 97), (0, 110), (0, 100), (0, 115)]) (st := [(2, v0)]) d_X12_testWord_36 mk_X12_spelled nl_X12_149 (by omega) ⟨rfl, rfl, Nat.le_of_ble_eq_true rfl⟩ (L_X12_spelled q6) ?_
    refine bd h (fun r7 q8 h => ?_)
    refine E_cV (as := [(1, r5)]) (st := []) (a := v0) d_X12_testWord_39 mk_X12_isWord nl_X12_153 (by omega) ⟨rfl, rfl, Nat.le_of_ble_eq_true rfl⟩ okX12 rfl (L_X12_isWord q8) ?_
    refine E_if_eq (tgt := 47) d_X12_testWord_42 (by decide) h (fun _ h => ?_) (fun _ h => ?_)
    · refine E_aload_n d_X12_testWord_47 rfl (by decide) ?_
      refine bd h (fun r9 q10 h => ?_)
      refine E_cV (as := []) (st := []) (a := v0) d_X12_testWord_48 mk_X12_isMoss nl_X12_159 (by omega) ⟨rfl, rfl, Nat.le_of_ble_eq_true rfl⟩ okX12 rfl (L_X12_isMoss q10) ?_
      refine E_if_eq (tgt := 58) d_X12_testWord_51 (by decide) h (fun _ h => ?_) (fun _ h => ?_)
      · refine E_iconst d_X12_testWord_58 (c32 rfl) ?_
        cases h
        exact E_iret d_X12_testWord_59 rfl
      · refine E_iconst d_X12_testWord_54 (c32 rfl) ?_
        refine E_goto (tgt := 59) d_X12_testWord_55 (by decide) ?_
        cases h
        exact E_iret d_X12_testWord_59 rfl
    · refine E_iconst d_X12_testWord_45 (c32 rfl) ?_
      cases h
      exact E_iret d_X12_testWord_46 rfl
  · refine E_iconst d_X12_testWord_21 (c32 rfl) ?_
    cases h
    exact E_iret d_X12_testWord_22 rfl
noncomputable def f_X12_testWord (v0 : Int) (σ : Mem) : Option (Int) := if isO Sh 12 v0 = true then f_X12_testWord_b0 v0 σ else none
theorem L_X12_testWord {o : Int} {v0 : Int} {σ : Mem} (h : f_X12_testWord v0 σ = some o) : (isO Sh 12 v0 = true ∧ Cn mt_X12_testWord 3 [(2, v0)] Sh σ (some (0, o)) Sh σ) := ⟨(ite_ok h).1, Cn_of mk_X12_testWord.1.2.2.1 (Nat.le_of_ble_eq_true rfl) (fun sc => L_X12_testWord_b0 (ite_ok h).2)⟩
theorem d_X12_isEnd_0 : decode mt_X12_isEnd.2.1 0 = .ok (.aload_n 0, 1) := by decide +kernel
theorem d_X12_isEnd_1 : decode mt_X12_isEnd.2.1 1 = .ok (.bipush 101, 2) := by decide +kernel
theorem d_X12_isEnd_3 : decode mt_X12_isEnd.2.1 3 = .ok (.bipush 110, 2) := by decide +kernel
theorem d_X12_isEnd_5 : decode mt_X12_isEnd.2.1 5 = .ok (.bipush 100, 2) := by decide +kernel
theorem d_X12_isEnd_7 : decode mt_X12_isEnd.2.1 7 = .ok (.iconst 0, 1) := by decide +kernel
theorem d_X12_isEnd_8 : decode mt_X12_isEnd.2.1 8 = .ok (.iconst 0, 1) := by decide +kernel
theorem d_X12_isEnd_9 : decode mt_X12_isEnd.2.1 9 = .ok (.iconst 0, 1) := by decide +kernel
theorem d_X12_isEnd_10 : decode mt_X12_isEnd.2.1 10 = .ok (.invokestatic 149, 3) := by decide +kernel
theorem d_X12_isEnd_13 : decode mt_X12_isEnd.2.1 13 = .ok (.invokevirtual 153, 3) := by decide +kernel
theorem d_X12_isEnd_16 : decode mt_X12_isEnd.2.1 16 = .ok (.ireturn, 1) := by decide +kernel
noncomputable def f_X12_isEnd_b0 (v0 : Int) (σ : Mem) : Option (Int) :=
  (f_X12_spelled 101 110 100 0 0 0 σ).bind fun r1 =>
  (f_X12_isWord v0 r1 σ).bind fun r3 =>
  (bz r3).bind fun _ =>
  some (r3)
theorem L_X12_isEnd_b0 {sc : Nat × (Nat → Int32)} {o : Int} {σ : Mem} {v0 : Int} (h : f_X12_isEnd_b0 v0 σ = some o) : E sc (Fm Sh (some (0, o)) Sh σ) mt_X12_isEnd 2 Sh Sh 0 [(2, v0)] [] Sh σ := by
  unfold f_X12_isEnd_b0 at h
  refine E_aload_n d_X12_isEnd_0 rfl (by decide) ?_
  refine E_bipush d_X12_isEnd_1 (c8 rfl) ?_
  refine E_bipush d_X12_isEnd_3 (c8 rfl) ?_
  refine E_bipush d_X12_isEnd_5 (c8 rfl) ?_
  refine E_iconst d_X12_isEnd_7 (c32 rfl) ?_
  refine E_iconst d_X12_isEnd_8 (c32 rfl) ?_
  refine E_iconst d_X12_isEnd_9 (c32 rfl) ?_
  refine bd h (fun r1 q2 h => ?_)
  refine E_cS (as := [(0, 101), (0, 110), (0, 100), (0, 0), (0, 0), (0, 0)]) (st := [(2, v0)]) d_X12_isEnd_10 mk_X12_spelled nl_X12_149 (by omega) ⟨rfl, rfl, Nat.le_of_ble_eq_true rfl⟩ (L_X12_spelled q2) ?_
  refine bd h (fun r3 q4 h => ?_)
  refine E_cV (as := [(1, r1)]) (st := []) (a := v0) d_X12_isEnd_13 mk_X12_isWord nl_X12_153 (by omega) ⟨rfl, rfl, Nat.le_of_ble_eq_true rfl⟩ okX12 rfl (L_X12_isWord q4) ?_
  refine bd_bz h (fun q5 h => ?_)
  cases h
  exact E_zret d_X12_isEnd_16 rfl q5
noncomputable def f_X12_isEnd (v0 : Int) (σ : Mem) : Option (Int) := if isO Sh 12 v0 = true then f_X12_isEnd_b0 v0 σ else none
theorem L_X12_isEnd {o : Int} {v0 : Int} {σ : Mem} (h : f_X12_isEnd v0 σ = some o) : (isO Sh 12 v0 = true ∧ Cn mt_X12_isEnd 2 [(2, v0)] Sh σ (some (0, o)) Sh σ) := ⟨(ite_ok h).1, Cn_of mk_X12_isEnd.1.2.2.1 (Nat.le_of_ble_eq_true rfl) (fun sc => L_X12_isEnd_b0 (ite_ok h).2)⟩
theorem d_X12_isKept_0 : decode mt_X12_isKept.2.1 0 = .ok (.aload_n 0, 1) := by decide +kernel
theorem d_X12_isKept_1 : decode mt_X12_isKept.2.1 1 = .ok (.invokevirtual 163, 3) := by decide +kernel
theorem d_X12_isKept_4 : decode mt_X12_isKept.2.1 4 = .ok (.ifCond .ne 45, 3) := by decide +kernel
theorem d_X12_isKept_7 : decode mt_X12_isKept.2.1 7 = .ok (.aload_n 0, 1) := by decide +kernel
theorem d_X12_isKept_8 : decode mt_X12_isKept.2.1 8 = .ok (.invokevirtual 166, 3) := by decide +kernel
theorem d_X12_isKept_11 : decode mt_X12_isKept.2.1 11 = .ok (.ifCond .ne 38, 3) := by decide +kernel
theorem d_X12_isKept_14 : decode mt_X12_isKept.2.1 14 = .ok (.aload_n 0, 1) := by decide +kernel
theorem d_X12_isKept_15 : decode mt_X12_isKept.2.1 15 = .ok (.invokevirtual 169, 3) := by decide +kernel
theorem d_X12_isKept_18 : decode mt_X12_isKept.2.1 18 = .ok (.ifCond .ne 31, 3) := by decide +kernel
theorem d_X12_isKept_21 : decode mt_X12_isKept.2.1 21 = .ok (.aload_n 0, 1) := by decide +kernel
theorem d_X12_isKept_22 : decode mt_X12_isKept.2.1 22 = .ok (.invokevirtual 172, 3) := by decide +kernel
theorem d_X12_isKept_25 : decode mt_X12_isKept.2.1 25 = .ok (.ifCond .ne 24, 3) := by decide +kernel
theorem d_X12_isKept_28 : decode mt_X12_isKept.2.1 28 = .ok (.aload_n 0, 1) := by decide +kernel
theorem d_X12_isKept_29 : decode mt_X12_isKept.2.1 29 = .ok (.invokevirtual 175, 3) := by decide +kernel
theorem d_X12_isKept_32 : decode mt_X12_isKept.2.1 32 = .ok (.ifCond .ne 17, 3) := by decide +kernel
theorem d_X12_isKept_35 : decode mt_X12_isKept.2.1 35 = .ok (.aload_n 0, 1) := by decide +kernel
theorem d_X12_isKept_36 : decode mt_X12_isKept.2.1 36 = .ok (.invokevirtual 178, 3) := by decide +kernel
theorem d_X12_isKept_39 : decode mt_X12_isKept.2.1 39 = .ok (.ifCond .ne 10, 3) := by decide +kernel
theorem d_X12_isKept_42 : decode mt_X12_isKept.2.1 42 = .ok (.aload_n 0, 1) := by decide +kernel
theorem d_X12_isKept_43 : decode mt_X12_isKept.2.1 43 = .ok (.invokevirtual 181, 3) := by decide +kernel
theorem d_X12_isKept_46 : decode mt_X12_isKept.2.1 46 = .ok (.ifCond .eq 5, 3) := by decide +kernel
theorem d_X12_isKept_49 : decode mt_X12_isKept.2.1 49 = .ok (.iconst 1, 1) := by decide +kernel
theorem d_X12_isKept_50 : decode mt_X12_isKept.2.1 50 = .ok (.ireturn, 1) := by decide +kernel
theorem d_X12_isKept_51 : decode mt_X12_isKept.2.1 51 = .ok (.aload_n 0, 1) := by decide +kernel
theorem d_X12_isKept_52 : decode mt_X12_isKept.2.1 52 = .ok (.invokevirtual 184, 3) := by decide +kernel
theorem d_X12_isKept_55 : decode mt_X12_isKept.2.1 55 = .ok (.ifCond .ge 24, 3) := by decide +kernel
theorem d_X12_isKept_58 : decode mt_X12_isKept.2.1 58 = .ok (.aload_n 0, 1) := by decide +kernel
theorem d_X12_isKept_59 : decode mt_X12_isKept.2.1 59 = .ok (.invokevirtual 188, 3) := by decide +kernel
theorem d_X12_isKept_62 : decode mt_X12_isKept.2.1 62 = .ok (.ifCond .ge 17, 3) := by decide +kernel
theorem d_X12_isKept_65 : decode mt_X12_isKept.2.1 65 = .ok (.aload_n 0, 1) := by decide +kernel
theorem d_X12_isKept_66 : decode mt_X12_isKept.2.1 66 = .ok (.invokevirtual 191, 3) := by decide +kernel
theorem d_X12_isKept_69 : decode mt_X12_isKept.2.1 69 = .ok (.ifCond .ge 10, 3) := by decide +kernel
theorem d_X12_isKept_72 : decode mt_X12_isKept.2.1 72 = .ok (.aload_n 0, 1) := by decide +kernel
theorem d_X12_isKept_73 : decode mt_X12_isKept.2.1 73 = .ok (.invokevirtual 194, 3) := by decide +kernel
theorem d_X12_isKept_76 : decode mt_X12_isKept.2.1 76 = .ok (.ifCond .eq 7, 3) := by decide +kernel
theorem d_X12_isKept_79 : decode mt_X12_isKept.2.1 79 = .ok (.iconst 1, 1) := by decide +kernel
theorem d_X12_isKept_80 : decode mt_X12_isKept.2.1 80 = .ok (.goto 4, 3) := by decide +kernel
theorem d_X12_isKept_83 : decode mt_X12_isKept.2.1 83 = .ok (.iconst 0, 1) := by decide +kernel
theorem d_X12_isKept_84 : decode mt_X12_isKept.2.1 84 = .ok (.ireturn, 1) := by decide +kernel
noncomputable def f_X12_isKept_b79 (σ : Mem) : Option (Int) :=
  some (1)
theorem L_X12_isKept_b79 {sc : Nat × (Nat → Int32)} {o : Int} {σ : Mem} (h : f_X12_isKept_b79  σ = some o) : E sc (Fm Sh (some (0, o)) Sh σ) mt_X12_isKept 4 Sh Sh 79 [(9, 0)] [] Sh σ := by
  unfold f_X12_isKept_b79 at h
  refine E_iconst d_X12_isKept_79 (c32 rfl) ?_
  refine E_goto (tgt := 84) d_X12_isKept_80 (by decide) ?_
  cases h
  exact E_zret d_X12_isKept_84 rfl (Or.inr rfl)
noncomputable def f_X12_isKept_b0 (v0 : Int) (σ : Mem) : Option (Int) :=
  (f_X12_isOdds v0 σ).bind fun r1 =>
  if r1 = 0 then
    (f_X12_isStone v0 σ).bind fun r3 =>
    if r3 = 0 then
      (f_X12_isLenient v0 σ).bind fun r5 =>
      if r5 = 0 then
        (f_X12_isStrong v0 σ).bind fun r7 =>
        if r7 = 0 then
          (f_X12_isGap v0 σ).bind fun r9 =>
          if r9 = 0 then
            (f_X12_isCrow v0 σ).bind fun r11 =>
            if r11 = 0 then
              (f_X12_isOn v0 σ).bind fun r13 =>
              if r13 = 0 then
                (f_X12_sideWord v0 σ).bind fun r15 =>
                if 0 ≤ r15 then
                  f_X12_isKept_b79  σ
                else
                  (f_X12_stepWord v0 σ).bind fun r17 =>
                  if 0 ≤ r17 then
                    f_X12_isKept_b79  σ
                  else
                    (f_X12_testWord v0 σ).bind fun r19 =>
                    if 0 ≤ r19 then
                      f_X12_isKept_b79  σ
                    else
                      (f_X12_isEnd v0 σ).bind fun r21 =>
                      if r21 = 0 then
                        some (0)
                      else
                        f_X12_isKept_b79  σ
              else
                some (1)
            else
              some (1)
          else
            some (1)
        else
          some (1)
      else
        some (1)
    else
      some (1)
  else
    some (1)
theorem L_X12_isKept_b0 {sc : Nat × (Nat → Int32)} {o : Int} {σ : Mem} {v0 : Int} (h : f_X12_isKept_b0 v0 σ = some o) : E sc (Fm Sh (some (0, o)) Sh σ) mt_X12_isKept 4 Sh Sh 0 [(2, v0)] [] Sh σ := by
  unfold f_X12_isKept_b0 at h
  refine E_aload_n d_X12_isKept_0 rfl (by decide) ?_
  refine bd h (fun r1 q2 h => ?_)
  refine E_cV (as := []) (st := []) (a := v0) d_X12_isKept_1 mk_X12_isOdds nl_X12_163 (by omega) ⟨rfl, rfl, Nat.le_of_ble_eq_true rfl⟩ okX12 rfl (L_X12_isOdds q2) ?_
  refine E_if_ne (tgt := 49) d_X12_isKept_4 (by decide) h (fun _ h => ?_) (fun _ h => ?_)
  · refine E_aload_n d_X12_isKept_7 rfl (by decide) ?_
    refine bd h (fun r3 q4 h => ?_)
    refine E_cV (as := []) (st := []) (a := v0) d_X12_isKept_8 mk_X12_isStone nl_X12_166 (by omega) ⟨rfl, rfl, Nat.le_of_ble_eq_true rfl⟩ okX12 rfl (L_X12_isStone q4) ?_
    refine E_if_ne (tgt := 49) d_X12_isKept_11 (by decide) h (fun _ h => ?_) (fun _ h => ?_)
    · refine E_aload_n d_X12_isKept_14 rfl (by decide) ?_
      refine bd h (fun r5 q6 h => ?_)
      refine E_cV (as := []) (st := []) (a := v0) d_X12_isKept_15 mk_X12_isLenient nl_X12_169 (by omega) ⟨rfl, rfl, Nat.le_of_ble_eq_true rfl⟩ okX12 rfl (L_X12_isLenient q6) ?_
      refine E_if_ne (tgt := 49) d_X12_isKept_18 (by decide) h (fun _ h => ?_) (fun _ h => ?_)
      · refine E_aload_n d_X12_isKept_21 rfl (by decide) ?_
        refine bd h (fun r7 q8 h => ?_)
        refine E_cV (as := []) (st := []) (a := v0) d_X12_isKept_22 mk_X12_isStrong nl_X12_172 (by omega) ⟨rfl, rfl, Nat.le_of_ble_eq_true rfl⟩ okX12 rfl (L_X12_isStrong q8) ?_
        refine E_if_ne (tgt := 49) d_X12_isKept_25 (by decide) h (fun _ h => ?_) (fun _ h => ?_)
        · refine E_aload_n d_X12_isKept_28 rfl (by decide) ?_
          refine bd h (fun r9 q10 h => ?_)
          refine E_cV (as := []) (st := []) (a := v0) d_X12_isKept_29 mk_X12_isGap nl_X12_175 (by omega) ⟨rfl, rfl, Nat.le_of_ble_eq_true rfl⟩ okX12 rfl (L_X12_isGap q10) ?_
          refine E_if_ne (tgt := 49) d_X12_isKept_32 (by decide) h (fun _ h => ?_) (fun _ h => ?_)
          · refine E_aload_n d_X12_isKept_35 rfl (by decide) ?_
            refine bd h (fun r11 q12 h => ?_)
            refine E_cV (as := []) (st := []) (a := v0) d_X12_isKept_36 mk_X12_isCrow nl_X12_178 (by omega) ⟨rfl, rfl, Nat.le_of_ble_eq_true rfl⟩ okX12 rfl (L_X12_isCrow q12) ?_
            refine E_if_ne (tgt := 49) d_X12_isKept_39 (by decide) h (fun _ h => ?_) (fun _ h => ?_)
            · refine E_aload_n d_X12_isKept_42 rfl (by decide) ?_
              refine bd h (fun r13 q14 h => ?_)
              refine E_cV (as := []) (st := []) (a := v0) d_X12_isKept_43 mk_X12_isOn nl_X12_181 (by omega) ⟨rfl, rfl, Nat.le_of_ble_eq_true rfl⟩ okX12 rfl (L_X12_isOn q14) ?_
              refine E_if_eq (tgt := 51) d_X12_isKept_46 (by decide) h (fun _ h => ?_) (fun _ h => ?_)
              · refine E_aload_n d_X12_isKept_51 rfl (by decide) ?_
                refine bd h (fun r15 q16 h => ?_)
                refine E_cV (as := []) (st := []) (a := v0) d_X12_isKept_52 mk_X12_sideWord nl_X12_184 (by omega) ⟨rfl, rfl, Nat.le_of_ble_eq_true rfl⟩ okX12 rfl (L_X12_sideWord q16) ?_
                refine E_if_ge (tgt := 79) d_X12_isKept_55 (by decide) h (fun _ h => ?_) (fun _ h => ?_)
                · exact E_weak (ls' := [(9, 0)]) ⟨Or.inl rfl, trivial⟩ (L_X12_isKept_b79 h)
                · refine E_aload_n d_X12_isKept_58 rfl (by decide) ?_
                  refine bd h (fun r17 q18 h => ?_)
                  refine E_cV (as := []) (st := []) (a := v0) d_X12_isKept_59 mk_X12_stepWord nl_X12_188 (by omega) ⟨rfl, rfl, Nat.le_of_ble_eq_true rfl⟩ okX12 rfl (L_X12_stepWord q18) ?_
                  refine E_if_ge (tgt := 79) d_X12_isKept_62 (by decide) h (fun _ h => ?_) (fun _ h => ?_)
                  · exact E_weak (ls' := [(9, 0)]) ⟨Or.inl rfl, trivial⟩ (L_X12_isKept_b79 h)
                  · refine E_aload_n d_X12_isKept_65 rfl (by decide) ?_
                    refine bd h (fun r19 q20 h => ?_)
                    refine E_cV (as := []) (st := []) (a := v0) d_X12_isKept_66 mk_X12_testWord nl_X12_191 (by omega) ⟨rfl, rfl, Nat.le_of_ble_eq_true rfl⟩ okX12 rfl (L_X12_testWord q20) ?_
                    refine E_if_ge (tgt := 79) d_X12_isKept_69 (by decide) h (fun _ h => ?_) (fun _ h => ?_)
                    · exact E_weak (ls' := [(9, 0)]) ⟨Or.inl rfl, trivial⟩ (L_X12_isKept_b79 h)
                    · refine E_aload_n d_X12_isKept_72 rfl (by decide) ?_
                      refine bd h (fun r21 q22 h => ?_)
                      refine E_cV (as := []) (st := []) (a := v0) d_X12_isKept_73 mk_X12_isEnd nl_X12_194 (by omega) ⟨rfl, rfl, Nat.le_of_ble_eq_true rfl⟩ okX12 rfl (L_X12_isEnd q22) ?_
                      refine E_if_eq (tgt := 83) d_X12_isKept_76 (by decide) h (fun _ h => ?_) (fun _ h => ?_)
                      · refine E_iconst d_X12_isKept_83 (c32 rfl) ?_
                        cases h
                        exact E_zret d_X12_isKept_84 rfl (Or.inl rfl)
                      · exact E_weak (ls' := [(9, 0)]) ⟨Or.inl rfl, trivial⟩ (L_X12_isKept_b79 h)
              · refine E_iconst d_X12_isKept_49 (c32 rfl) ?_
                cases h
                exact E_zret d_X12_isKept_50 rfl (Or.inr rfl)
            · refine E_iconst d_X12_isKept_49 (c32 rfl) ?_
              cases h
              exact E_zret d_X12_isKept_50 rfl (Or.inr rfl)
          · refine E_iconst d_X12_isKept_49 (c32 rfl) ?_
            cases h
            exact E_zret d_X12_isKept_50 rfl (Or.inr rfl)
        · refine E_iconst d_X12_isKept_49 (c32 rfl) ?_
          cases h
          exact E_zret d_X12_isKept_50 rfl (Or.inr rfl)
      · refine E_iconst d_X12_isKept_49 (c32 rfl) ?_
        cases h
        exact E_zret d_X12_isKept_50 rfl (Or.inr rfl)
    · refine E_iconst d_X12_isKept_49 (c32 rfl) ?_
      cases h
      exact E_zret d_X12_isKept_50 rfl (Or.inr rfl)
  · refine E_iconst d_X12_isKept_49 (c32 rfl) ?_
    cases h
    exact E_zret d_X12_isKept_50 rfl (Or.inr rfl)
noncomputable def f_X12_isKept (v0 : Int) (σ : Mem) : Option (Int) := if isO Sh 12 v0 = true then f_X12_isKept_b0 v0 σ else none
theorem L_X12_isKept {o : Int} {v0 : Int} {σ : Mem} (h : f_X12_isKept v0 σ = some o) : (isO Sh 12 v0 = true ∧ Cn mt_X12_isKept 4 [(2, v0)] Sh σ (some (0, o)) Sh σ) := ⟨(ite_ok h).1, Cn_of mk_X12_isKept.1.2.2.1 (Nat.le_of_ble_eq_true rfl) (fun sc => L_X12_isKept_b0 (ite_ok h).2)⟩
theorem d_X12_isName_0 : decode mt_X12_isName.2.1 0 = .ok (.aload_n 0, 1) := by decide +kernel
theorem d_X12_isName_1 : decode mt_X12_isName.2.1 1 = .ok (.getfield 124, 3) := by decide +kernel
theorem d_X12_isName_4 : decode mt_X12_isName.2.1 4 = .ok (.iconst 1, 1) := by decide +kernel
theorem d_X12_isName_5 : decode mt_X12_isName.2.1 5 = .ok (.if_icmp .ne 23, 3) := by decide +kernel
theorem d_X12_isName_8 : decode mt_X12_isName.2.1 8 = .ok (.aload_n 0, 1) := by decide +kernel
theorem d_X12_isName_9 : decode mt_X12_isName.2.1 9 = .ok (.getfield 137, 3) := by decide +kernel
theorem d_X12_isName_12 : decode mt_X12_isName.2.1 12 = .ok (.bipush 8, 2) := by decide +kernel
theorem d_X12_isName_14 : decode mt_X12_isName.2.1 14 = .ok (.if_icmp .gt 14, 3) := by decide +kernel
theorem d_X12_isName_17 : decode mt_X12_isName.2.1 17 = .ok (.aload_n 0, 1) := by decide +kernel
theorem d_X12_isName_18 : decode mt_X12_isName.2.1 18 = .ok (.invokevirtual 197, 3) := by decide +kernel
theorem d_X12_isName_21 : decode mt_X12_isName.2.1 21 = .ok (.ifCond .ne 7, 3) := by decide +kernel
theorem d_X12_isName_24 : decode mt_X12_isName.2.1 24 = .ok (.iconst 1, 1) := by decide +kernel
theorem d_X12_isName_25 : decode mt_X12_isName.2.1 25 = .ok (.goto 4, 3) := by decide +kernel
theorem d_X12_isName_28 : decode mt_X12_isName.2.1 28 = .ok (.iconst 0, 1) := by decide +kernel
theorem d_X12_isName_29 : decode mt_X12_isName.2.1 29 = .ok (.ireturn, 1) := by decide +kernel
noncomputable def f_X12_isName_b0 (v0 : Int) (σ : Mem) : Option (Int) :=
  (gf Sh σ 12 v0 14).bind fun x1 =>
  if x1 = 1 then
    (gf Sh σ 12 v0 18).bind fun x2 =>
    if 8 < x2 then
      some (0)
    else
      (f_X12_isKept v0 σ).bind fun r3 =>
      if r3 = 0 then
        some (1)
      else
        some (0)
  else
    some (0)
theorem L_X12_isName_b0 {sc : Nat × (Nat → Int32)} {o : Int} {σ : Mem} {v0 : Int} (h : f_X12_isName_b0 v0 σ = some o) : E sc (Fm Sh (some (0, o)) Sh σ) mt_X12_isName 5 Sh Sh 0 [(2, v0)] [] Sh σ := by
  unfold f_X12_isName_b0 at h
  refine E_aload_n d_X12_isName_0 rfl (by decide) ?_
  refine E_get d_X12_isName_1 okX12 fl_X12_124 ⟨by decide, rfl⟩ h (fun x1 h => ?_)
  refine E_iconst d_X12_isName_4 (c32 rfl) ?_
  refine E_icmp_ne (tgt := 28) d_X12_isName_5 (by decide) h (fun _ h => ?_) (fun _ h => ?_)
  · refine E_aload_n d_X12_isName_8 rfl (by decide) ?_
    refine E_get d_X12_isName_9 okX12 fl_X12_137 ⟨by decide, rfl⟩ h (fun x2 h => ?_)
    refine E_bipush d_X12_isName_12 (c8 rfl) ?_
    refine E_icmp_gt (tgt := 28) d_X12_isName_14 (by decide) h (fun _ h => ?_) (fun _ h => ?_)
    · refine E_iconst d_X12_isName_28 (c32 rfl) ?_
      cases h
      exact E_zret d_X12_isName_29 rfl (Or.inl rfl)
    · refine E_aload_n d_X12_isName_17 rfl (by decide) ?_
      refine bd h (fun r3 q4 h => ?_)
      refine E_cV (as := []) (st := []) (a := v0) d_X12_isName_18 mk_X12_isKept nl_X12_197 (by omega) ⟨rfl, rfl, Nat.le_of_ble_eq_true rfl⟩ okX12 rfl (L_X12_isKept q4) ?_
      refine E_if_ne (tgt := 28) d_X12_isName_21 (by decide) h (fun _ h => ?_) (fun _ h => ?_)
      · refine E_iconst d_X12_isName_24 (c32 rfl) ?_
        refine E_goto (tgt := 29) d_X12_isName_25 (by decide) ?_
        cases h
        exact E_zret d_X12_isName_29 rfl (Or.inr rfl)
      · refine E_iconst d_X12_isName_28 (c32 rfl) ?_
        cases h
        exact E_zret d_X12_isName_29 rfl (Or.inl rfl)
  · refine E_iconst d_X12_isName_28 (c32 rfl) ?_
    cases h
    exact E_zret d_X12_isName_29 rfl (Or.inl rfl)
noncomputable def f_X12_isName (v0 : Int) (σ : Mem) : Option (Int) := if isO Sh 12 v0 = true then f_X12_isName_b0 v0 σ else none
theorem L_X12_isName {o : Int} {v0 : Int} {σ : Mem} (h : f_X12_isName v0 σ = some o) : (isO Sh 12 v0 = true ∧ Cn mt_X12_isName 5 [(2, v0)] Sh σ (some (0, o)) Sh σ) := ⟨(ite_ok h).1, Cn_of mk_X12_isName.1.2.2.1 (Nat.le_of_ble_eq_true rfl) (fun sc => L_X12_isName_b0 (ite_ok h).2)⟩
theorem d_X12_named_0 : decode mt_X12_named.2.1 0 = .ok (.iconst 0, 1) := by decide +kernel
theorem d_X12_named_1 : decode mt_X12_named.2.1 1 = .ok (.istore_n 3, 1) := by decide +kernel
theorem d_X12_named_2 : decode mt_X12_named.2.1 2 = .ok (.iload_n 3, 1) := by decide +kernel
theorem d_X12_named_3 : decode mt_X12_named.2.1 3 = .ok (.aload_n 0, 1) := by decide +kernel
theorem d_X12_named_4 : decode mt_X12_named.2.1 4 = .ok (.getfield 35, 3) := by decide +kernel
theorem d_X12_named_7 : decode mt_X12_named.2.1 7 = .ok (.sipush 327, 3) := by decide +kernel
theorem d_X12_named_10 : decode mt_X12_named.2.1 10 = .ok (.iload_n 1, 1) := by decide +kernel
theorem d_X12_named_11 : decode mt_X12_named.2.1 11 = .ok (.imul, 1) := by decide +kernel
theorem d_X12_named_12 : decode mt_X12_named.2.1 12 = .ok (.iload_n 2, 1) := by decide +kernel
theorem d_X12_named_13 : decode mt_X12_named.2.1 13 = .ok (.iadd, 1) := by decide +kernel
theorem d_X12_named_14 : decode mt_X12_named.2.1 14 = .ok (.iaload, 1) := by decide +kernel
theorem d_X12_named_15 : decode mt_X12_named.2.1 15 = .ok (.if_icmp .ge 35, 3) := by decide +kernel
theorem d_X12_named_18 : decode mt_X12_named.2.1 18 = .ok (.aload_n 0, 1) := by decide +kernel
theorem d_X12_named_19 : decode mt_X12_named.2.1 19 = .ok (.getfield 41, 3) := by decide +kernel
theorem d_X12_named_22 : decode mt_X12_named.2.1 22 = .ok (.bipush 14, 2) := by decide +kernel
theorem d_X12_named_24 : decode mt_X12_named.2.1 24 = .ok (.iload_n 1, 1) := by decide +kernel
theorem d_X12_named_25 : decode mt_X12_named.2.1 25 = .ok (.imul, 1) := by decide +kernel
theorem d_X12_named_26 : decode mt_X12_named.2.1 26 = .ok (.bipush 10, 2) := by decide +kernel
theorem d_X12_named_28 : decode mt_X12_named.2.1 28 = .ok (.iload_n 2, 1) := by decide +kernel
theorem d_X12_named_29 : decode mt_X12_named.2.1 29 = .ok (.imul, 1) := by decide +kernel
theorem d_X12_named_30 : decode mt_X12_named.2.1 30 = .ok (.iadd, 1) := by decide +kernel
theorem d_X12_named_31 : decode mt_X12_named.2.1 31 = .ok (.iload_n 3, 1) := by decide +kernel
theorem d_X12_named_32 : decode mt_X12_named.2.1 32 = .ok (.iadd, 1) := by decide +kernel
theorem d_X12_named_33 : decode mt_X12_named.2.1 33 = .ok (.laload, 1) := by decide +kernel
theorem d_X12_named_34 : decode mt_X12_named.2.1 34 = .ok (.aload_n 0, 1) := by decide +kernel
theorem d_X12_named_35 : decode mt_X12_named.2.1 35 = .ok (.getfield 130, 3) := by decide +kernel
theorem d_X12_named_38 : decode mt_X12_named.2.1 38 = .ok (.lcmp, 1) := by decide +kernel
theorem d_X12_named_39 : decode mt_X12_named.2.1 39 = .ok (.ifCond .ne 5, 3) := by decide +kernel
theorem d_X12_named_42 : decode mt_X12_named.2.1 42 = .ok (.iload_n 3, 1) := by decide +kernel
theorem d_X12_named_43 : decode mt_X12_named.2.1 43 = .ok (.ireturn, 1) := by decide +kernel
theorem d_X12_named_44 : decode mt_X12_named.2.1 44 = .ok (.iinc 3 1, 3) := by decide +kernel
theorem d_X12_named_47 : decode mt_X12_named.2.1 47 = .ok (.goto (-45), 3) := by decide +kernel
theorem d_X12_named_50 : decode mt_X12_named.2.1 50 = .ok (.iconst (-1), 1) := by decide +kernel
theorem d_X12_named_51 : decode mt_X12_named.2.1 51 = .ok (.ireturn, 1) := by decide +kernel
noncomputable def f_X12_named_b2 (k2 : (Int → Int → Int → Int → Mem → Option (Int))) (v0 v1 v2 v3 : Int) (σ : Mem) : Option (Int) :=
  (gf Sh σ 12 v0 20).bind fun x1 =>
  (al Sh σ 20 x1 (w32 (w32 (327 * v1) + v2))).bind fun x2 =>
  if x2 ≤ v3 then
    some ((-1))
  else
    (gf Sh σ 12 v0 22).bind fun x3 =>
    (al Sh σ 21 x3 (w32 (w32 (w32 (14 * v1) + (w32 (10 * v2))) + v3))).bind fun x4 =>
    (gf Sh σ 12 v0 19).bind fun x5 =>
    if lcmp x4 x5 = 0 then
      some (v3)
    else
      k2 v0 v1 v2 (w32 (v3 + 1)) σ
theorem L_X12_named_b2 {sc : Nat × (Nat → Int32)} {o : Int} {σ : Mem} {k2 : (Int → Int → Int → Int → Mem → Option (Int))} (hk2 : ∀ {v0 v1 v2 v3 : Int}, k2 v0 v1 v2 v3 σ = some o → E sc (Fm Sh (some (0, o)) Sh σ) mt_X12_named 1 Sh Sh 2 [(2, v0), (0, v1), (0, v2), (0, v3)] [] Sh σ) {v0 v1 v2 v3 : Int} (h : f_X12_named_b2 k2 v0 v1 v2 v3 σ = some o) : E sc (Fm Sh (some (0, o)) Sh σ) mt_X12_named 1 Sh Sh 2 [(2, v0), (0, v1), (0, v2), (0, v3)] [] Sh σ := by
  unfold f_X12_named_b2 at h
  refine E_iload_n d_X12_named_2 rfl ?_
  refine E_aload_n d_X12_named_3 rfl (by decide) ?_
  refine E_get d_X12_named_4 okX12 fl_X12_35 ⟨by decide, rfl⟩ h (fun x1 h => ?_)
  refine E_sipush d_X12_named_7 (c16 rfl) ?_
  refine E_iload_n d_X12_named_10 rfl ?_
  refine E_imul d_X12_named_11 ?_
  refine E_iload_n d_X12_named_12 rfl ?_
  refine E_iadd d_X12_named_13 ?_
  refine E_iaload d_X12_named_14 h (fun x2 h => ?_)
  refine E_icmp_ge (tgt := 50) d_X12_named_15 (by decide) h (fun _ h => ?_) (fun _ h => ?_)
  · refine E_iconst d_X12_named_50 (c32 rfl) ?_
    cases h
    exact E_iret d_X12_named_51 rfl
  · refine E_aload_n d_X12_named_18 rfl (by decide) ?_
    refine E_get d_X12_named_19 okX12 fl_X12_41 ⟨by decide, rfl⟩ h (fun x3 h => ?_)
    refine E_bipush d_X12_named_22 (c8 rfl) ?_
    refine E_iload_n d_X12_named_24 rfl ?_
    refine E_imul d_X12_named_25 ?_
    refine E_bipush d_X12_named_26 (c8 rfl) ?_
    refine E_iload_n d_X12_named_28 rfl ?_
    refine E_imul d_X12_named_29 ?_
    refine E_iadd d_X12_named_30 ?_
    refine E_iload_n d_X12_named_31 rfl ?_
    refine E_iadd d_X12_named_32 ?_
    refine E_laload d_X12_named_33 h (fun x4 h => ?_)
    refine E_aload_n d_X12_named_34 rfl (by decide) ?_
    refine E_get d_X12_named_35 okX12 fl_X12_130 ⟨by decide, rfl⟩ h (fun x5 h => ?_)
    refine E_lcmp d_X12_named_38 ?_
    refine E_if_ne (tgt := 44) d_X12_named_39 (by decide) h (fun _ h => ?_) (fun _ h => ?_)
    · refine E_iload_n d_X12_named_42 rfl ?_
      cases h
      exact E_iret d_X12_named_43 rfl
    · refine E_iinc d_X12_named_44 (ls' := [(2, v0), (0, v1), (0, v2), (0, w32 (v3 + 1))]) rfl ⟨by decide, rfl⟩ ?_
      refine E_goto (tgt := 2) d_X12_named_47 (by decide) ?_
      exact (hk2 h)
noncomputable def f_X12_named_h2 (n : Nat) : Int → Int → Int → Int → Mem → Option (Int) := Nat.rec (motive := fun _ => Int → Int → Int → Int → Mem → Option (Int)) (fun _ _ _ _ _ => none) (fun _ ih => f_X12_named_b2 (ih)) n
theorem L_X12_named_h2 {sc : Nat × (Nat → Int32)} {o : Int} {σ : Mem} : ∀ (n : Nat) {v0 v1 v2 v3 : Int}, f_X12_named_h2 n v0 v1 v2 v3 σ = some o → E sc (Fm Sh (some (0, o)) Sh σ) mt_X12_named 1 Sh Sh 2 [(2, v0), (0, v1), (0, v2), (0, v3)] [] Sh σ := by
  intro n
  induction n with
  | zero => intro v0 v1 v2 v3 h; cases h
  | succ n ih => intro v0 v1 v2 v3 h; exact L_X12_named_b2 (@ih) h
noncomputable def f_X12_named_b0 (v0 v1 v2 : Int) (σ : Mem) : Option (Int) :=
  f_X12_named_h2 FU v0 v1 v2 0 σ
theorem L_X12_named_b0 {sc : Nat × (Nat → Int32)} {o : Int} {σ : Mem} {v0 v1 v2 : Int} (h : f_X12_named_b0 v0 v1 v2 σ = some o) : E sc (Fm Sh (some (0, o)) Sh σ) mt_X12_named 1 Sh Sh 0 [(2, v0), (0, v1), (0, v2), (9, 0)] [] Sh σ := by
  unfold f_X12_named_b0 at h
  refine E_iconst d_X12_named_0 (c32 rfl) ?_
  refine E_istore_n d_X12_named_1 (ls' := [(2, v0), (0, v1), (0, v2), (0, 0)]) ⟨by decide, rfl⟩ ?_
  exact (L_X12_named_h2 FU h)
noncomputable def f_X12_named (v0 v1 v2 : Int) (σ : Mem) : Option (Int) := if isO Sh 12 v0 = true then f_X12_named_b0 v0 v1 v2 σ else none
theorem L_X12_named {o : Int} {v0 v1 v2 : Int} {σ : Mem} (h : f_X12_named v0 v1 v2 σ = some o) : (isO Sh 12 v0 = true ∧ Cn mt_X12_named 1 [(2, v0), (0, v1), (0, v2)] Sh σ (some (0, o)) Sh σ) := ⟨(ite_ok h).1, Cn_of mk_X12_named.1.2.2.1 (Nat.le_of_ble_eq_true rfl) (fun sc => L_X12_named_b0 (ite_ok h).2)⟩
theorem d_X12_readNew_0 : decode mt_X12_readNew.2.1 0 = .ok (.aload_n 0, 1) := by decide +kernel
theorem d_X12_readNew_1 : decode mt_X12_readNew.2.1 1 = .ok (.getfield 35, 3) := by decide +kernel
theorem d_X12_readNew_4 : decode mt_X12_readNew.2.1 4 = .ok (.sipush 1308, 3) := by decide +kernel
theorem d_X12_readNew_7 : decode mt_X12_readNew.2.1 7 = .ok (.iload_n 1, 1) := by decide +kernel
theorem d_X12_readNew_8 : decode mt_X12_readNew.2.1 8 = .ok (.iadd, 1) := by decide +kernel
theorem d_X12_readNew_9 : decode mt_X12_readNew.2.1 9 = .ok (.iaload, 1) := by decide +kernel
theorem d_X12_readNew_10 : decode mt_X12_readNew.2.1 10 = .ok (.istore_n 3, 1) := by decide +kernel
theorem d_X12_readNew_11 : decode mt_X12_readNew.2.1 11 = .ok (.iload_n 3, 1) := by decide +kernel
theorem d_X12_readNew_12 : decode mt_X12_readNew.2.1 12 = .ok (.iload_n 2, 1) := by decide +kernel
theorem d_X12_readNew_13 : decode mt_X12_readNew.2.1 13 = .ok (.if_icmp .ne 13, 3) := by decide +kernel
theorem d_X12_readNew_16 : decode mt_X12_readNew.2.1 16 = .ok (.aload_n 0, 1) := by decide +kernel
theorem d_X12_readNew_17 : decode mt_X12_readNew.2.1 17 = .ok (.bipush 6, 2) := by decide +kernel
theorem d_X12_readNew_19 : decode mt_X12_readNew.2.1 19 = .ok (.aload_n 0, 1) := by decide +kernel
theorem d_X12_readNew_20 : decode mt_X12_readNew.2.1 20 = .ok (.getfield 118, 3) := by decide +kernel
theorem d_X12_readNew_23 : decode mt_X12_readNew.2.1 23 = .ok (.invokevirtual 206, 3) := by decide +kernel
theorem d_X12_readNew_26 : decode mt_X12_readNew.2.1 26 = .ok (.aload_n 0, 1) := by decide +kernel
theorem d_X12_readNew_27 : decode mt_X12_readNew.2.1 27 = .ok (.getfield 200, 3) := by decide +kernel
theorem d_X12_readNew_30 : decode mt_X12_readNew.2.1 30 = .ok (.ifCond .le 5, 3) := by decide +kernel
theorem d_X12_readNew_33 : decode mt_X12_readNew.2.1 33 = .ok (.iconst 0, 1) := by decide +kernel
theorem d_X12_readNew_34 : decode mt_X12_readNew.2.1 34 = .ok (.ireturn, 1) := by decide +kernel
theorem d_X12_readNew_35 : decode mt_X12_readNew.2.1 35 = .ok (.aload_n 0, 1) := by decide +kernel
theorem d_X12_readNew_36 : decode mt_X12_readNew.2.1 36 = .ok (.invokevirtual 210, 3) := by decide +kernel
theorem d_X12_readNew_39 : decode mt_X12_readNew.2.1 39 = .ok (.aload_n 0, 1) := by decide +kernel
theorem d_X12_readNew_40 : decode mt_X12_readNew.2.1 40 = .ok (.invokevirtual 229, 3) := by decide +kernel
theorem d_X12_readNew_43 : decode mt_X12_readNew.2.1 43 = .ok (.ifCond .ne 7, 3) := by decide +kernel
theorem d_X12_readNew_46 : decode mt_X12_readNew.2.1 46 = .ok (.aload_n 0, 1) := by decide +kernel
theorem d_X12_readNew_47 : decode mt_X12_readNew.2.1 47 = .ok (.invokevirtual 213, 3) := by decide +kernel
theorem d_X12_readNew_50 : decode mt_X12_readNew.2.1 50 = .ok (.aload_n 0, 1) := by decide +kernel
theorem d_X12_readNew_51 : decode mt_X12_readNew.2.1 51 = .ok (.getfield 200, 3) := by decide +kernel
theorem d_X12_readNew_54 : decode mt_X12_readNew.2.1 54 = .ok (.ifCond .ne 30, 3) := by decide +kernel
theorem d_X12_readNew_57 : decode mt_X12_readNew.2.1 57 = .ok (.aload_n 0, 1) := by decide +kernel
theorem d_X12_readNew_58 : decode mt_X12_readNew.2.1 58 = .ok (.iconst 4, 1) := by decide +kernel
theorem d_X12_readNew_59 : decode mt_X12_readNew.2.1 59 = .ok (.iconst 0, 1) := by decide +kernel
theorem d_X12_readNew_60 : decode mt_X12_readNew.2.1 60 = .ok (.invokevirtual 232, 3) := by decide +kernel
theorem d_X12_readNew_63 : decode mt_X12_readNew.2.1 63 = .ok (.ifCond .ge 12, 3) := by decide +kernel
theorem d_X12_readNew_66 : decode mt_X12_readNew.2.1 66 = .ok (.aload_n 0, 1) := by decide +kernel
theorem d_X12_readNew_67 : decode mt_X12_readNew.2.1 67 = .ok (.iconst 4, 1) := by decide +kernel
theorem d_X12_readNew_68 : decode mt_X12_readNew.2.1 68 = .ok (.iconst 1, 1) := by decide +kernel
theorem d_X12_readNew_69 : decode mt_X12_readNew.2.1 69 = .ok (.invokevirtual 232, 3) := by decide +kernel
theorem d_X12_readNew_72 : decode mt_X12_readNew.2.1 72 = .ok (.ifCond .lt 12, 3) := by decide +kernel
theorem d_X12_readNew_75 : decode mt_X12_readNew.2.1 75 = .ok (.aload_n 0, 1) := by decide +kernel
theorem d_X12_readNew_76 : decode mt_X12_readNew.2.1 76 = .ok (.iconst 3, 1) := by decide +kernel
theorem d_X12_readNew_77 : decode mt_X12_readNew.2.1 77 = .ok (.aload_n 0, 1) := by decide +kernel
theorem d_X12_readNew_78 : decode mt_X12_readNew.2.1 78 = .ok (.getfield 118, 3) := by decide +kernel
theorem d_X12_readNew_81 : decode mt_X12_readNew.2.1 81 = .ok (.invokevirtual 206, 3) := by decide +kernel
theorem d_X12_readNew_84 : decode mt_X12_readNew.2.1 84 = .ok (.aload_n 0, 1) := by decide +kernel
theorem d_X12_readNew_85 : decode mt_X12_readNew.2.1 85 = .ok (.getfield 200, 3) := by decide +kernel
theorem d_X12_readNew_88 : decode mt_X12_readNew.2.1 88 = .ok (.ifCond .le 5, 3) := by decide +kernel
theorem d_X12_readNew_91 : decode mt_X12_readNew.2.1 91 = .ok (.iconst 0, 1) := by decide +kernel
theorem d_X12_readNew_92 : decode mt_X12_readNew.2.1 92 = .ok (.ireturn, 1) := by decide +kernel
theorem d_X12_readNew_93 : decode mt_X12_readNew.2.1 93 = .ok (.aload_n 0, 1) := by decide +kernel
theorem d_X12_readNew_94 : decode mt_X12_readNew.2.1 94 = .ok (.getfield 41, 3) := by decide +kernel
theorem d_X12_readNew_97 : decode mt_X12_readNew.2.1 97 = .ok (.bipush 56, 2) := by decide +kernel
theorem d_X12_readNew_99 : decode mt_X12_readNew.2.1 99 = .ok (.bipush 10, 2) := by decide +kernel
theorem d_X12_readNew_101 : decode mt_X12_readNew.2.1 101 = .ok (.iload_n 1, 1) := by decide +kernel
theorem d_X12_readNew_102 : decode mt_X12_readNew.2.1 102 = .ok (.imul, 1) := by decide +kernel
theorem d_X12_readNew_103 : decode mt_X12_readNew.2.1 103 = .ok (.iadd, 1) := by decide +kernel
theorem d_X12_readNew_104 : decode mt_X12_readNew.2.1 104 = .ok (.iload_n 3, 1) := by decide +kernel
theorem d_X12_readNew_105 : decode mt_X12_readNew.2.1 105 = .ok (.iadd, 1) := by decide +kernel
theorem d_X12_readNew_106 : decode mt_X12_readNew.2.1 106 = .ok (.aload_n 0, 1) := by decide +kernel
theorem d_X12_readNew_107 : decode mt_X12_readNew.2.1 107 = .ok (.getfield 130, 3) := by decide +kernel
theorem d_X12_readNew_110 : decode mt_X12_readNew.2.1 110 = .ok (.lastore, 1) := by decide +kernel
theorem d_X12_readNew_111 : decode mt_X12_readNew.2.1 111 = .ok (.aload_n 0, 1) := by decide +kernel
theorem d_X12_readNew_112 : decode mt_X12_readNew.2.1 112 = .ok (.invokevirtual 210, 3) := by decide +kernel
theorem d_X12_readNew_115 : decode mt_X12_readNew.2.1 115 = .ok (.iload_n 3, 1) := by decide +kernel
theorem d_X12_readNew_116 : decode mt_X12_readNew.2.1 116 = .ok (.ireturn, 1) := by decide +kernel
noncomputable def f_X12_readNew_b84 (v0 v1 v3 : Int) (σ : Mem) : Option (Int × Mem) :=
  (gf Sh σ 12 v0 12).bind fun x18 =>
  if x18 ≤ 0 then
    (gf Sh σ 12 v0 22).bind fun x19 =>
    (gf Sh σ 12 v0 19).bind fun x20 =>
    (st_ Sh σ 21 x19 (w32 (w32 (56 + (w32 (10 * v1))) + v3)) x20).bind fun σ21 =>
    (f_X12_advance v0 σ21).bind fun r22 =>
    some (v3, r22)
  else
    some (0, σ)
theorem L_X12_readNew_b84 {sc : Nat × (Nat → Int32)} {o : Int × Mem} {v0 v1 v3 : Int} {σ : Mem} (h : f_X12_readNew_b84 v0 v1 v3 σ = some o) : E sc (Fm Sh (some (0, o.1)) Sh o.2) mt_X12_readNew 6 Sh Sh 84 [(2, v0), (0, v1), (9, 0), (0, v3)] [] Sh σ := by
  unfold f_X12_readNew_b84 at h
  refine E_aload_n d_X12_readNew_84 rfl (by decide) ?_
  refine E_get d_X12_readNew_85 okX12 fl_X12_200 ⟨by decide, rfl⟩ h (fun x18 h => ?_)
  refine E_if_le (tgt := 93) d_X12_readNew_88 (by decide) h (fun _ h => ?_) (fun _ h => ?_)
  · refine E_aload_n d_X12_readNew_93 rfl (by decide) ?_
    refine E_get d_X12_readNew_94 okX12 fl_X12_41 ⟨by decide, rfl⟩ h (fun x19 h => ?_)
    refine E_bipush d_X12_readNew_97 (c8 rfl) ?_
    refine E_bipush d_X12_readNew_99 (c8 rfl) ?_
    refine E_iload_n d_X12_readNew_101 rfl ?_
    refine E_imul d_X12_readNew_102 ?_
    refine E_iadd d_X12_readNew_103 ?_
    refine E_iload_n d_X12_readNew_104 rfl ?_
    refine E_iadd d_X12_readNew_105 ?_
    refine E_aload_n d_X12_readNew_106 rfl (by decide) ?_
    refine E_get d_X12_readNew_107 okX12 fl_X12_130 ⟨by decide, rfl⟩ h (fun x20 h => ?_)
    refine E_lastore d_X12_readNew_110 h (fun σ21 h => ?_)
    refine E_aload_n d_X12_readNew_111 rfl (by decide) ?_
    refine bd h (fun r22 q23 h => ?_)
    refine E_cVv (as := []) (st := []) (a := v0) d_X12_readNew_112 mk_X12_advance nl_X12_210 (by omega) ⟨rfl, rfl, Nat.le_of_ble_eq_true rfl⟩ okX12 rfl (L_X12_advance q23) ?_
    refine E_iload_n d_X12_readNew_115 rfl ?_
    cases h
    exact E_iret d_X12_readNew_116 rfl
  · refine E_iconst d_X12_readNew_91 (c32 rfl) ?_
    cases h
    exact E_iret d_X12_readNew_92 rfl
noncomputable def f_X12_readNew_b75 (v0 v1 v3 : Int) (σ : Mem) : Option (Int × Mem) :=
  (gf Sh σ 12 v0 15).bind fun x24 =>
  (f_X12_fail v0 3 x24 σ).bind fun r25 =>
  f_X12_readNew_b84 v0 v1 v3 r25
theorem L_X12_readNew_b75 {sc : Nat × (Nat → Int32)} {o : Int × Mem} {v0 v1 v3 : Int} {σ : Mem} (h : f_X12_readNew_b75 v0 v1 v3 σ = some o) : E sc (Fm Sh (some (0, o.1)) Sh o.2) mt_X12_readNew 6 Sh Sh 75 [(2, v0), (0, v1), (9, 0), (0, v3)] [] Sh σ := by
  unfold f_X12_readNew_b75 at h
  refine E_aload_n d_X12_readNew_75 rfl (by decide) ?_
  refine E_iconst d_X12_readNew_76 (c32 rfl) ?_
  refine E_aload_n d_X12_readNew_77 rfl (by decide) ?_
  refine E_get d_X12_readNew_78 okX12 fl_X12_118 ⟨by decide, rfl⟩ h (fun x24 h => ?_)
  refine bd h (fun r25 q26 h => ?_)
  refine E_cVv (as := [(0, 3), (0, x24)]) (st := []) (a := v0) d_X12_readNew_81 mk_X12_fail nl_X12_206 (by omega) ⟨rfl, rfl, Nat.le_of_ble_eq_true rfl⟩ okX12 rfl (L_X12_fail q26) ?_
  exact (L_X12_readNew_b84 h)
noncomputable def f_X12_readNew_b50 (v0 v1 v3 : Int) (σ : Mem) : Option (Int × Mem) :=
  (gf Sh σ 12 v0 12).bind fun x13 =>
  if x13 = 0 then
    (f_X12_named v0 4 0 σ).bind fun r14 =>
    if 0 ≤ r14 then
      f_X12_readNew_b75 v0 v1 v3 σ
    else
      (f_X12_named v0 4 1 σ).bind fun r16 =>
      if r16 < 0 then
        f_X12_readNew_b84 v0 v1 v3 σ
      else
        f_X12_readNew_b75 v0 v1 v3 σ
  else
    f_X12_readNew_b84 v0 v1 v3 σ
theorem L_X12_readNew_b50 {sc : Nat × (Nat → Int32)} {o : Int × Mem} {v0 v1 v3 : Int} {σ : Mem} (h : f_X12_readNew_b50 v0 v1 v3 σ = some o) : E sc (Fm Sh (some (0, o.1)) Sh o.2) mt_X12_readNew 6 Sh Sh 50 [(2, v0), (0, v1), (9, 0), (0, v3)] [] Sh σ := by
  unfold f_X12_readNew_b50 at h
  refine E_aload_n d_X12_readNew_50 rfl (by decide) ?_
  refine E_get d_X12_readNew_51 okX12 fl_X12_200 ⟨by decide, rfl⟩ h (fun x13 h => ?_)
  refine E_if_ne (tgt := 84) d_X12_readNew_54 (by decide) h (fun _ h => ?_) (fun _ h => ?_)
  · refine E_aload_n d_X12_readNew_57 rfl (by decide) ?_
    refine E_iconst d_X12_readNew_58 (c32 rfl) ?_
    refine E_iconst d_X12_readNew_59 (c32 rfl) ?_
    refine bd h (fun r14 q15 h => ?_)
    refine E_cV (as := [(0, 4), (0, 0)]) (st := []) (a := v0) d_X12_readNew_60 mk_X12_named nl_X12_232 (by omega) ⟨rfl, rfl, Nat.le_of_ble_eq_true rfl⟩ okX12 rfl (L_X12_named q15) ?_
    refine E_if_ge (tgt := 75) d_X12_readNew_63 (by decide) h (fun _ h => ?_) (fun _ h => ?_)
    · exact (L_X12_readNew_b75 h)
    · refine E_aload_n d_X12_readNew_66 rfl (by decide) ?_
      refine E_iconst d_X12_readNew_67 (c32 rfl) ?_
      refine E_iconst d_X12_readNew_68 (c32 rfl) ?_
      refine bd h (fun r16 q17 h => ?_)
      refine E_cV (as := [(0, 4), (0, 1)]) (st := []) (a := v0) d_X12_readNew_69 mk_X12_named nl_X12_232 (by omega) ⟨rfl, rfl, Nat.le_of_ble_eq_true rfl⟩ okX12 rfl (L_X12_named q17) ?_
      refine E_if_lt (tgt := 84) d_X12_readNew_72 (by decide) h (fun _ h => ?_) (fun _ h => ?_)
      · exact (L_X12_readNew_b84 h)
      · exact (L_X12_readNew_b75 h)
  · exact (L_X12_readNew_b84 h)
noncomputable def f_X12_readNew_b26 (v0 v1 v3 : Int) (σ : Mem) : Option (Int × Mem) :=
  (gf Sh σ 12 v0 12).bind fun x6 =>
  if x6 ≤ 0 then
    (f_X12_advance v0 σ).bind fun r7 =>
    (f_X12_isName v0 r7).bind fun r9 =>
    if r9 = 0 then
      (f_X12_amiss v0 r7).bind fun r11 =>
      f_X12_readNew_b50 v0 v1 v3 r11
    else
      f_X12_readNew_b50 v0 v1 v3 r7
  else
    some (0, σ)
theorem L_X12_readNew_b26 {sc : Nat × (Nat → Int32)} {o : Int × Mem} {v0 v1 v3 : Int} {σ : Mem} (h : f_X12_readNew_b26 v0 v1 v3 σ = some o) : E sc (Fm Sh (some (0, o.1)) Sh o.2) mt_X12_readNew 6 Sh Sh 26 [(2, v0), (0, v1), (9, 0), (0, v3)] [] Sh σ := by
  unfold f_X12_readNew_b26 at h
  refine E_aload_n d_X12_readNew_26 rfl (by decide) ?_
  refine E_get d_X12_readNew_27 okX12 fl_X12_200 ⟨by decide, rfl⟩ h (fun x6 h => ?_)
  refine E_if_le (tgt := 35) d_X12_readNew_30 (by decide) h (fun _ h => ?_) (fun _ h => ?_)
  · refine E_aload_n d_X12_readNew_35 rfl (by decide) ?_
    refine bd h (fun r7 q8 h => ?_)
    refine E_cVv (as := []) (st := []) (a := v0) d_X12_readNew_36 mk_X12_advance nl_X12_210 (by omega) ⟨rfl, rfl, Nat.le_of_ble_eq_true rfl⟩ okX12 rfl (L_X12_advance q8) ?_
    refine E_aload_n d_X12_readNew_39 rfl (by decide) ?_
    refine bd h (fun r9 q10 h => ?_)
    refine E_cV (as := []) (st := []) (a := v0) d_X12_readNew_40 mk_X12_isName nl_X12_229 (by omega) ⟨rfl, rfl, Nat.le_of_ble_eq_true rfl⟩ okX12 rfl (L_X12_isName q10) ?_
    refine E_if_ne (tgt := 50) d_X12_readNew_43 (by decide) h (fun _ h => ?_) (fun _ h => ?_)
    · refine E_aload_n d_X12_readNew_46 rfl (by decide) ?_
      refine bd h (fun r11 q12 h => ?_)
      refine E_cVv (as := []) (st := []) (a := v0) d_X12_readNew_47 mk_X12_amiss nl_X12_213 (by omega) ⟨rfl, rfl, Nat.le_of_ble_eq_true rfl⟩ okX12 rfl (L_X12_amiss q12) ?_
      exact (L_X12_readNew_b50 h)
    · exact (L_X12_readNew_b50 h)
  · refine E_iconst d_X12_readNew_33 (c32 rfl) ?_
    cases h
    exact E_iret d_X12_readNew_34 rfl
noncomputable def f_X12_readNew_b0 (v0 v1 v2 : Int) (σ : Mem) : Option (Int × Mem) :=
  (gf Sh σ 12 v0 20).bind fun x1 =>
  (al Sh σ 20 x1 (w32 (1308 + v1))).bind fun x2 =>
  if x2 = v2 then
    (gf Sh σ 12 v0 15).bind fun x3 =>
    (f_X12_fail v0 6 x3 σ).bind fun r4 =>
    f_X12_readNew_b26 v0 v1 x2 r4
  else
    f_X12_readNew_b26 v0 v1 x2 σ
theorem L_X12_readNew_b0 {sc : Nat × (Nat → Int32)} {o : Int × Mem} {v0 v1 v2 : Int} {σ : Mem} (h : f_X12_readNew_b0 v0 v1 v2 σ = some o) : E sc (Fm Sh (some (0, o.1)) Sh o.2) mt_X12_readNew 6 Sh Sh 0 [(2, v0), (0, v1), (0, v2), (9, 0)] [] Sh σ := by
  unfold f_X12_readNew_b0 at h
  refine E_aload_n d_X12_readNew_0 rfl (by decide) ?_
  refine E_get d_X12_readNew_1 okX12 fl_X12_35 ⟨by decide, rfl⟩ h (fun x1 h => ?_)
  refine E_sipush d_X12_readNew_4 (c16 rfl) ?_
  refine E_iload_n d_X12_readNew_7 rfl ?_
  refine E_iadd d_X12_readNew_8 ?_
  refine E_iaload d_X12_readNew_9 h (fun x2 h => ?_)
  refine E_istore_n d_X12_readNew_10 (ls' := [(2, v0), (0, v1), (0, v2), (0, x2)]) ⟨by decide, rfl⟩ ?_
  refine E_iload_n d_X12_readNew_11 rfl ?_
  refine E_iload_n d_X12_readNew_12 rfl ?_
  refine E_icmp_ne (tgt := 26) d_X12_readNew_13 (by decide) h (fun _ h => ?_) (fun _ h => ?_)
  · refine E_aload_n d_X12_readNew_16 rfl (by decide) ?_
    refine E_bipush d_X12_readNew_17 (c8 rfl) ?_
    refine E_aload_n d_X12_readNew_19 rfl (by decide) ?_
    refine E_get d_X12_readNew_20 okX12 fl_X12_118 ⟨by decide, rfl⟩ h (fun x3 h => ?_)
    refine bd h (fun r4 q5 h => ?_)
    refine E_cVv (as := [(0, 6), (0, x3)]) (st := []) (a := v0) d_X12_readNew_23 mk_X12_fail nl_X12_206 (by omega) ⟨rfl, rfl, Nat.le_of_ble_eq_true rfl⟩ okX12 rfl (L_X12_fail q5) ?_
    exact E_weak (ls' := [(2, v0), (0, v1), (9, 0), (0, x2)]) ⟨Or.inr rfl, Or.inr rfl, Or.inl rfl, Or.inr rfl, trivial⟩ (L_X12_readNew_b26 h)
  · exact E_weak (ls' := [(2, v0), (0, v1), (9, 0), (0, x2)]) ⟨Or.inr rfl, Or.inr rfl, Or.inl rfl, Or.inr rfl, trivial⟩ (L_X12_readNew_b26 h)
noncomputable def f_X12_readNew (v0 v1 v2 : Int) (σ : Mem) : Option (Int × Mem) := if isO Sh 12 v0 = true then f_X12_readNew_b0 v0 v1 v2 σ else none
theorem L_X12_readNew {o : Int × Mem} {v0 v1 v2 : Int} {σ : Mem} (h : f_X12_readNew v0 v1 v2 σ = some o) : (isO Sh 12 v0 = true ∧ Cn mt_X12_readNew 6 [(2, v0), (0, v1), (0, v2)] Sh σ (some (0, o.1)) Sh o.2) := ⟨(ite_ok h).1, Cn_of mk_X12_readNew.1.2.2.1 (Nat.le_of_ble_eq_true rfl) (fun sc => L_X12_readNew_b0 (ite_ok h).2)⟩
theorem d_X12_must_0 : decode mt_X12_must.2.1 0 = .ok (.aload_n 0, 1) := by decide +kernel
theorem d_X12_must_1 : decode mt_X12_must.2.1 1 = .ok (.getfield 200, 3) := by decide +kernel
theorem d_X12_must_4 : decode mt_X12_must.2.1 4 = .ok (.ifCond .le 4, 3) := by decide +kernel
theorem d_X12_must_7 : decode mt_X12_must.2.1 7 = .ok (.return_, 1) := by decide +kernel
theorem d_X12_must_8 : decode mt_X12_must.2.1 8 = .ok (.iload_n 1, 1) := by decide +kernel
theorem d_X12_must_9 : decode mt_X12_must.2.1 9 = .ok (.ifCond .eq 10, 3) := by decide +kernel
theorem d_X12_must_12 : decode mt_X12_must.2.1 12 = .ok (.aload_n 0, 1) := by decide +kernel
theorem d_X12_must_13 : decode mt_X12_must.2.1 13 = .ok (.invokevirtual 210, 3) := by decide +kernel
theorem d_X12_must_16 : decode mt_X12_must.2.1 16 = .ok (.goto 7, 3) := by decide +kernel
theorem d_X12_must_19 : decode mt_X12_must.2.1 19 = .ok (.aload_n 0, 1) := by decide +kernel
theorem d_X12_must_20 : decode mt_X12_must.2.1 20 = .ok (.invokevirtual 213, 3) := by decide +kernel
theorem d_X12_must_23 : decode mt_X12_must.2.1 23 = .ok (.return_, 1) := by decide +kernel
noncomputable def f_X12_must_b0 (v0 v1 : Int) (σ : Mem) : Option (Mem) :=
  (gf Sh σ 12 v0 12).bind fun x1 =>
  if x1 ≤ 0 then
    if v1 = 0 then
      (f_X12_amiss v0 σ).bind fun r2 =>
      some r2
    else
      (f_X12_advance v0 σ).bind fun r4 =>
      some r4
  else
    some σ
theorem L_X12_must_b0 {sc : Nat × (Nat → Int32)} {o : Mem} {v0 v1 : Int} {σ : Mem} (h : f_X12_must_b0 v0 v1 σ = some o) : E sc (Fm Sh none Sh o) mt_X12_must 3 Sh Sh 0 [(2, v0), (0, v1)] [] Sh σ := by
  unfold f_X12_must_b0 at h
  refine E_aload_n d_X12_must_0 rfl (by decide) ?_
  refine E_get d_X12_must_1 okX12 fl_X12_200 ⟨by decide, rfl⟩ h (fun x1 h => ?_)
  refine E_if_le (tgt := 8) d_X12_must_4 (by decide) h (fun _ h => ?_) (fun _ h => ?_)
  · refine E_iload_n d_X12_must_8 rfl ?_
    refine E_if_eq (tgt := 19) d_X12_must_9 (by decide) h (fun _ h => ?_) (fun _ h => ?_)
    · refine E_aload_n d_X12_must_19 rfl (by decide) ?_
      refine bd h (fun r2 q3 h => ?_)
      refine E_cVv (as := []) (st := []) (a := v0) d_X12_must_20 mk_X12_amiss nl_X12_213 (by omega) ⟨rfl, rfl, Nat.le_of_ble_eq_true rfl⟩ okX12 rfl (L_X12_amiss q3) ?_
      cases h
      exact E_vret d_X12_must_23 rfl
    · refine E_aload_n d_X12_must_12 rfl (by decide) ?_
      refine bd h (fun r4 q5 h => ?_)
      refine E_cVv (as := []) (st := []) (a := v0) d_X12_must_13 mk_X12_advance nl_X12_210 (by omega) ⟨rfl, rfl, Nat.le_of_ble_eq_true rfl⟩ okX12 rfl (L_X12_advance q5) ?_
      refine E_goto (tgt := 23) d_X12_must_16 (by decide) ?_
      cases h
      exact E_vret d_X12_must_23 rfl
  · cases h
    exact E_vret d_X12_must_7 rfl
noncomputable def f_X12_must (v0 v1 : Int) (σ : Mem) : Option (Mem) := if isO Sh 12 v0 = true then f_X12_must_b0 v0 v1 σ else none
theorem L_X12_must {o : Mem} {v0 v1 : Int} {σ : Mem} (h : f_X12_must v0 v1 σ = some o) : (isO Sh 12 v0 = true ∧ Cn mt_X12_must 3 [(2, v0), (0, v1)] Sh σ none Sh o) := ⟨(ite_ok h).1, Cn_of mk_X12_must.1.2.2.1 (Nat.le_of_ble_eq_true rfl) (fun sc => L_X12_must_b0 (ite_ok h).2)⟩
theorem d_X12_behindWord_0 : decode mt_X12_behindWord.2.1 0 = .ok (.aload_n 0, 1) := by decide +kernel
theorem d_X12_behindWord_1 : decode mt_X12_behindWord.2.1 1 = .ok (.iload_n 1, 1) := by decide +kernel
theorem d_X12_behindWord_2 : decode mt_X12_behindWord.2.1 2 = .ok (.invokevirtual 216, 3) := by decide +kernel
theorem d_X12_behindWord_5 : decode mt_X12_behindWord.2.1 5 = .ok (.aload_n 0, 1) := by decide +kernel
theorem d_X12_behindWord_6 : decode mt_X12_behindWord.2.1 6 = .ok (.iload_n 2, 1) := by decide +kernel
theorem d_X12_behindWord_7 : decode mt_X12_behindWord.2.1 7 = .ok (.iload_n 3, 1) := by decide +kernel
theorem d_X12_behindWord_8 : decode mt_X12_behindWord.2.1 8 = .ok (.invokevirtual 220, 3) := by decide +kernel
theorem d_X12_behindWord_11 : decode mt_X12_behindWord.2.1 11 = .ok (.ireturn, 1) := by decide +kernel
noncomputable def f_X12_behindWord_b0 (v0 v1 v2 v3 : Int) (σ : Mem) : Option (Int × Mem) :=
  (f_X12_must v0 v1 σ).bind fun r1 =>
  (f_X12_count v0 v2 v3 r1).bind fun r3 =>
  some (r3.1, r3.2)
theorem L_X12_behindWord_b0 {sc : Nat × (Nat → Int32)} {o : Int × Mem} {v0 v1 v2 v3 : Int} {σ : Mem} (h : f_X12_behindWord_b0 v0 v1 v2 v3 σ = some o) : E sc (Fm Sh (some (0, o.1)) Sh o.2) mt_X12_behindWord 4 Sh Sh 0 [(2, v0), (0, v1), (0, v2), (0, v3)] [] Sh σ := by
  unfold f_X12_behindWord_b0 at h
  refine E_aload_n d_X12_behindWord_0 rfl (by decide) ?_
  refine E_iload_n d_X12_behindWord_1 rfl ?_
  refine bd h (fun r1 q2 h => ?_)
  refine E_cVv (as := [(0, v1)]) (st := []) (a := v0) d_X12_behindWord_2 mk_X12_must nl_X12_216 (by omega) ⟨rfl, rfl, Nat.le_of_ble_eq_true rfl⟩ okX12 rfl (L_X12_must q2) ?_
  refine E_aload_n d_X12_behindWord_5 rfl (by decide) ?_
  refine E_iload_n d_X12_behindWord_6 rfl ?_
  refine E_iload_n d_X12_behindWord_7 rfl ?_
  refine bd h (fun r3 q4 h => ?_)
  refine E_cV (as := [(0, v2), (0, v3)]) (st := []) (a := v0) d_X12_behindWord_8 mk_X12_count nl_X12_220 (by omega) ⟨rfl, rfl, Nat.le_of_ble_eq_true rfl⟩ okX12 rfl (L_X12_count q4) ?_
  cases h
  exact E_iret d_X12_behindWord_11 rfl
noncomputable def f_X12_behindWord (v0 v1 v2 v3 : Int) (σ : Mem) : Option (Int × Mem) := if isO Sh 12 v0 = true then f_X12_behindWord_b0 v0 v1 v2 v3 σ else none
theorem L_X12_behindWord {o : Int × Mem} {v0 v1 v2 v3 : Int} {σ : Mem} (h : f_X12_behindWord v0 v1 v2 v3 σ = some o) : (isO Sh 12 v0 = true ∧ Cn mt_X12_behindWord 4 [(2, v0), (0, v1), (0, v2), (0, v3)] Sh σ (some (0, o.1)) Sh o.2) := ⟨(ite_ok h).1, Cn_of mk_X12_behindWord.1.2.2.1 (Nat.le_of_ble_eq_true rfl) (fun sc => L_X12_behindWord_b0 (ite_ok h).2)⟩
theorem d_X12_perhaps_0 : decode mt_X12_perhaps.2.1 0 = .ok (.aload_n 0, 1) := by decide +kernel
theorem d_X12_perhaps_1 : decode mt_X12_perhaps.2.1 1 = .ok (.getfield 200, 3) := by decide +kernel
theorem d_X12_perhaps_4 : decode mt_X12_perhaps.2.1 4 = .ok (.ifCond .gt 7, 3) := by decide +kernel
theorem d_X12_perhaps_7 : decode mt_X12_perhaps.2.1 7 = .ok (.iload_n 1, 1) := by decide +kernel
theorem d_X12_perhaps_8 : decode mt_X12_perhaps.2.1 8 = .ok (.ifCond .ne 5, 3) := by decide +kernel
theorem d_X12_perhaps_11 : decode mt_X12_perhaps.2.1 11 = .ok (.iconst 0, 1) := by decide +kernel
theorem d_X12_perhaps_12 : decode mt_X12_perhaps.2.1 12 = .ok (.ireturn, 1) := by decide +kernel
theorem d_X12_perhaps_13 : decode mt_X12_perhaps.2.1 13 = .ok (.aload_n 0, 1) := by decide +kernel
theorem d_X12_perhaps_14 : decode mt_X12_perhaps.2.1 14 = .ok (.invokevirtual 210, 3) := by decide +kernel
theorem d_X12_perhaps_17 : decode mt_X12_perhaps.2.1 17 = .ok (.iconst 1, 1) := by decide +kernel
theorem d_X12_perhaps_18 : decode mt_X12_perhaps.2.1 18 = .ok (.ireturn, 1) := by decide +kernel
noncomputable def f_X12_perhaps_b0 (v0 v1 : Int) (σ : Mem) : Option (Int × Mem) :=
  (gf Sh σ 12 v0 12).bind fun x1 =>
  if 0 < x1 then
    some (0, σ)
  else
    if v1 = 0 then
      some (0, σ)
    else
      (f_X12_advance v0 σ).bind fun r2 =>
      some (1, r2)
theorem L_X12_perhaps_b0 {sc : Nat × (Nat → Int32)} {o : Int × Mem} {v0 v1 : Int} {σ : Mem} (h : f_X12_perhaps_b0 v0 v1 σ = some o) : E sc (Fm Sh (some (0, o.1)) Sh o.2) mt_X12_perhaps 3 Sh Sh 0 [(2, v0), (0, v1)] [] Sh σ := by
  unfold f_X12_perhaps_b0 at h
  refine E_aload_n d_X12_perhaps_0 rfl (by decide) ?_
  refine E_get d_X12_perhaps_1 okX12 fl_X12_200 ⟨by decide, rfl⟩ h (fun x1 h => ?_)
  refine E_if_gt (tgt := 11) d_X12_perhaps_4 (by decide) h (fun _ h => ?_) (fun _ h => ?_)
  · refine E_iconst d_X12_perhaps_11 (c32 rfl) ?_
    cases h
    exact E_zret d_X12_perhaps_12 rfl (Or.inl rfl)
  · refine E_iload_n d_X12_perhaps_7 rfl ?_
    refine E_if_ne (tgt := 13) d_X12_perhaps_8 (by decide) h (fun _ h => ?_) (fun _ h => ?_)
    · refine E_iconst d_X12_perhaps_11 (c32 rfl) ?_
      cases h
      exact E_zret d_X12_perhaps_12 rfl (Or.inl rfl)
    · refine E_aload_n d_X12_perhaps_13 rfl (by decide) ?_
      refine bd h (fun r2 q3 h => ?_)
      refine E_cVv (as := []) (st := []) (a := v0) d_X12_perhaps_14 mk_X12_advance nl_X12_210 (by omega) ⟨rfl, rfl, Nat.le_of_ble_eq_true rfl⟩ okX12 rfl (L_X12_advance q3) ?_
      refine E_iconst d_X12_perhaps_17 (c32 rfl) ?_
      cases h
      exact E_zret d_X12_perhaps_18 rfl (Or.inr rfl)
noncomputable def f_X12_perhaps (v0 v1 : Int) (σ : Mem) : Option (Int × Mem) := if isO Sh 12 v0 = true then f_X12_perhaps_b0 v0 v1 σ else none
theorem L_X12_perhaps {o : Int × Mem} {v0 v1 : Int} {σ : Mem} (h : f_X12_perhaps v0 v1 σ = some o) : (isO Sh 12 v0 = true ∧ Cn mt_X12_perhaps 3 [(2, v0), (0, v1)] Sh σ (some (0, o.1)) Sh o.2) := ⟨(ite_ok h).1, Cn_of mk_X12_perhaps.1.2.2.1 (Nat.le_of_ble_eq_true rfl) (fun sc => L_X12_perhaps_b0 (ite_ok h).2)⟩
theorem d_X12_sets_0 : decode mt_X12_sets.2.1 0 = .ok (.sipush 327, 3) := by decide +kernel
theorem d_X12_sets_3 : decode mt_X12_sets.2.1 3 = .ok (.iload_n 1, 1) := by decide +kernel
theorem d_X12_sets_4 : decode mt_X12_sets.2.1 4 = .ok (.imul, 1) := by decide +kernel
theorem d_X12_sets_5 : decode mt_X12_sets.2.1 5 = .ok (.iload_n 2, 1) := by decide +kernel
theorem d_X12_sets_6 : decode mt_X12_sets.2.1 6 = .ok (.iadd, 1) := by decide +kernel
theorem d_X12_sets_7 : decode mt_X12_sets.2.1 7 = .ok (.istore 5, 2) := by decide +kernel
theorem d_X12_sets_9 : decode mt_X12_sets.2.1 9 = .ok (.aload_n 0, 1) := by decide +kernel
theorem d_X12_sets_10 : decode mt_X12_sets.2.1 10 = .ok (.getfield 35, 3) := by decide +kernel
theorem d_X12_sets_13 : decode mt_X12_sets.2.1 13 = .ok (.iload 5, 2) := by decide +kernel
theorem d_X12_sets_15 : decode mt_X12_sets.2.1 15 = .ok (.bipush 7, 2) := by decide +kernel
theorem d_X12_sets_17 : decode mt_X12_sets.2.1 17 = .ok (.iadd, 1) := by decide +kernel
theorem d_X12_sets_18 : decode mt_X12_sets.2.1 18 = .ok (.iconst 1, 1) := by decide +kernel
theorem d_X12_sets_19 : decode mt_X12_sets.2.1 19 = .ok (.iastore, 1) := by decide +kernel
theorem d_X12_sets_20 : decode mt_X12_sets.2.1 20 = .ok (.aload_n 0, 1) := by decide +kernel
theorem d_X12_sets_21 : decode mt_X12_sets.2.1 21 = .ok (.getfield 35, 3) := by decide +kernel
theorem d_X12_sets_24 : decode mt_X12_sets.2.1 24 = .ok (.iload 5, 2) := by decide +kernel
theorem d_X12_sets_26 : decode mt_X12_sets.2.1 26 = .ok (.bipush 17, 2) := by decide +kernel
theorem d_X12_sets_28 : decode mt_X12_sets.2.1 28 = .ok (.iadd, 1) := by decide +kernel
theorem d_X12_sets_29 : decode mt_X12_sets.2.1 29 = .ok (.iload_n 3, 1) := by decide +kernel
theorem d_X12_sets_30 : decode mt_X12_sets.2.1 30 = .ok (.iastore, 1) := by decide +kernel
theorem d_X12_sets_31 : decode mt_X12_sets.2.1 31 = .ok (.aload_n 0, 1) := by decide +kernel
theorem d_X12_sets_32 : decode mt_X12_sets.2.1 32 = .ok (.getfield 35, 3) := by decide +kernel
theorem d_X12_sets_35 : decode mt_X12_sets.2.1 35 = .ok (.iload 5, 2) := by decide +kernel
theorem d_X12_sets_37 : decode mt_X12_sets.2.1 37 = .ok (.bipush 27, 2) := by decide +kernel
theorem d_X12_sets_39 : decode mt_X12_sets.2.1 39 = .ok (.iadd, 1) := by decide +kernel
theorem d_X12_sets_40 : decode mt_X12_sets.2.1 40 = .ok (.iconst 0, 1) := by decide +kernel
theorem d_X12_sets_41 : decode mt_X12_sets.2.1 41 = .ok (.iastore, 1) := by decide +kernel
theorem d_X12_sets_42 : decode mt_X12_sets.2.1 42 = .ok (.aload_n 0, 1) := by decide +kernel
theorem d_X12_sets_43 : decode mt_X12_sets.2.1 43 = .ok (.getfield 35, 3) := by decide +kernel
theorem d_X12_sets_46 : decode mt_X12_sets.2.1 46 = .ok (.iload 5, 2) := by decide +kernel
theorem d_X12_sets_48 : decode mt_X12_sets.2.1 48 = .ok (.bipush 37, 2) := by decide +kernel
theorem d_X12_sets_50 : decode mt_X12_sets.2.1 50 = .ok (.iadd, 1) := by decide +kernel
theorem d_X12_sets_51 : decode mt_X12_sets.2.1 51 = .ok (.iload 4, 2) := by decide +kernel
theorem d_X12_sets_53 : decode mt_X12_sets.2.1 53 = .ok (.iastore, 1) := by decide +kernel
theorem d_X12_sets_54 : decode mt_X12_sets.2.1 54 = .ok (.return_, 1) := by decide +kernel
noncomputable def f_X12_sets_b0 (v0 v1 v2 v3 v4 : Int) (σ : Mem) : Option (Mem) :=
  (gf Sh σ 12 v0 20).bind fun x1 =>
  (st_ Sh σ 20 x1 (w32 (w32 (w32 (327 * v1) + v2) + 7)) 1).bind fun σ2 =>
  (gf Sh σ2 12 v0 20).bind fun x3 =>
  (st_ Sh σ2 20 x3 (w32 (w32 (w32 (327 * v1) + v2) + 17)) v3).bind fun σ4 =>
  (gf Sh σ4 12 v0 20).bind fun x5 =>
  (st_ Sh σ4 20 x5 (w32 (w32 (w32 (327 * v1) + v2) + 27)) 0).bind fun σ6 =>
  (gf Sh σ6 12 v0 20).bind fun x7 =>
  (st_ Sh σ6 20 x7 (w32 (w32 (w32 (327 * v1) + v2) + 37)) v4).bind fun σ8 =>
  some σ8
theorem L_X12_sets_b0 {sc : Nat × (Nat → Int32)} {o : Mem} {v0 v1 v2 v3 v4 : Int} {σ : Mem} (h : f_X12_sets_b0 v0 v1 v2 v3 v4 σ = some o) : E sc (Fm Sh none Sh o) mt_X12_sets 1 Sh Sh 0 [(2, v0), (0, v1), (0, v2), (0, v3), (0, v4), (9, 0)] [] Sh σ := by
  unfold f_X12_sets_b0 at h
  refine E_sipush d_X12_sets_0 (c16 rfl) ?_
  refine E_iload_n d_X12_sets_3 rfl ?_
  refine E_imul d_X12_sets_4 ?_
  refine E_iload_n d_X12_sets_5 rfl ?_
  refine E_iadd d_X12_sets_6 ?_
  refine E_istore d_X12_sets_7 (ls' := [(2, v0), (0, v1), (0, v2), (0, v3), (0, v4), (0, w32 (w32 (327 * v1) + v2))]) ⟨by decide, rfl⟩ ?_
  refine E_aload_n d_X12_sets_9 rfl (by decide) ?_
  refine E_get d_X12_sets_10 okX12 fl_X12_35 ⟨by decide, rfl⟩ h (fun x1 h => ?_)
  refine E_iload d_X12_sets_13 rfl ?_
  refine E_bipush d_X12_sets_15 (c8 rfl) ?_
  refine E_iadd d_X12_sets_17 ?_
  refine E_iconst d_X12_sets_18 (c32 rfl) ?_
  refine E_iastore d_X12_sets_19 h (fun σ2 h => ?_)
  refine E_aload_n d_X12_sets_20 rfl (by decide) ?_
  refine E_get d_X12_sets_21 okX12 fl_X12_35 ⟨by decide, rfl⟩ h (fun x3 h => ?_)
  refine E_iload d_X12_sets_24 rfl ?_
  refine E_bipush d_X12_sets_26 (c8 rfl) ?_
  refine E_iadd d_X12_sets_28 ?_
  refine E_iload_n d_X12_sets_29 rfl ?_
  refine E_iastore d_X12_sets_30 h (fun σ4 h => ?_)
  refine E_aload_n d_X12_sets_31 rfl (by decide) ?_
  refine E_get d_X12_sets_32 okX12 fl_X12_35 ⟨by decide, rfl⟩ h (fun x5 h => ?_)
  refine E_iload d_X12_sets_35 rfl ?_
  refine E_bipush d_X12_sets_37 (c8 rfl) ?_
  refine E_iadd d_X12_sets_39 ?_
  refine E_iconst d_X12_sets_40 (c32 rfl) ?_
  refine E_iastore d_X12_sets_41 h (fun σ6 h => ?_)
  refine E_aload_n d_X12_sets_42 rfl (by decide) ?_
  refine E_get d_X12_sets_43 okX12 fl_X12_35 ⟨by decide, rfl⟩ h (fun x7 h => ?_)
  refine E_iload d_X12_sets_46 rfl ?_
  refine E_bipush d_X12_sets_48 (c8 rfl) ?_
  refine E_iadd d_X12_sets_50 ?_
  refine E_iload d_X12_sets_51 rfl ?_
  refine E_iastore d_X12_sets_53 h (fun σ8 h => ?_)
  cases h
  exact E_vret d_X12_sets_54 rfl
noncomputable def f_X12_sets (v0 v1 v2 v3 v4 : Int) (σ : Mem) : Option (Mem) := if isO Sh 12 v0 = true then f_X12_sets_b0 v0 v1 v2 v3 v4 σ else none
theorem L_X12_sets {o : Mem} {v0 v1 v2 v3 v4 : Int} {σ : Mem} (h : f_X12_sets v0 v1 v2 v3 v4 σ = some o) : (isO Sh 12 v0 = true ∧ Cn mt_X12_sets 1 [(2, v0), (0, v1), (0, v2), (0, v3), (0, v4)] Sh σ none Sh o) := ⟨(ite_ok h).1, Cn_of mk_X12_sets.1.2.2.1 (Nat.le_of_ble_eq_true rfl) (fun sc => L_X12_sets_b0 (ite_ok h).2)⟩
theorem d_X12_readStone_0 : decode mt_X12_readStone.2.1 0 = .ok (.aload_n 0, 1) := by decide +kernel
theorem d_X12_readStone_1 : decode mt_X12_readStone.2.1 1 = .ok (.iconst 0, 1) := by decide +kernel
theorem d_X12_readStone_2 : decode mt_X12_readStone.2.1 2 = .ok (.bipush 10, 2) := by decide +kernel
theorem d_X12_readStone_4 : decode mt_X12_readStone.2.1 4 = .ok (.invokevirtual 242, 3) := by decide +kernel
theorem d_X12_readStone_7 : decode mt_X12_readStone.2.1 7 = .ok (.istore_n 1, 1) := by decide +kernel
theorem d_X12_readStone_8 : decode mt_X12_readStone.2.1 8 = .ok (.aload_n 0, 1) := by decide +kernel
theorem d_X12_readStone_9 : decode mt_X12_readStone.2.1 9 = .ok (.aload_n 0, 1) := by decide +kernel
theorem d_X12_readStone_10 : decode mt_X12_readStone.2.1 10 = .ok (.invokevirtual 169, 3) := by decide +kernel
theorem d_X12_readStone_13 : decode mt_X12_readStone.2.1 13 = .ok (.iconst 0, 1) := by decide +kernel
theorem d_X12_readStone_14 : decode mt_X12_readStone.2.1 14 = .ok (.bipush 30, 2) := by decide +kernel
theorem d_X12_readStone_16 : decode mt_X12_readStone.2.1 16 = .ok (.invokevirtual 245, 3) := by decide +kernel
theorem d_X12_readStone_19 : decode mt_X12_readStone.2.1 19 = .ok (.istore_n 2, 1) := by decide +kernel
theorem d_X12_readStone_20 : decode mt_X12_readStone.2.1 20 = .ok (.aload_n 0, 1) := by decide +kernel
theorem d_X12_readStone_21 : decode mt_X12_readStone.2.1 21 = .ok (.aload_n 0, 1) := by decide +kernel
theorem d_X12_readStone_22 : decode mt_X12_readStone.2.1 22 = .ok (.invokevirtual 159, 3) := by decide +kernel
theorem d_X12_readStone_25 : decode mt_X12_readStone.2.1 25 = .ok (.invokevirtual 249, 3) := by decide +kernel
theorem d_X12_readStone_28 : decode mt_X12_readStone.2.1 28 = .ok (.ifCond .eq 13, 3) := by decide +kernel
theorem d_X12_readStone_31 : decode mt_X12_readStone.2.1 31 = .ok (.aload_n 0, 1) := by decide +kernel
theorem d_X12_readStone_32 : decode mt_X12_readStone.2.1 32 = .ok (.iconst 0, 1) := by decide +kernel
theorem d_X12_readStone_33 : decode mt_X12_readStone.2.1 33 = .ok (.bipush 9, 2) := by decide +kernel
theorem d_X12_readStone_35 : decode mt_X12_readStone.2.1 35 = .ok (.invokevirtual 220, 3) := by decide +kernel
theorem d_X12_readStone_38 : decode mt_X12_readStone.2.1 38 = .ok (.goto 4, 3) := by decide +kernel
theorem d_X12_readStone_41 : decode mt_X12_readStone.2.1 41 = .ok (.iconst 0, 1) := by decide +kernel
theorem d_X12_readStone_42 : decode mt_X12_readStone.2.1 42 = .ok (.istore_n 3, 1) := by decide +kernel
theorem d_X12_readStone_43 : decode mt_X12_readStone.2.1 43 = .ok (.aload_n 0, 1) := by decide +kernel
theorem d_X12_readStone_44 : decode mt_X12_readStone.2.1 44 = .ok (.aload_n 0, 1) := by decide +kernel
theorem d_X12_readStone_45 : decode mt_X12_readStone.2.1 45 = .ok (.invokevirtual 172, 3) := by decide +kernel
theorem d_X12_readStone_48 : decode mt_X12_readStone.2.1 48 = .ok (.invokevirtual 249, 3) := by decide +kernel
theorem d_X12_readStone_51 : decode mt_X12_readStone.2.1 51 = .ok (.ifCond .eq 13, 3) := by decide +kernel
theorem d_X12_readStone_54 : decode mt_X12_readStone.2.1 54 = .ok (.aload_n 0, 1) := by decide +kernel
theorem d_X12_readStone_55 : decode mt_X12_readStone.2.1 55 = .ok (.iconst 1, 1) := by decide +kernel
theorem d_X12_readStone_56 : decode mt_X12_readStone.2.1 56 = .ok (.bipush 9, 2) := by decide +kernel
theorem d_X12_readStone_58 : decode mt_X12_readStone.2.1 58 = .ok (.invokevirtual 220, 3) := by decide +kernel
theorem d_X12_readStone_61 : decode mt_X12_readStone.2.1 61 = .ok (.goto 4, 3) := by decide +kernel
theorem d_X12_readStone_64 : decode mt_X12_readStone.2.1 64 = .ok (.iconst 3, 1) := by decide +kernel
theorem d_X12_readStone_65 : decode mt_X12_readStone.2.1 65 = .ok (.istore 4, 2) := by decide +kernel
theorem d_X12_readStone_67 : decode mt_X12_readStone.2.1 67 = .ok (.aload_n 0, 1) := by decide +kernel
theorem d_X12_readStone_68 : decode mt_X12_readStone.2.1 68 = .ok (.getfield 200, 3) := by decide +kernel
theorem d_X12_readStone_71 : decode mt_X12_readStone.2.1 71 = .ok (.ifCond .le 4, 3) := by decide +kernel
theorem d_X12_readStone_74 : decode mt_X12_readStone.2.1 74 = .ok (.return_, 1) := by decide +kernel
theorem d_X12_readStone_75 : decode mt_X12_readStone.2.1 75 = .ok (.aload_n 0, 1) := by decide +kernel
theorem d_X12_readStone_76 : decode mt_X12_readStone.2.1 76 = .ok (.iconst 4, 1) := by decide +kernel
theorem d_X12_readStone_77 : decode mt_X12_readStone.2.1 77 = .ok (.iload_n 1, 1) := by decide +kernel
theorem d_X12_readStone_78 : decode mt_X12_readStone.2.1 78 = .ok (.iload_n 2, 1) := by decide +kernel
theorem d_X12_readStone_79 : decode mt_X12_readStone.2.1 79 = .ok (.iload 4, 2) := by decide +kernel
theorem d_X12_readStone_81 : decode mt_X12_readStone.2.1 81 = .ok (.invokevirtual 253, 3) := by decide +kernel
theorem d_X12_readStone_84 : decode mt_X12_readStone.2.1 84 = .ok (.aload_n 0, 1) := by decide +kernel
theorem d_X12_readStone_85 : decode mt_X12_readStone.2.1 85 = .ok (.getfield 35, 3) := by decide +kernel
theorem d_X12_readStone_88 : decode mt_X12_readStone.2.1 88 = .ok (.sipush 1335, 3) := by decide +kernel
theorem d_X12_readStone_91 : decode mt_X12_readStone.2.1 91 = .ok (.iload_n 1, 1) := by decide +kernel
theorem d_X12_readStone_92 : decode mt_X12_readStone.2.1 92 = .ok (.iadd, 1) := by decide +kernel
theorem d_X12_readStone_93 : decode mt_X12_readStone.2.1 93 = .ok (.iload_n 3, 1) := by decide +kernel
theorem d_X12_readStone_94 : decode mt_X12_readStone.2.1 94 = .ok (.iastore, 1) := by decide +kernel
theorem d_X12_readStone_95 : decode mt_X12_readStone.2.1 95 = .ok (.aload_n 0, 1) := by decide +kernel
theorem d_X12_readStone_96 : decode mt_X12_readStone.2.1 96 = .ok (.getfield 35, 3) := by decide +kernel
theorem d_X12_readStone_99 : decode mt_X12_readStone.2.1 99 = .ok (.sipush 1308, 3) := by decide +kernel
theorem d_X12_readStone_102 : decode mt_X12_readStone.2.1 102 = .ok (.dup2, 1) := by decide +kernel
theorem d_X12_readStone_103 : decode mt_X12_readStone.2.1 103 = .ok (.iaload, 1) := by decide +kernel
theorem d_X12_readStone_104 : decode mt_X12_readStone.2.1 104 = .ok (.iconst 1, 1) := by decide +kernel
theorem d_X12_readStone_105 : decode mt_X12_readStone.2.1 105 = .ok (.iadd, 1) := by decide +kernel
theorem d_X12_readStone_106 : decode mt_X12_readStone.2.1 106 = .ok (.iastore, 1) := by decide +kernel
theorem d_X12_readStone_107 : decode mt_X12_readStone.2.1 107 = .ok (.return_, 1) := by decide +kernel
noncomputable def f_X12_readStone_b65 (v0 v1 v2 v3 s0 : Int) (σ : Mem) : Option (Mem) :=
  (gf Sh σ 12 v0 12).bind fun x19 =>
  if x19 ≤ 0 then
    (f_X12_sets v0 4 v1 v2 s0 σ).bind fun r20 =>
    (gf Sh r20 12 v0 20).bind fun x22 =>
    (st_ Sh r20 20 x22 (w32 (1335 + v1)) v3).bind fun σ23 =>
    (gf Sh σ23 12 v0 20).bind fun x24 =>
    (al Sh σ23 20 x24 1308).bind fun x25 =>
    (st_ Sh σ23 20 x24 1308 (w32 (x25 + 1))).bind fun σ26 =>
    some σ26
  else
    some σ
theorem L_X12_readStone_b65 {sc : Nat × (Nat → Int32)} {o : Mem} {v0 v1 v2 v3 s0 : Int} {σ : Mem} (h : f_X12_readStone_b65 v0 v1 v2 v3 s0 σ = some o) : E sc (Fm Sh none Sh o) mt_X12_readStone 7 Sh Sh 65 [(2, v0), (0, v1), (0, v2), (0, v3), (9, 0)] [(0, s0)] Sh σ := by
  unfold f_X12_readStone_b65 at h
  refine E_istore d_X12_readStone_65 (ls' := [(2, v0), (0, v1), (0, v2), (0, v3), (0, s0)]) ⟨by decide, rfl⟩ ?_
  refine E_aload_n d_X12_readStone_67 rfl (by decide) ?_
  refine E_get d_X12_readStone_68 okX12 fl_X12_200 ⟨by decide, rfl⟩ h (fun x19 h => ?_)
  refine E_if_le (tgt := 75) d_X12_readStone_71 (by decide) h (fun _ h => ?_) (fun _ h => ?_)
  · refine E_aload_n d_X12_readStone_75 rfl (by decide) ?_
    refine E_iconst d_X12_readStone_76 (c32 rfl) ?_
    refine E_iload_n d_X12_readStone_77 rfl ?_
    refine E_iload_n d_X12_readStone_78 rfl ?_
    refine E_iload d_X12_readStone_79 rfl ?_
    refine bd h (fun r20 q21 h => ?_)
    refine E_cVv (as := [(0, 4), (0, v1), (0, v2), (0, s0)]) (st := []) (a := v0) d_X12_readStone_81 mk_X12_sets nl_X12_253 (by omega) ⟨rfl, rfl, Nat.le_of_ble_eq_true rfl⟩ okX12 rfl (L_X12_sets q21) ?_
    refine E_aload_n d_X12_readStone_84 rfl (by decide) ?_
    refine E_get d_X12_readStone_85 okX12 fl_X12_35 ⟨by decide, rfl⟩ h (fun x22 h => ?_)
    refine E_sipush d_X12_readStone_88 (c16 rfl) ?_
    refine E_iload_n d_X12_readStone_91 rfl ?_
    refine E_iadd d_X12_readStone_92 ?_
    refine E_iload_n d_X12_readStone_93 rfl ?_
    refine E_iastore d_X12_readStone_94 h (fun σ23 h => ?_)
    refine E_aload_n d_X12_readStone_95 rfl (by decide) ?_
    refine E_get d_X12_readStone_96 okX12 fl_X12_35 ⟨by decide, rfl⟩ h (fun x24 h => ?_)
    refine E_sipush d_X12_readStone_99 (c16 rfl) ?_
    refine E_dup2T d_X12_readStone_102 (by decide) ?_
    refine E_iaload d_X12_readStone_103 h (fun x25 h => ?_)
    refine E_iconst d_X12_readStone_104 (c32 rfl) ?_
    refine E_iadd d_X12_readStone_105 ?_
    refine E_iastore d_X12_readStone_106 h (fun σ26 h => ?_)
    cases h
    exact E_vret d_X12_readStone_107 rfl
  · cases h
    exact E_vret d_X12_readStone_74 rfl
noncomputable def f_X12_readStone_b42 (v0 v1 v2 s0 : Int) (σ : Mem) : Option (Mem) :=
  (f_X12_isStrong v0 σ).bind fun r13 =>
  (f_X12_perhaps v0 r13 σ).bind fun r15 =>
  if r15.1 = 0 then
    f_X12_readStone_b65 v0 v1 v2 s0 3 r15.2
  else
    (f_X12_count v0 1 9 r15.2).bind fun r17 =>
    f_X12_readStone_b65 v0 v1 v2 s0 r17.1 r17.2
theorem L_X12_readStone_b42 {sc : Nat × (Nat → Int32)} {o : Mem} {v0 v1 v2 s0 : Int} {σ : Mem} (h : f_X12_readStone_b42 v0 v1 v2 s0 σ = some o) : E sc (Fm Sh none Sh o) mt_X12_readStone 7 Sh Sh 42 [(2, v0), (0, v1), (0, v2), (9, 0), (9, 0)] [(0, s0)] Sh σ := by
  unfold f_X12_readStone_b42 at h
  refine E_istore_n d_X12_readStone_42 (ls' := [(2, v0), (0, v1), (0, v2), (0, s0), (9, 0)]) ⟨by decide, rfl⟩ ?_
  refine E_aload_n d_X12_readStone_43 rfl (by decide) ?_
  refine E_aload_n d_X12_readStone_44 rfl (by decide) ?_
  refine bd h (fun r13 q14 h => ?_)
  refine E_cV (as := []) (st := [(2, v0)]) (a := v0) d_X12_readStone_45 mk_X12_isStrong nl_X12_172 (by omega) ⟨rfl, rfl, Nat.le_of_ble_eq_true rfl⟩ okX12 rfl (L_X12_isStrong q14) ?_
  refine bd h (fun r15 q16 h => ?_)
  refine E_cV (as := [(0, r13)]) (st := []) (a := v0) d_X12_readStone_48 mk_X12_perhaps nl_X12_249 (by omega) ⟨rfl, rfl, Nat.le_of_ble_eq_true rfl⟩ okX12 rfl (L_X12_perhaps q16) ?_
  refine E_if_eq (tgt := 64) d_X12_readStone_51 (by decide) h (fun _ h => ?_) (fun _ h => ?_)
  · refine E_iconst d_X12_readStone_64 (c32 rfl) ?_
    exact (L_X12_readStone_b65 h)
  · refine E_aload_n d_X12_readStone_54 rfl (by decide) ?_
    refine E_iconst d_X12_readStone_55 (c32 rfl) ?_
    refine E_bipush d_X12_readStone_56 (c8 rfl) ?_
    refine bd h (fun r17 q18 h => ?_)
    refine E_cV (as := [(0, 1), (0, 9)]) (st := []) (a := v0) d_X12_readStone_58 mk_X12_count nl_X12_220 (by omega) ⟨rfl, rfl, Nat.le_of_ble_eq_true rfl⟩ okX12 rfl (L_X12_count q18) ?_
    refine E_goto (tgt := 65) d_X12_readStone_61 (by decide) ?_
    exact (L_X12_readStone_b65 h)
noncomputable def f_X12_readStone_b0 (v0 : Int) (σ : Mem) : Option (Mem) :=
  (f_X12_readNew v0 0 10 σ).bind fun r1 =>
  (f_X12_isLenient v0 r1.2).bind fun r3 =>
  (f_X12_behindWord v0 r3 0 30 r1.2).bind fun r5 =>
  (f_X12_isMoss v0 r5.2).bind fun r7 =>
  (f_X12_perhaps v0 r7 r5.2).bind fun r9 =>
  if r9.1 = 0 then
    f_X12_readStone_b42 v0 r1.1 r5.1 0 r9.2
  else
    (f_X12_count v0 0 9 r9.2).bind fun r11 =>
    f_X12_readStone_b42 v0 r1.1 r5.1 r11.1 r11.2
theorem L_X12_readStone_b0 {sc : Nat × (Nat → Int32)} {o : Mem} {v0 : Int} {σ : Mem} (h : f_X12_readStone_b0 v0 σ = some o) : E sc (Fm Sh none Sh o) mt_X12_readStone 7 Sh Sh 0 [(2, v0), (9, 0), (9, 0), (9, 0), (9, 0)] [] Sh σ := by
  unfold f_X12_readStone_b0 at h
  refine E_aload_n d_X12_readStone_0 rfl (by decide) ?_
  refine E_iconst d_X12_readStone_1 (c32 rfl) ?_
  refine E_bipush d_X12_readStone_2 (c8 rfl) ?_
  refine bd h (fun r1 q2 h => ?_)
  refine E_cV (as := [(0, 0), (0, 10)]) (st := []) (a := v0) d_X12_readStone_4 mk_X12_readNew nl_X12_242 (by omega) ⟨rfl, rfl, Nat.le_of_ble_eq_true rfl⟩ okX12 rfl (L_X12_readNew q2) ?_
  refine E_istore_n d_X12_readStone_7 (ls' := [(2, v0), (0, r1.1), (9, 0), (9, 0), (9, 0)]) ⟨by decide, rfl⟩ ?_
  refine E_aload_n d_X12_readStone_8 rfl (by decide) ?_
  refine E_aload_n d_X12_readStone_9 rfl (by decide) ?_
  refine bd h (fun r3 q4 h => ?_)
  refine E_cV (as := []) (st := [(2, v0)]) (a := v0) d_X12_readStone_10 mk_X12_isLenient nl_X12_169 (by omega) ⟨rfl, rfl, Nat.le_of_ble_eq_true rfl⟩ okX12 rfl (L_X12_isLenient q4) ?_
  refine E_iconst d_X12_readStone_13 (c32 rfl) ?_
  refine E_bipush d_X12_readStone_14 (c8 rfl) ?_
  refine bd h (fun r5 q6 h => ?_)
  refine E_cV (as := [(0, r3), (0, 0), (0, 30)]) (st := []) (a := v0) d_X12_readStone_16 mk_X12_behindWord nl_X12_245 (by omega) ⟨rfl, rfl, Nat.le_of_ble_eq_true rfl⟩ okX12 rfl (L_X12_behindWord q6) ?_
  refine E_istore_n d_X12_readStone_19 (ls' := [(2, v0), (0, r1.1), (0, r5.1), (9, 0), (9, 0)]) ⟨by decide, rfl⟩ ?_
  refine E_aload_n d_X12_readStone_20 rfl (by decide) ?_
  refine E_aload_n d_X12_readStone_21 rfl (by decide) ?_
  refine bd h (fun r7 q8 h => ?_)
  refine E_cV (as := []) (st := [(2, v0)]) (a := v0) d_X12_readStone_22 mk_X12_isMoss nl_X12_159 (by omega) ⟨rfl, rfl, Nat.le_of_ble_eq_true rfl⟩ okX12 rfl (L_X12_isMoss q8) ?_
  refine bd h (fun r9 q10 h => ?_)
  refine E_cV (as := [(0, r7)]) (st := []) (a := v0) d_X12_readStone_25 mk_X12_perhaps nl_X12_249 (by omega) ⟨rfl, rfl, Nat.le_of_ble_eq_true rfl⟩ okX12 rfl (L_X12_perhaps q10) ?_
  refine E_if_eq (tgt := 41) d_X12_readStone_28 (by decide) h (fun _ h => ?_) (fun _ h => ?_)
  · refine E_iconst d_X12_readStone_41 (c32 rfl) ?_
    exact (L_X12_readStone_b42 h)
  · refine E_aload_n d_X12_readStone_31 rfl (by decide) ?_
    refine E_iconst d_X12_readStone_32 (c32 rfl) ?_
    refine E_bipush d_X12_readStone_33 (c8 rfl) ?_
    refine bd h (fun r11 q12 h => ?_)
    refine E_cV (as := [(0, 0), (0, 9)]) (st := []) (a := v0) d_X12_readStone_35 mk_X12_count nl_X12_220 (by omega) ⟨rfl, rfl, Nat.le_of_ble_eq_true rfl⟩ okX12 rfl (L_X12_count q12) ?_
    refine E_goto (tgt := 42) d_X12_readStone_38 (by decide) ?_
    exact (L_X12_readStone_b42 h)
noncomputable def f_X12_readStone (v0 : Int) (σ : Mem) : Option (Mem) := if isO Sh 12 v0 = true then f_X12_readStone_b0 v0 σ else none
theorem L_X12_readStone {o : Mem} {v0 : Int} {σ : Mem} (h : f_X12_readStone v0 σ = some o) : (isO Sh 12 v0 = true ∧ Cn mt_X12_readStone 7 [(2, v0)] Sh σ none Sh o) := ⟨(ite_ok h).1, Cn_of mk_X12_readStone.1.2.2.1 (Nat.le_of_ble_eq_true rfl) (fun sc => L_X12_readStone_b0 (ite_ok h).2)⟩
theorem d_X12_readGap_0 : decode mt_X12_readGap.2.1 0 = .ok (.aload_n 0, 1) := by decide +kernel
theorem d_X12_readGap_1 : decode mt_X12_readGap.2.1 1 = .ok (.getfield 35, 3) := by decide +kernel
theorem d_X12_readGap_4 : decode mt_X12_readGap.2.1 4 = .ok (.sipush 1308, 3) := by decide +kernel
theorem d_X12_readGap_7 : decode mt_X12_readGap.2.1 7 = .ok (.iaload, 1) := by decide +kernel
theorem d_X12_readGap_8 : decode mt_X12_readGap.2.1 8 = .ok (.bipush 10, 2) := by decide +kernel
theorem d_X12_readGap_10 : decode mt_X12_readGap.2.1 10 = .ok (.if_icmp .ne 13, 3) := by decide +kernel
theorem d_X12_readGap_13 : decode mt_X12_readGap.2.1 13 = .ok (.aload_n 0, 1) := by decide +kernel
theorem d_X12_readGap_14 : decode mt_X12_readGap.2.1 14 = .ok (.bipush 6, 2) := by decide +kernel
theorem d_X12_readGap_16 : decode mt_X12_readGap.2.1 16 = .ok (.aload_n 0, 1) := by decide +kernel
theorem d_X12_readGap_17 : decode mt_X12_readGap.2.1 17 = .ok (.getfield 118, 3) := by decide +kernel
theorem d_X12_readGap_20 : decode mt_X12_readGap.2.1 20 = .ok (.invokevirtual 206, 3) := by decide +kernel
theorem d_X12_readGap_23 : decode mt_X12_readGap.2.1 23 = .ok (.aload_n 0, 1) := by decide +kernel
theorem d_X12_readGap_24 : decode mt_X12_readGap.2.1 24 = .ok (.getfield 200, 3) := by decide +kernel
theorem d_X12_readGap_27 : decode mt_X12_readGap.2.1 27 = .ok (.ifCond .le 4, 3) := by decide +kernel
theorem d_X12_readGap_30 : decode mt_X12_readGap.2.1 30 = .ok (.return_, 1) := by decide +kernel
theorem d_X12_readGap_31 : decode mt_X12_readGap.2.1 31 = .ok (.aload_n 0, 1) := by decide +kernel
theorem d_X12_readGap_32 : decode mt_X12_readGap.2.1 32 = .ok (.invokevirtual 210, 3) := by decide +kernel
theorem d_X12_readGap_35 : decode mt_X12_readGap.2.1 35 = .ok (.aload_n 0, 1) := by decide +kernel
theorem d_X12_readGap_36 : decode mt_X12_readGap.2.1 36 = .ok (.getfield 35, 3) := by decide +kernel
theorem d_X12_readGap_39 : decode mt_X12_readGap.2.1 39 = .ok (.sipush 1308, 3) := by decide +kernel
theorem d_X12_readGap_42 : decode mt_X12_readGap.2.1 42 = .ok (.dup2, 1) := by decide +kernel
theorem d_X12_readGap_43 : decode mt_X12_readGap.2.1 43 = .ok (.iaload, 1) := by decide +kernel
theorem d_X12_readGap_44 : decode mt_X12_readGap.2.1 44 = .ok (.iconst 1, 1) := by decide +kernel
theorem d_X12_readGap_45 : decode mt_X12_readGap.2.1 45 = .ok (.iadd, 1) := by decide +kernel
theorem d_X12_readGap_46 : decode mt_X12_readGap.2.1 46 = .ok (.iastore, 1) := by decide +kernel
theorem d_X12_readGap_47 : decode mt_X12_readGap.2.1 47 = .ok (.return_, 1) := by decide +kernel
noncomputable def f_X12_readGap_b23 (v0 : Int) (σ : Mem) : Option (Mem) :=
  (gf Sh σ 12 v0 12).bind fun x6 =>
  if x6 ≤ 0 then
    (f_X12_advance v0 σ).bind fun r7 =>
    (gf Sh r7 12 v0 20).bind fun x9 =>
    (al Sh r7 20 x9 1308).bind fun x10 =>
    (st_ Sh r7 20 x9 1308 (w32 (x10 + 1))).bind fun σ11 =>
    some σ11
  else
    some σ
theorem L_X12_readGap_b23 {sc : Nat × (Nat → Int32)} {o : Mem} {v0 : Int} {σ : Mem} (h : f_X12_readGap_b23 v0 σ = some o) : E sc (Fm Sh none Sh o) mt_X12_readGap 3 Sh Sh 23 [(2, v0)] [] Sh σ := by
  unfold f_X12_readGap_b23 at h
  refine E_aload_n d_X12_readGap_23 rfl (by decide) ?_
  refine E_get d_X12_readGap_24 okX12 fl_X12_200 ⟨by decide, rfl⟩ h (fun x6 h => ?_)
  refine E_if_le (tgt := 31) d_X12_readGap_27 (by decide) h (fun _ h => ?_) (fun _ h => ?_)
  · refine E_aload_n d_X12_readGap_31 rfl (by decide) ?_
    refine bd h (fun r7 q8 h => ?_)
    refine E_cVv (as := []) (st := []) (a := v0) d_X12_readGap_32 mk_X12_advance nl_X12_210 (by omega) ⟨rfl, rfl, Nat.le_of_ble_eq_true rfl⟩ okX12 rfl (L_X12_advance q8) ?_
    refine E_aload_n d_X12_readGap_35 rfl (by decide) ?_
    refine E_get d_X12_readGap_36 okX12 fl_X12_35 ⟨by decide, rfl⟩ h (fun x9 h => ?_)
    refine E_sipush d_X12_readGap_39 (c16 rfl) ?_
    refine E_dup2T d_X12_readGap_42 (by decide) ?_
    refine E_iaload d_X12_readGap_43 h (fun x10 h => ?_)
    refine E_iconst d_X12_readGap_44 (c32 rfl) ?_
    refine E_iadd d_X12_readGap_45 ?_
    refine E_iastore d_X12_readGap_46 h (fun σ11 h => ?_)
    cases h
    exact E_vret d_X12_readGap_47 rfl
  · cases h
    exact E_vret d_X12_readGap_30 rfl
noncomputable def f_X12_readGap_b0 (v0 : Int) (σ : Mem) : Option (Mem) :=
  (gf Sh σ 12 v0 20).bind fun x1 =>
  (al Sh σ 20 x1 1308).bind fun x2 =>
  if x2 = 10 then
    (gf Sh σ 12 v0 15).bind fun x3 =>
    (f_X12_fail v0 6 x3 σ).bind fun r4 =>
    f_X12_readGap_b23 v0 r4
  else
    f_X12_readGap_b23 v0 σ
theorem L_X12_readGap_b0 {sc : Nat × (Nat → Int32)} {o : Mem} {v0 : Int} {σ : Mem} (h : f_X12_readGap_b0 v0 σ = some o) : E sc (Fm Sh none Sh o) mt_X12_readGap 3 Sh Sh 0 [(2, v0)] [] Sh σ := by
  unfold f_X12_readGap_b0 at h
  refine E_aload_n d_X12_readGap_0 rfl (by decide) ?_
  refine E_get d_X12_readGap_1 okX12 fl_X12_35 ⟨by decide, rfl⟩ h (fun x1 h => ?_)
  refine E_sipush d_X12_readGap_4 (c16 rfl) ?_
  refine E_iaload d_X12_readGap_7 h (fun x2 h => ?_)
  refine E_bipush d_X12_readGap_8 (c8 rfl) ?_
  refine E_icmp_ne (tgt := 23) d_X12_readGap_10 (by decide) h (fun _ h => ?_) (fun _ h => ?_)
  · refine E_aload_n d_X12_readGap_13 rfl (by decide) ?_
    refine E_bipush d_X12_readGap_14 (c8 rfl) ?_
    refine E_aload_n d_X12_readGap_16 rfl (by decide) ?_
    refine E_get d_X12_readGap_17 okX12 fl_X12_118 ⟨by decide, rfl⟩ h (fun x3 h => ?_)
    refine bd h (fun r4 q5 h => ?_)
    refine E_cVv (as := [(0, 6), (0, x3)]) (st := []) (a := v0) d_X12_readGap_20 mk_X12_fail nl_X12_206 (by omega) ⟨rfl, rfl, Nat.le_of_ble_eq_true rfl⟩ okX12 rfl (L_X12_fail q5) ?_
    exact (L_X12_readGap_b23 h)
  · exact (L_X12_readGap_b23 h)
noncomputable def f_X12_readGap (v0 : Int) (σ : Mem) : Option (Mem) := if isO Sh 12 v0 = true then f_X12_readGap_b0 v0 σ else none
theorem L_X12_readGap {o : Mem} {v0 : Int} {σ : Mem} (h : f_X12_readGap v0 σ = some o) : (isO Sh 12 v0 = true ∧ Cn mt_X12_readGap 3 [(2, v0)] Sh σ none Sh o) := ⟨(ite_ok h).1, Cn_of mk_X12_readGap.1.2.2.1 (Nat.le_of_ble_eq_true rfl) (fun sc => L_X12_readGap_b0 (ite_ok h).2)⟩
theorem d_X12_readTold_0 : decode mt_X12_readTold.2.1 0 = .ok (.aload_n 0, 1) := by decide +kernel
theorem d_X12_readTold_1 : decode mt_X12_readTold.2.1 1 = .ok (.getfield 200, 3) := by decide +kernel
theorem d_X12_readTold_4 : decode mt_X12_readTold.2.1 4 = .ok (.ifCond .ne 14, 3) := by decide +kernel
theorem d_X12_readTold_7 : decode mt_X12_readTold.2.1 7 = .ok (.aload_n 0, 1) := by decide +kernel
theorem d_X12_readTold_8 : decode mt_X12_readTold.2.1 8 = .ok (.invokevirtual 229, 3) := by decide +kernel
theorem d_X12_readTold_11 : decode mt_X12_readTold.2.1 11 = .ok (.ifCond .ne 7, 3) := by decide +kernel
theorem d_X12_readTold_14 : decode mt_X12_readTold.2.1 14 = .ok (.aload_n 0, 1) := by decide +kernel
theorem d_X12_readTold_15 : decode mt_X12_readTold.2.1 15 = .ok (.invokevirtual 213, 3) := by decide +kernel
theorem d_X12_readTold_18 : decode mt_X12_readTold.2.1 18 = .ok (.aload_n 0, 1) := by decide +kernel
theorem d_X12_readTold_19 : decode mt_X12_readTold.2.1 19 = .ok (.getfield 200, 3) := by decide +kernel
theorem d_X12_readTold_22 : decode mt_X12_readTold.2.1 22 = .ok (.ifCond .le 5, 3) := by decide +kernel
theorem d_X12_readTold_25 : decode mt_X12_readTold.2.1 25 = .ok (.iconst 0, 1) := by decide +kernel
theorem d_X12_readTold_26 : decode mt_X12_readTold.2.1 26 = .ok (.ireturn, 1) := by decide +kernel
theorem d_X12_readTold_27 : decode mt_X12_readTold.2.1 27 = .ok (.aload_n 0, 1) := by decide +kernel
theorem d_X12_readTold_28 : decode mt_X12_readTold.2.1 28 = .ok (.iload_n 1, 1) := by decide +kernel
theorem d_X12_readTold_29 : decode mt_X12_readTold.2.1 29 = .ok (.iload_n 2, 1) := by decide +kernel
theorem d_X12_readTold_30 : decode mt_X12_readTold.2.1 30 = .ok (.invokevirtual 232, 3) := by decide +kernel
theorem d_X12_readTold_33 : decode mt_X12_readTold.2.1 33 = .ok (.istore_n 3, 1) := by decide +kernel
theorem d_X12_readTold_34 : decode mt_X12_readTold.2.1 34 = .ok (.iload_n 3, 1) := by decide +kernel
theorem d_X12_readTold_35 : decode mt_X12_readTold.2.1 35 = .ok (.ifCond .ge 12, 3) := by decide +kernel
theorem d_X12_readTold_38 : decode mt_X12_readTold.2.1 38 = .ok (.aload_n 0, 1) := by decide +kernel
theorem d_X12_readTold_39 : decode mt_X12_readTold.2.1 39 = .ok (.iconst 3, 1) := by decide +kernel
theorem d_X12_readTold_40 : decode mt_X12_readTold.2.1 40 = .ok (.aload_n 0, 1) := by decide +kernel
theorem d_X12_readTold_41 : decode mt_X12_readTold.2.1 41 = .ok (.getfield 118, 3) := by decide +kernel
theorem d_X12_readTold_44 : decode mt_X12_readTold.2.1 44 = .ok (.invokevirtual 206, 3) := by decide +kernel
theorem d_X12_readTold_47 : decode mt_X12_readTold.2.1 47 = .ok (.aload_n 0, 1) := by decide +kernel
theorem d_X12_readTold_48 : decode mt_X12_readTold.2.1 48 = .ok (.iconst 1, 1) := by decide +kernel
theorem d_X12_readTold_49 : decode mt_X12_readTold.2.1 49 = .ok (.invokevirtual 216, 3) := by decide +kernel
theorem d_X12_readTold_52 : decode mt_X12_readTold.2.1 52 = .ok (.iconst 0, 1) := by decide +kernel
theorem d_X12_readTold_53 : decode mt_X12_readTold.2.1 53 = .ok (.iload_n 3, 1) := by decide +kernel
theorem d_X12_readTold_54 : decode mt_X12_readTold.2.1 54 = .ok (.invokestatic 235, 3) := by decide +kernel
theorem d_X12_readTold_57 : decode mt_X12_readTold.2.1 57 = .ok (.ireturn, 1) := by decide +kernel
noncomputable def f_X12_readTold_b47 (v0 v3 : Int) (σ : Mem) : Option (Int × Mem) :=
  (f_X12_must v0 1 σ).bind fun r12 =>
  some (imax 0 v3, r12)
theorem L_X12_readTold_b47 {sc : Nat × (Nat → Int32)} {o : Int × Mem} {v0 v3 : Int} {σ : Mem} (h : f_X12_readTold_b47 v0 v3 σ = some o) : E sc (Fm Sh (some (0, o.1)) Sh o.2) mt_X12_readTold 6 Sh Sh 47 [(2, v0), (9, 0), (9, 0), (0, v3)] [] Sh σ := by
  unfold f_X12_readTold_b47 at h
  refine E_aload_n d_X12_readTold_47 rfl (by decide) ?_
  refine E_iconst d_X12_readTold_48 (c32 rfl) ?_
  refine bd h (fun r12 q13 h => ?_)
  refine E_cVv (as := [(0, 1)]) (st := []) (a := v0) d_X12_readTold_49 mk_X12_must nl_X12_216 (by omega) ⟨rfl, rfl, Nat.le_of_ble_eq_true rfl⟩ okX12 rfl (L_X12_must q13) ?_
  refine E_iconst d_X12_readTold_52 (c32 rfl) ?_
  refine E_iload_n d_X12_readTold_53 rfl ?_
  refine E_imax d_X12_readTold_54 nl_X12_235 (by omega) (Nat.le_of_ble_eq_true rfl) ?_
  cases h
  exact E_iret d_X12_readTold_57 rfl
noncomputable def f_X12_readTold_b18 (v0 v1 v2 : Int) (σ : Mem) : Option (Int × Mem) :=
  (gf Sh σ 12 v0 12).bind fun x6 =>
  if x6 ≤ 0 then
    (f_X12_named v0 v1 v2 σ).bind fun r7 =>
    if 0 ≤ r7 then
      f_X12_readTold_b47 v0 r7 σ
    else
      (gf Sh σ 12 v0 15).bind fun x9 =>
      (f_X12_fail v0 3 x9 σ).bind fun r10 =>
      f_X12_readTold_b47 v0 r7 r10
  else
    some (0, σ)
theorem L_X12_readTold_b18 {sc : Nat × (Nat → Int32)} {o : Int × Mem} {v0 v1 v2 : Int} {σ : Mem} (h : f_X12_readTold_b18 v0 v1 v2 σ = some o) : E sc (Fm Sh (some (0, o.1)) Sh o.2) mt_X12_readTold 6 Sh Sh 18 [(2, v0), (0, v1), (0, v2), (9, 0)] [] Sh σ := by
  unfold f_X12_readTold_b18 at h
  refine E_aload_n d_X12_readTold_18 rfl (by decide) ?_
  refine E_get d_X12_readTold_19 okX12 fl_X12_200 ⟨by decide, rfl⟩ h (fun x6 h => ?_)
  refine E_if_le (tgt := 27) d_X12_readTold_22 (by decide) h (fun _ h => ?_) (fun _ h => ?_)
  · refine E_aload_n d_X12_readTold_27 rfl (by decide) ?_
    refine E_iload_n d_X12_readTold_28 rfl ?_
    refine E_iload_n d_X12_readTold_29 rfl ?_
    refine bd h (fun r7 q8 h => ?_)
    refine E_cV (as := [(0, v1), (0, v2)]) (st := []) (a := v0) d_X12_readTold_30 mk_X12_named nl_X12_232 (by omega) ⟨rfl, rfl, Nat.le_of_ble_eq_true rfl⟩ okX12 rfl (L_X12_named q8) ?_
    refine E_istore_n d_X12_readTold_33 (ls' := [(2, v0), (0, v1), (0, v2), (0, r7)]) ⟨by decide, rfl⟩ ?_
    refine E_iload_n d_X12_readTold_34 rfl ?_
    refine E_if_ge (tgt := 47) d_X12_readTold_35 (by decide) h (fun _ h => ?_) (fun _ h => ?_)
    · exact E_weak (ls' := [(2, v0), (9, 0), (9, 0), (0, r7)]) ⟨Or.inr rfl, Or.inl rfl, Or.inl rfl, Or.inr rfl, trivial⟩ (L_X12_readTold_b47 h)
    · refine E_aload_n d_X12_readTold_38 rfl (by decide) ?_
      refine E_iconst d_X12_readTold_39 (c32 rfl) ?_
      refine E_aload_n d_X12_readTold_40 rfl (by decide) ?_
      refine E_get d_X12_readTold_41 okX12 fl_X12_118 ⟨by decide, rfl⟩ h (fun x9 h => ?_)
      refine bd h (fun r10 q11 h => ?_)
      refine E_cVv (as := [(0, 3), (0, x9)]) (st := []) (a := v0) d_X12_readTold_44 mk_X12_fail nl_X12_206 (by omega) ⟨rfl, rfl, Nat.le_of_ble_eq_true rfl⟩ okX12 rfl (L_X12_fail q11) ?_
      exact E_weak (ls' := [(2, v0), (9, 0), (9, 0), (0, r7)]) ⟨Or.inr rfl, Or.inl rfl, Or.inl rfl, Or.inr rfl, trivial⟩ (L_X12_readTold_b47 h)
  · refine E_iconst d_X12_readTold_25 (c32 rfl) ?_
    cases h
    exact E_iret d_X12_readTold_26 rfl
noncomputable def f_X12_readTold_b0 (v0 v1 v2 : Int) (σ : Mem) : Option (Int × Mem) :=
  (gf Sh σ 12 v0 12).bind fun x1 =>
  if x1 = 0 then
    (f_X12_isName v0 σ).bind fun r2 =>
    if r2 = 0 then
      (f_X12_amiss v0 σ).bind fun r4 =>
      f_X12_readTold_b18 v0 v1 v2 r4
    else
      f_X12_readTold_b18 v0 v1 v2 σ
  else
    f_X12_readTold_b18 v0 v1 v2 σ
theorem L_X12_readTold_b0 {sc : Nat × (Nat → Int32)} {o : Int × Mem} {v0 v1 v2 : Int} {σ : Mem} (h : f_X12_readTold_b0 v0 v1 v2 σ = some o) : E sc (Fm Sh (some (0, o.1)) Sh o.2) mt_X12_readTold 6 Sh Sh 0 [(2, v0), (0, v1), (0, v2), (9, 0)] [] Sh σ := by
  unfold f_X12_readTold_b0 at h
  refine E_aload_n d_X12_readTold_0 rfl (by decide) ?_
  refine E_get d_X12_readTold_1 okX12 fl_X12_200 ⟨by decide, rfl⟩ h (fun x1 h => ?_)
  refine E_if_ne (tgt := 18) d_X12_readTold_4 (by decide) h (fun _ h => ?_) (fun _ h => ?_)
  · refine E_aload_n d_X12_readTold_7 rfl (by decide) ?_
    refine bd h (fun r2 q3 h => ?_)
    refine E_cV (as := []) (st := []) (a := v0) d_X12_readTold_8 mk_X12_isName nl_X12_229 (by omega) ⟨rfl, rfl, Nat.le_of_ble_eq_true rfl⟩ okX12 rfl (L_X12_isName q3) ?_
    refine E_if_ne (tgt := 18) d_X12_readTold_11 (by decide) h (fun _ h => ?_) (fun _ h => ?_)
    · refine E_aload_n d_X12_readTold_14 rfl (by decide) ?_
      refine bd h (fun r4 q5 h => ?_)
      refine E_cVv (as := []) (st := []) (a := v0) d_X12_readTold_15 mk_X12_amiss nl_X12_213 (by omega) ⟨rfl, rfl, Nat.le_of_ble_eq_true rfl⟩ okX12 rfl (L_X12_amiss q5) ?_
      exact (L_X12_readTold_b18 h)
    · exact (L_X12_readTold_b18 h)
  · exact (L_X12_readTold_b18 h)
noncomputable def f_X12_readTold (v0 v1 v2 : Int) (σ : Mem) : Option (Int × Mem) := if isO Sh 12 v0 = true then f_X12_readTold_b0 v0 v1 v2 σ else none
theorem L_X12_readTold {o : Int × Mem} {v0 v1 v2 : Int} {σ : Mem} (h : f_X12_readTold v0 v1 v2 σ = some o) : (isO Sh 12 v0 = true ∧ Cn mt_X12_readTold 6 [(2, v0), (0, v1), (0, v2)] Sh σ (some (0, o.1)) Sh o.2) := ⟨(ite_ok h).1, Cn_of mk_X12_readTold.1.2.2.1 (Nat.le_of_ble_eq_true rfl) (fun sc => L_X12_readTold_b0 (ite_ok h).2)⟩
theorem d_X12_hatches_0 : decode mt_X12_hatches.2.1 0 = .ok (.sipush 327, 3) := by decide +kernel
theorem d_X12_hatches_3 : decode mt_X12_hatches.2.1 3 = .ok (.iload_n 1, 1) := by decide +kernel
theorem d_X12_hatches_4 : decode mt_X12_hatches.2.1 4 = .ok (.imul, 1) := by decide +kernel
theorem d_X12_hatches_5 : decode mt_X12_hatches.2.1 5 = .ok (.istore 5, 2) := by decide +kernel
theorem d_X12_hatches_7 : decode mt_X12_hatches.2.1 7 = .ok (.aload_n 0, 1) := by decide +kernel
theorem d_X12_hatches_8 : decode mt_X12_hatches.2.1 8 = .ok (.getfield 35, 3) := by decide +kernel
theorem d_X12_hatches_11 : decode mt_X12_hatches.2.1 11 = .ok (.iload 5, 2) := by decide +kernel
theorem d_X12_hatches_13 : decode mt_X12_hatches.2.1 13 = .ok (.bipush 47, 2) := by decide +kernel
theorem d_X12_hatches_15 : decode mt_X12_hatches.2.1 15 = .ok (.iadd, 1) := by decide +kernel
theorem d_X12_hatches_16 : decode mt_X12_hatches.2.1 16 = .ok (.iload_n 2, 1) := by decide +kernel
theorem d_X12_hatches_17 : decode mt_X12_hatches.2.1 17 = .ok (.iadd, 1) := by decide +kernel
theorem d_X12_hatches_18 : decode mt_X12_hatches.2.1 18 = .ok (.iload_n 3, 1) := by decide +kernel
theorem d_X12_hatches_19 : decode mt_X12_hatches.2.1 19 = .ok (.iastore, 1) := by decide +kernel
theorem d_X12_hatches_20 : decode mt_X12_hatches.2.1 20 = .ok (.aload_n 0, 1) := by decide +kernel
theorem d_X12_hatches_21 : decode mt_X12_hatches.2.1 21 = .ok (.getfield 35, 3) := by decide +kernel
theorem d_X12_hatches_24 : decode mt_X12_hatches.2.1 24 = .ok (.iload 5, 2) := by decide +kernel
theorem d_X12_hatches_26 : decode mt_X12_hatches.2.1 26 = .ok (.bipush 51, 2) := by decide +kernel
theorem d_X12_hatches_28 : decode mt_X12_hatches.2.1 28 = .ok (.iadd, 1) := by decide +kernel
theorem d_X12_hatches_29 : decode mt_X12_hatches.2.1 29 = .ok (.iload_n 2, 1) := by decide +kernel
theorem d_X12_hatches_30 : decode mt_X12_hatches.2.1 30 = .ok (.iadd, 1) := by decide +kernel
theorem d_X12_hatches_31 : decode mt_X12_hatches.2.1 31 = .ok (.iload 4, 2) := by decide +kernel
theorem d_X12_hatches_33 : decode mt_X12_hatches.2.1 33 = .ok (.iastore, 1) := by decide +kernel
theorem d_X12_hatches_34 : decode mt_X12_hatches.2.1 34 = .ok (.aload_n 0, 1) := by decide +kernel
theorem d_X12_hatches_35 : decode mt_X12_hatches.2.1 35 = .ok (.getfield 35, 3) := by decide +kernel
theorem d_X12_hatches_38 : decode mt_X12_hatches.2.1 38 = .ok (.iload 5, 2) := by decide +kernel
theorem d_X12_hatches_40 : decode mt_X12_hatches.2.1 40 = .ok (.iconst 1, 1) := by decide +kernel
theorem d_X12_hatches_41 : decode mt_X12_hatches.2.1 41 = .ok (.iadd, 1) := by decide +kernel
theorem d_X12_hatches_42 : decode mt_X12_hatches.2.1 42 = .ok (.iload_n 2, 1) := by decide +kernel
theorem d_X12_hatches_43 : decode mt_X12_hatches.2.1 43 = .ok (.iconst 1, 1) := by decide +kernel
theorem d_X12_hatches_44 : decode mt_X12_hatches.2.1 44 = .ok (.iadd, 1) := by decide +kernel
theorem d_X12_hatches_45 : decode mt_X12_hatches.2.1 45 = .ok (.iastore, 1) := by decide +kernel
theorem d_X12_hatches_46 : decode mt_X12_hatches.2.1 46 = .ok (.return_, 1) := by decide +kernel
noncomputable def f_X12_hatches_b0 (v0 v1 v2 v3 v4 : Int) (σ : Mem) : Option (Mem) :=
  (gf Sh σ 12 v0 20).bind fun x1 =>
  (st_ Sh σ 20 x1 (w32 (w32 (w32 (327 * v1) + 47) + v2)) v3).bind fun σ2 =>
  (gf Sh σ2 12 v0 20).bind fun x3 =>
  (st_ Sh σ2 20 x3 (w32 (w32 (w32 (327 * v1) + 51) + v2)) v4).bind fun σ4 =>
  (gf Sh σ4 12 v0 20).bind fun x5 =>
  (st_ Sh σ4 20 x5 (w32 (w32 (327 * v1) + 1)) (w32 (v2 + 1))).bind fun σ6 =>
  some σ6
theorem L_X12_hatches_b0 {sc : Nat × (Nat → Int32)} {o : Mem} {v0 v1 v2 v3 v4 : Int} {σ : Mem} (h : f_X12_hatches_b0 v0 v1 v2 v3 v4 σ = some o) : E sc (Fm Sh none Sh o) mt_X12_hatches 1 Sh Sh 0 [(2, v0), (0, v1), (0, v2), (0, v3), (0, v4), (9, 0)] [] Sh σ := by
  unfold f_X12_hatches_b0 at h
  refine E_sipush d_X12_hatches_0 (c16 rfl) ?_
  refine E_iload_n d_X12_hatches_3 rfl ?_
  refine E_imul d_X12_hatches_4 ?_
  refine E_istore d_X12_hatches_5 (ls' := [(2, v0), (0, v1), (0, v2), (0, v3), (0, v4), (0, w32 (327 * v1))]) ⟨by decide, rfl⟩ ?_
  refine E_aload_n d_X12_hatches_7 rfl (by decide) ?_
  refine E_get d_X12_hatches_8 okX12 fl_X12_35 ⟨by decide, rfl⟩ h (fun x1 h => ?_)
  refine E_iload d_X12_hatches_11 rfl ?_
  refine E_bipush d_X12_hatches_13 (c8 rfl) ?_
  refine E_iadd d_X12_hatches_15 ?_
  refine E_iload_n d_X12_hatches_16 rfl ?_
  refine E_iadd d_X12_hatches_17 ?_
  refine E_iload_n d_X12_hatches_18 rfl ?_
  refine E_iastore d_X12_hatches_19 h (fun σ2 h => ?_)
  refine E_aload_n d_X12_hatches_20 rfl (by decide) ?_
  refine E_get d_X12_hatches_21 okX12 fl_X12_35 ⟨by decide, rfl⟩ h (fun x3 h => ?_)
  refine E_iload d_X12_hatches_24 rfl ?_
  refine E_bipush d_X12_hatches_26 (c8 rfl) ?_
  refine E_iadd d_X12_hatches_28 ?_
  refine E_iload_n d_X12_hatches_29 rfl ?_
  refine E_iadd d_X12_hatches_30 ?_
  refine E_iload d_X12_hatches_31 rfl ?_
  refine E_iastore d_X12_hatches_33 h (fun σ4 h => ?_)
  refine E_aload_n d_X12_hatches_34 rfl (by decide) ?_
  refine E_get d_X12_hatches_35 okX12 fl_X12_35 ⟨by decide, rfl⟩ h (fun x5 h => ?_)
  refine E_iload d_X12_hatches_38 rfl ?_
  refine E_iconst d_X12_hatches_40 (c32 rfl) ?_
  refine E_iadd d_X12_hatches_41 ?_
  refine E_iload_n d_X12_hatches_42 rfl ?_
  refine E_iconst d_X12_hatches_43 (c32 rfl) ?_
  refine E_iadd d_X12_hatches_44 ?_
  refine E_iastore d_X12_hatches_45 h (fun σ6 h => ?_)
  cases h
  exact E_vret d_X12_hatches_46 rfl
noncomputable def f_X12_hatches (v0 v1 v2 v3 v4 : Int) (σ : Mem) : Option (Mem) := if isO Sh 12 v0 = true then f_X12_hatches_b0 v0 v1 v2 v3 v4 σ else none
theorem L_X12_hatches {o : Mem} {v0 v1 v2 v3 v4 : Int} {σ : Mem} (h : f_X12_hatches v0 v1 v2 v3 v4 σ = some o) : (isO Sh 12 v0 = true ∧ Cn mt_X12_hatches 1 [(2, v0), (0, v1), (0, v2), (0, v3), (0, v4)] Sh σ none Sh o) := ⟨(ite_ok h).1, Cn_of mk_X12_hatches.1.2.2.1 (Nat.le_of_ble_eq_true rfl) (fun sc => L_X12_hatches_b0 (ite_ok h).2)⟩
theorem d_X12_readCrow_0 : decode mt_X12_readCrow.2.1 0 = .ok (.aload_n 0, 1) := by decide +kernel
theorem d_X12_readCrow_1 : decode mt_X12_readCrow.2.1 1 = .ok (.iconst 1, 1) := by decide +kernel
theorem d_X12_readCrow_2 : decode mt_X12_readCrow.2.1 2 = .ok (.iconst 4, 1) := by decide +kernel
theorem d_X12_readCrow_3 : decode mt_X12_readCrow.2.1 3 = .ok (.invokevirtual 242, 3) := by decide +kernel
theorem d_X12_readCrow_6 : decode mt_X12_readCrow.2.1 6 = .ok (.istore_n 1, 1) := by decide +kernel
theorem d_X12_readCrow_7 : decode mt_X12_readCrow.2.1 7 = .ok (.aload_n 0, 1) := by decide +kernel
theorem d_X12_readCrow_8 : decode mt_X12_readCrow.2.1 8 = .ok (.aload_n 0, 1) := by decide +kernel
theorem d_X12_readCrow_9 : decode mt_X12_readCrow.2.1 9 = .ok (.invokevirtual 181, 3) := by decide +kernel
theorem d_X12_readCrow_12 : decode mt_X12_readCrow.2.1 12 = .ok (.invokevirtual 216, 3) := by decide +kernel
theorem d_X12_readCrow_15 : decode mt_X12_readCrow.2.1 15 = .ok (.aload_n 0, 1) := by decide +kernel
theorem d_X12_readCrow_16 : decode mt_X12_readCrow.2.1 16 = .ok (.iconst 4, 1) := by decide +kernel
theorem d_X12_readCrow_17 : decode mt_X12_readCrow.2.1 17 = .ok (.iconst 0, 1) := by decide +kernel
theorem d_X12_readCrow_18 : decode mt_X12_readCrow.2.1 18 = .ok (.invokevirtual 257, 3) := by decide +kernel
theorem d_X12_readCrow_21 : decode mt_X12_readCrow.2.1 21 = .ok (.istore_n 2, 1) := by decide +kernel
theorem d_X12_readCrow_22 : decode mt_X12_readCrow.2.1 22 = .ok (.aload_n 0, 1) := by decide +kernel
theorem d_X12_readCrow_23 : decode mt_X12_readCrow.2.1 23 = .ok (.getfield 200, 3) := by decide +kernel
theorem d_X12_readCrow_26 : decode mt_X12_readCrow.2.1 26 = .ok (.ifCond .le 7, 3) := by decide +kernel
theorem d_X12_readCrow_29 : decode mt_X12_readCrow.2.1 29 = .ok (.iconst 0, 1) := by decide +kernel
theorem d_X12_readCrow_30 : decode mt_X12_readCrow.2.1 30 = .ok (.goto 7, 3) := by decide +kernel
theorem d_X12_readCrow_33 : decode mt_X12_readCrow.2.1 33 = .ok (.aload_n 0, 1) := by decide +kernel
theorem d_X12_readCrow_34 : decode mt_X12_readCrow.2.1 34 = .ok (.invokevirtual 184, 3) := by decide +kernel
theorem d_X12_readCrow_37 : decode mt_X12_readCrow.2.1 37 = .ok (.istore_n 3, 1) := by decide +kernel
theorem d_X12_readCrow_38 : decode mt_X12_readCrow.2.1 38 = .ok (.aload_n 0, 1) := by decide +kernel
theorem d_X12_readCrow_39 : decode mt_X12_readCrow.2.1 39 = .ok (.iload_n 3, 1) := by decide +kernel
theorem d_X12_readCrow_40 : decode mt_X12_readCrow.2.1 40 = .ok (.ifCond .lt 7, 3) := by decide +kernel
theorem d_X12_readCrow_43 : decode mt_X12_readCrow.2.1 43 = .ok (.iconst 1, 1) := by decide +kernel
theorem d_X12_readCrow_44 : decode mt_X12_readCrow.2.1 44 = .ok (.goto 4, 3) := by decide +kernel
theorem d_X12_readCrow_47 : decode mt_X12_readCrow.2.1 47 = .ok (.iconst 0, 1) := by decide +kernel
theorem d_X12_readCrow_48 : decode mt_X12_readCrow.2.1 48 = .ok (.invokevirtual 216, 3) := by decide +kernel
theorem d_X12_readCrow_51 : decode mt_X12_readCrow.2.1 51 = .ok (.aload_n 0, 1) := by decide +kernel
theorem d_X12_readCrow_52 : decode mt_X12_readCrow.2.1 52 = .ok (.getfield 200, 3) := by decide +kernel
theorem d_X12_readCrow_55 : decode mt_X12_readCrow.2.1 55 = .ok (.ifCond .ne 11, 3) := by decide +kernel
theorem d_X12_readCrow_58 : decode mt_X12_readCrow.2.1 58 = .ok (.aload_n 0, 1) := by decide +kernel
theorem d_X12_readCrow_59 : decode mt_X12_readCrow.2.1 59 = .ok (.iconst 4, 1) := by decide +kernel
theorem d_X12_readCrow_60 : decode mt_X12_readCrow.2.1 60 = .ok (.iload_n 1, 1) := by decide +kernel
theorem d_X12_readCrow_61 : decode mt_X12_readCrow.2.1 61 = .ok (.iload_n 2, 1) := by decide +kernel
theorem d_X12_readCrow_62 : decode mt_X12_readCrow.2.1 62 = .ok (.iload_n 3, 1) := by decide +kernel
theorem d_X12_readCrow_63 : decode mt_X12_readCrow.2.1 63 = .ok (.invokevirtual 260, 3) := by decide +kernel
theorem d_X12_readCrow_66 : decode mt_X12_readCrow.2.1 66 = .ok (.return_, 1) := by decide +kernel
noncomputable def f_X12_readCrow_b48 (v0 v1 v2 v3 s0 s1 : Int) (σ : Mem) : Option (Mem) :=
  (f_X12_must s1 s0 σ).bind fun r12 =>
  (gf Sh r12 12 v0 12).bind fun x14 =>
  if x14 = 0 then
    (f_X12_hatches v0 4 v1 v2 v3 r12).bind fun r15 =>
    some r15
  else
    some r12
theorem L_X12_readCrow_b48 {sc : Nat × (Nat → Int32)} {o : Mem} {v0 v1 v2 v3 s0 s1 : Int} {σ : Mem} (h : f_X12_readCrow_b48 v0 v1 v2 v3 s0 s1 σ = some o) : E sc (Fm Sh none Sh o) mt_X12_readCrow 7 Sh Sh 48 [(2, v0), (0, v1), (0, v2), (0, v3)] [(0, s0), (2, s1)] Sh σ := by
  unfold f_X12_readCrow_b48 at h
  refine bd h (fun r12 q13 h => ?_)
  refine E_cVv (as := [(0, s0)]) (st := []) (a := s1) d_X12_readCrow_48 mk_X12_must nl_X12_216 (by omega) ⟨rfl, rfl, Nat.le_of_ble_eq_true rfl⟩ okX12 rfl (L_X12_must q13) ?_
  refine E_aload_n d_X12_readCrow_51 rfl (by decide) ?_
  refine E_get d_X12_readCrow_52 okX12 fl_X12_200 ⟨by decide, rfl⟩ h (fun x14 h => ?_)
  refine E_if_ne (tgt := 66) d_X12_readCrow_55 (by decide) h (fun _ h => ?_) (fun _ h => ?_)
  · refine E_aload_n d_X12_readCrow_58 rfl (by decide) ?_
    refine E_iconst d_X12_readCrow_59 (c32 rfl) ?_
    refine E_iload_n d_X12_readCrow_60 rfl ?_
    refine E_iload_n d_X12_readCrow_61 rfl ?_
    refine E_iload_n d_X12_readCrow_62 rfl ?_
    refine bd h (fun r15 q16 h => ?_)
    refine E_cVv (as := [(0, 4), (0, v1), (0, v2), (0, v3)]) (st := []) (a := v0) d_X12_readCrow_63 mk_X12_hatches nl_X12_260 (by omega) ⟨rfl, rfl, Nat.le_of_ble_eq_true rfl⟩ okX12 rfl (L_X12_hatches q16) ?_
    cases h
    exact E_vret d_X12_readCrow_66 rfl
  · cases h
    exact E_vret d_X12_readCrow_66 rfl
noncomputable def f_X12_readCrow_b37 (v0 v1 v2 s0 : Int) (σ : Mem) : Option (Mem) :=
  if s0 < 0 then
    f_X12_readCrow_b48 v0 v1 v2 s0 0 v0 σ
  else
    f_X12_readCrow_b48 v0 v1 v2 s0 1 v0 σ
theorem L_X12_readCrow_b37 {sc : Nat × (Nat → Int32)} {o : Mem} {v0 v1 v2 s0 : Int} {σ : Mem} (h : f_X12_readCrow_b37 v0 v1 v2 s0 σ = some o) : E sc (Fm Sh none Sh o) mt_X12_readCrow 7 Sh Sh 37 [(2, v0), (0, v1), (0, v2), (9, 0)] [(0, s0)] Sh σ := by
  unfold f_X12_readCrow_b37 at h
  refine E_istore_n d_X12_readCrow_37 (ls' := [(2, v0), (0, v1), (0, v2), (0, s0)]) ⟨by decide, rfl⟩ ?_
  refine E_aload_n d_X12_readCrow_38 rfl (by decide) ?_
  refine E_iload_n d_X12_readCrow_39 rfl ?_
  refine E_if_lt (tgt := 47) d_X12_readCrow_40 (by decide) h (fun _ h => ?_) (fun _ h => ?_)
  · refine E_iconst d_X12_readCrow_47 (c32 rfl) ?_
    exact (L_X12_readCrow_b48 h)
  · refine E_iconst d_X12_readCrow_43 (c32 rfl) ?_
    refine E_goto (tgt := 48) d_X12_readCrow_44 (by decide) ?_
    exact (L_X12_readCrow_b48 h)
noncomputable def f_X12_readCrow_b0 (v0 : Int) (σ : Mem) : Option (Mem) :=
  (f_X12_readNew v0 1 4 σ).bind fun r1 =>
  (f_X12_isOn v0 r1.2).bind fun r3 =>
  (f_X12_must v0 r3 r1.2).bind fun r5 =>
  (f_X12_readTold v0 4 0 r5).bind fun r7 =>
  (gf Sh r7.2 12 v0 12).bind fun x9 =>
  if x9 ≤ 0 then
    (f_X12_sideWord v0 r7.2).bind fun r10 =>
    f_X12_readCrow_b37 v0 r1.1 r7.1 r10 r7.2
  else
    f_X12_readCrow_b37 v0 r1.1 r7.1 0 r7.2
theorem L_X12_readCrow_b0 {sc : Nat × (Nat → Int32)} {o : Mem} {v0 : Int} {σ : Mem} (h : f_X12_readCrow_b0 v0 σ = some o) : E sc (Fm Sh none Sh o) mt_X12_readCrow 7 Sh Sh 0 [(2, v0), (9, 0), (9, 0), (9, 0)] [] Sh σ := by
  unfold f_X12_readCrow_b0 at h
  refine E_aload_n d_X12_readCrow_0 rfl (by decide) ?_
  refine E_iconst d_X12_readCrow_1 (c32 rfl) ?_
  refine E_iconst d_X12_readCrow_2 (c32 rfl) ?_
  refine bd h (fun r1 q2 h => ?_)
  refine E_cV (as := [(0, 1), (0, 4)]) (st := []) (a := v0) d_X12_readCrow_3 mk_X12_readNew nl_X12_242 (by omega) ⟨rfl, rfl, Nat.le_of_ble_eq_true rfl⟩ okX12 rfl (L_X12_readNew q2) ?_
  refine E_istore_n d_X12_readCrow_6 (ls' := [(2, v0), (0, r1.1), (9, 0), (9, 0)]) ⟨by decide, rfl⟩ ?_
  refine E_aload_n d_X12_readCrow_7 rfl (by decide) ?_
  refine E_aload_n d_X12_readCrow_8 rfl (by decide) ?_
  refine bd h (fun r3 q4 h => ?_)
  refine E_cV (as := []) (st := [(2, v0)]) (a := v0) d_X12_readCrow_9 mk_X12_isOn nl_X12_181 (by omega) ⟨rfl, rfl, Nat.le_of_ble_eq_true rfl⟩ okX12 rfl (L_X12_isOn q4) ?_
  refine bd h (fun r5 q6 h => ?_)
  refine E_cVv (as := [(0, r3)]) (st := []) (a := v0) d_X12_readCrow_12 mk_X12_must nl_X12_216 (by omega) ⟨rfl, rfl, Nat.le_of_ble_eq_true rfl⟩ okX12 rfl (L_X12_must q6) ?_
  refine E_aload_n d_X12_readCrow_15 rfl (by decide) ?_
  refine E_iconst d_X12_readCrow_16 (c32 rfl) ?_
  refine E_iconst d_X12_readCrow_17 (c32 rfl) ?_
  refine bd h (fun r7 q8 h => ?_)
  refine E_cV (as := [(0, 4), (0, 0)]) (st := []) (a := v0) d_X12_readCrow_18 mk_X12_readTold nl_X12_257 (by omega) ⟨rfl, rfl, Nat.le_of_ble_eq_true rfl⟩ okX12 rfl (L_X12_readTold q8) ?_
  refine E_istore_n d_X12_readCrow_21 (ls' := [(2, v0), (0, r1.1), (0, r7.1), (9, 0)]) ⟨by decide, rfl⟩ ?_
  refine E_aload_n d_X12_readCrow_22 rfl (by decide) ?_
  refine E_get d_X12_readCrow_23 okX12 fl_X12_200 ⟨by decide, rfl⟩ h (fun x9 h => ?_)
  refine E_if_le (tgt := 33) d_X12_readCrow_26 (by decide) h (fun _ h => ?_) (fun _ h => ?_)
  · refine E_aload_n d_X12_readCrow_33 rfl (by decide) ?_
    refine bd h (fun r10 q11 h => ?_)
    refine E_cV (as := []) (st := []) (a := v0) d_X12_readCrow_34 mk_X12_sideWord nl_X12_184 (by omega) ⟨rfl, rfl, Nat.le_of_ble_eq_true rfl⟩ okX12 rfl (L_X12_sideWord q11) ?_
    exact (L_X12_readCrow_b37 h)
  · refine E_iconst d_X12_readCrow_29 (c32 rfl) ?_
    refine E_goto (tgt := 37) d_X12_readCrow_30 (by decide) ?_
    exact (L_X12_readCrow_b37 h)
noncomputable def f_X12_readCrow (v0 : Int) (σ : Mem) : Option (Mem) := if isO Sh 12 v0 = true then f_X12_readCrow_b0 v0 σ else none
theorem L_X12_readCrow {o : Mem} {v0 : Int} {σ : Mem} (h : f_X12_readCrow v0 σ = some o) : (isO Sh 12 v0 = true ∧ Cn mt_X12_readCrow 7 [(2, v0)] Sh σ none Sh o) := ⟨(ite_ok h).1, Cn_of mk_X12_readCrow.1.2.2.1 (Nat.le_of_ble_eq_true rfl) (fun sc => L_X12_readCrow_b0 (ite_ok h).2)⟩
theorem d_X12_readPart_0 : decode mt_X12_readPart.2.1 0 = .ok (.aload_n 0, 1) := by decide +kernel
theorem d_X12_readPart_1 : decode mt_X12_readPart.2.1 1 = .ok (.invokevirtual 163, 3) := by decide +kernel
theorem d_X12_readPart_4 : decode mt_X12_readPart.2.1 4 = .ok (.ifCond .eq 10, 3) := by decide +kernel
theorem d_X12_readPart_7 : decode mt_X12_readPart.2.1 7 = .ok (.aload_n 0, 1) := by decide +kernel
theorem d_X12_readPart_8 : decode mt_X12_readPart.2.1 8 = .ok (.invokevirtual 263, 3) := by decide +kernel
theorem d_X12_readPart_11 : decode mt_X12_readPart.2.1 11 = .ok (.goto 49, 3) := by decide +kernel
theorem d_X12_readPart_14 : decode mt_X12_readPart.2.1 14 = .ok (.aload_n 0, 1) := by decide +kernel
theorem d_X12_readPart_15 : decode mt_X12_readPart.2.1 15 = .ok (.invokevirtual 166, 3) := by decide +kernel
theorem d_X12_readPart_18 : decode mt_X12_readPart.2.1 18 = .ok (.ifCond .eq 10, 3) := by decide +kernel
theorem d_X12_readPart_21 : decode mt_X12_readPart.2.1 21 = .ok (.aload_n 0, 1) := by decide +kernel
theorem d_X12_readPart_22 : decode mt_X12_readPart.2.1 22 = .ok (.invokevirtual 266, 3) := by decide +kernel
theorem d_X12_readPart_25 : decode mt_X12_readPart.2.1 25 = .ok (.goto 35, 3) := by decide +kernel
theorem d_X12_readPart_28 : decode mt_X12_readPart.2.1 28 = .ok (.aload_n 0, 1) := by decide +kernel
theorem d_X12_readPart_29 : decode mt_X12_readPart.2.1 29 = .ok (.invokevirtual 175, 3) := by decide +kernel
theorem d_X12_readPart_32 : decode mt_X12_readPart.2.1 32 = .ok (.ifCond .eq 10, 3) := by decide +kernel
theorem d_X12_readPart_35 : decode mt_X12_readPart.2.1 35 = .ok (.aload_n 0, 1) := by decide +kernel
theorem d_X12_readPart_36 : decode mt_X12_readPart.2.1 36 = .ok (.invokevirtual 269, 3) := by decide +kernel
theorem d_X12_readPart_39 : decode mt_X12_readPart.2.1 39 = .ok (.goto 21, 3) := by decide +kernel
theorem d_X12_readPart_42 : decode mt_X12_readPart.2.1 42 = .ok (.aload_n 0, 1) := by decide +kernel
theorem d_X12_readPart_43 : decode mt_X12_readPart.2.1 43 = .ok (.invokevirtual 178, 3) := by decide +kernel
theorem d_X12_readPart_46 : decode mt_X12_readPart.2.1 46 = .ok (.ifCond .eq 10, 3) := by decide +kernel
theorem d_X12_readPart_49 : decode mt_X12_readPart.2.1 49 = .ok (.aload_n 0, 1) := by decide +kernel
theorem d_X12_readPart_50 : decode mt_X12_readPart.2.1 50 = .ok (.invokevirtual 272, 3) := by decide +kernel
theorem d_X12_readPart_53 : decode mt_X12_readPart.2.1 53 = .ok (.goto 7, 3) := by decide +kernel
theorem d_X12_readPart_56 : decode mt_X12_readPart.2.1 56 = .ok (.aload_n 0, 1) := by decide +kernel
theorem d_X12_readPart_57 : decode mt_X12_readPart.2.1 57 = .ok (.invokevirtual 213, 3) := by decide +kernel
theorem d_X12_readPart_60 : decode mt_X12_readPart.2.1 60 = .ok (.return_, 1) := by decide +kernel
noncomputable def f_X12_readPart_b0 (v0 : Int) (σ : Mem) : Option (Mem) :=
  (f_X12_isOdds v0 σ).bind fun r1 =>
  if r1 = 0 then
    (f_X12_isStone v0 σ).bind fun r3 =>
    if r3 = 0 then
      (f_X12_isGap v0 σ).bind fun r5 =>
      if r5 = 0 then
        (f_X12_isCrow v0 σ).bind fun r7 =>
        if r7 = 0 then
          (f_X12_amiss v0 σ).bind fun r9 =>
          some r9
        else
          (f_X12_readCrow v0 σ).bind fun r11 =>
          some r11
      else
        (f_X12_readGap v0 σ).bind fun r13 =>
        some r13
    else
      (f_X12_readStone v0 σ).bind fun r15 =>
      some r15
  else
    (f_X12_readOdds v0 σ).bind fun r17 =>
    some r17
theorem L_X12_readPart_b0 {sc : Nat × (Nat → Int32)} {o : Mem} {v0 : Int} {σ : Mem} (h : f_X12_readPart_b0 v0 σ = some o) : E sc (Fm Sh none Sh o) mt_X12_readPart 8 Sh Sh 0 [(2, v0)] [] Sh σ := by
  unfold f_X12_readPart_b0 at h
  refine E_aload_n d_X12_readPart_0 rfl (by decide) ?_
  refine bd h (fun r1 q2 h => ?_)
  refine E_cV (as := []) (st := []) (a := v0) d_X12_readPart_1 mk_X12_isOdds nl_X12_163 (by omega) ⟨rfl, rfl, Nat.le_of_ble_eq_true rfl⟩ okX12 rfl (L_X12_isOdds q2) ?_
  refine E_if_eq (tgt := 14) d_X12_readPart_4 (by decide) h (fun _ h => ?_) (fun _ h => ?_)
  · refine E_aload_n d_X12_readPart_14 rfl (by decide) ?_
    refine bd h (fun r3 q4 h => ?_)
    refine E_cV (as := []) (st := []) (a := v0) d_X12_readPart_15 mk_X12_isStone nl_X12_166 (by omega) ⟨rfl, rfl, Nat.le_of_ble_eq_true rfl⟩ okX12 rfl (L_X12_isStone q4) ?_
    refine E_if_eq (tgt := 28) d_X12_readPart_18 (by decide) h (fun _ h => ?_) (fun _ h => ?_)
    · refine E_aload_n d_X12_readPart_28 rfl (by decide) ?_
      refine bd h (fun r5 q6 h => ?_)
      refine E_cV (as := []) (st := []) (a := v0) d_X12_readPart_29 mk_X12_isGap nl_X12_175 (by omega) ⟨rfl, rfl, Nat.le_of_ble_eq_true rfl⟩ okX12 rfl (L_X12_isGap q6) ?_
      refine E_if_eq (tgt := 42) d_X12_readPart_32 (by decide) h (fun _ h => ?_) (fun _ h => ?_)
      · refine E_aload_n d_X12_readPart_42 rfl (by decide) ?_
        refine bd h (fun r7 q8 h => ?_)
        refine E_cV (as := []) (st := []) (a := v0) d_X12_readPart_43 mk_X12_isCrow nl_X12_178 (by omega) ⟨rfl, rfl, Nat.le_of_ble_eq_true rfl⟩ okX12 rfl (L_X12_isCrow q8) ?_
        refine E_if_eq (tgt := 56) d_X12_readPart_46 (by decide) h (fun _ h => ?_) (fun _ h => ?_)
        · refine E_aload_n d_X12_readPart_56 rfl (by decide) ?_
          refine bd h (fun r9 q10 h => ?_)
          refine E_cVv (as := []) (st := []) (a := v0) d_X12_readPart_57 mk_X12_amiss nl_X12_213 (by omega) ⟨rfl, rfl, Nat.le_of_ble_eq_true rfl⟩ okX12 rfl (L_X12_amiss q10) ?_
          cases h
          exact E_vret d_X12_readPart_60 rfl
        · refine E_aload_n d_X12_readPart_49 rfl (by decide) ?_
          refine bd h (fun r11 q12 h => ?_)
          refine E_cVv (as := []) (st := []) (a := v0) d_X12_readPart_50 mk_X12_readCrow nl_X12_272 (by omega) ⟨rfl, rfl, Nat.le_of_ble_eq_true rfl⟩ okX12 rfl (L_X12_readCrow q12) ?_
          refine E_goto (tgt := 60) d_X12_readPart_53 (by decide) ?_
          cases h
          exact E_vret d_X12_readPart_60 rfl
      · refine E_aload_n d_X12_readPart_35 rfl (by decide) ?_
        refine bd h (fun r13 q14 h => ?_)
        refine E_cVv (as := []) (st := []) (a := v0) d_X12_readPart_36 mk_X12_readGap nl_X12_269 (by omega) ⟨rfl, rfl, Nat.le_of_ble_eq_true rfl⟩ okX12 rfl (L_X12_readGap q14) ?_
        refine E_goto (tgt := 60) d_X12_readPart_39 (by decide) ?_
        cases h
        exact E_vret d_X12_readPart_60 rfl
    · refine E_aload_n d_X12_readPart_21 rfl (by decide) ?_
      refine bd h (fun r15 q16 h => ?_)
      refine E_cVv (as := []) (st := []) (a := v0) d_X12_readPart_22 mk_X12_readStone nl_X12_266 (by omega) ⟨rfl, rfl, Nat.le_of_ble_eq_true rfl⟩ okX12 rfl (L_X12_readStone q16) ?_
      refine E_goto (tgt := 60) d_X12_readPart_25 (by decide) ?_
      cases h
      exact E_vret d_X12_readPart_60 rfl
  · refine E_aload_n d_X12_readPart_7 rfl (by decide) ?_
    refine bd h (fun r17 q18 h => ?_)
    refine E_cVv (as := []) (st := []) (a := v0) d_X12_readPart_8 mk_X12_readOdds nl_X12_263 (by omega) ⟨rfl, rfl, Nat.le_of_ble_eq_true rfl⟩ okX12 rfl (L_X12_readOdds q18) ?_
    refine E_goto (tgt := 60) d_X12_readPart_11 (by decide) ?_
    cases h
    exact E_vret d_X12_readPart_60 rfl
noncomputable def f_X12_readPart (v0 : Int) (σ : Mem) : Option (Mem) := if isO Sh 12 v0 = true then f_X12_readPart_b0 v0 σ else none
theorem L_X12_readPart {o : Mem} {v0 : Int} {σ : Mem} (h : f_X12_readPart v0 σ = some o) : (isO Sh 12 v0 = true ∧ Cn mt_X12_readPart 8 [(2, v0)] Sh σ none Sh o) := ⟨(ite_ok h).1, Cn_of mk_X12_readPart.1.2.2.1 (Nat.le_of_ble_eq_true rfl) (fun sc => L_X12_readPart_b0 (ite_ok h).2)⟩
theorem d_X12_isSign_0 : decode mt_X12_isSign.2.1 0 = .ok (.aload_n 0, 1) := by decide +kernel
theorem d_X12_isSign_1 : decode mt_X12_isSign.2.1 1 = .ok (.getfield 124, 3) := by decide +kernel
theorem d_X12_isSign_4 : decode mt_X12_isSign.2.1 4 = .ok (.iconst 3, 1) := by decide +kernel
theorem d_X12_isSign_5 : decode mt_X12_isSign.2.1 5 = .ok (.if_icmp .ne 15, 3) := by decide +kernel
theorem d_X12_isSign_8 : decode mt_X12_isSign.2.1 8 = .ok (.aload_n 0, 1) := by decide +kernel
theorem d_X12_isSign_9 : decode mt_X12_isSign.2.1 9 = .ok (.getfield 143, 3) := by decide +kernel
theorem d_X12_isSign_12 : decode mt_X12_isSign.2.1 12 = .ok (.iload_n 1, 1) := by decide +kernel
theorem d_X12_isSign_13 : decode mt_X12_isSign.2.1 13 = .ok (.if_icmp .ne 7, 3) := by decide +kernel
theorem d_X12_isSign_16 : decode mt_X12_isSign.2.1 16 = .ok (.iconst 1, 1) := by decide +kernel
theorem d_X12_isSign_17 : decode mt_X12_isSign.2.1 17 = .ok (.goto 4, 3) := by decide +kernel
theorem d_X12_isSign_20 : decode mt_X12_isSign.2.1 20 = .ok (.iconst 0, 1) := by decide +kernel
theorem d_X12_isSign_21 : decode mt_X12_isSign.2.1 21 = .ok (.ireturn, 1) := by decide +kernel
noncomputable def f_X12_isSign_b0 (v0 v1 : Int) (σ : Mem) : Option (Int) :=
  (gf Sh σ 12 v0 14).bind fun x1 =>
  if x1 = 3 then
    (gf Sh σ 12 v0 17).bind fun x2 =>
    if x2 = v1 then
      some (1)
    else
      some (0)
  else
    some (0)
theorem L_X12_isSign_b0 {sc : Nat × (Nat → Int32)} {o : Int} {σ : Mem} {v0 v1 : Int} (h : f_X12_isSign_b0 v0 v1 σ = some o) : E sc (Fm Sh (some (0, o)) Sh σ) mt_X12_isSign 1 Sh Sh 0 [(2, v0), (0, v1)] [] Sh σ := by
  unfold f_X12_isSign_b0 at h
  refine E_aload_n d_X12_isSign_0 rfl (by decide) ?_
  refine E_get d_X12_isSign_1 okX12 fl_X12_124 ⟨by decide, rfl⟩ h (fun x1 h => ?_)
  refine E_iconst d_X12_isSign_4 (c32 rfl) ?_
  refine E_icmp_ne (tgt := 20) d_X12_isSign_5 (by decide) h (fun _ h => ?_) (fun _ h => ?_)
  · refine E_aload_n d_X12_isSign_8 rfl (by decide) ?_
    refine E_get d_X12_isSign_9 okX12 fl_X12_143 ⟨by decide, rfl⟩ h (fun x2 h => ?_)
    refine E_iload_n d_X12_isSign_12 rfl ?_
    refine E_icmp_ne (tgt := 20) d_X12_isSign_13 (by decide) h (fun _ h => ?_) (fun _ h => ?_)
    · refine E_iconst d_X12_isSign_16 (c32 rfl) ?_
      refine E_goto (tgt := 21) d_X12_isSign_17 (by decide) ?_
      cases h
      exact E_zret d_X12_isSign_21 rfl (Or.inr rfl)
    · refine E_iconst d_X12_isSign_20 (c32 rfl) ?_
      cases h
      exact E_zret d_X12_isSign_21 rfl (Or.inl rfl)
  · refine E_iconst d_X12_isSign_20 (c32 rfl) ?_
    cases h
    exact E_zret d_X12_isSign_21 rfl (Or.inl rfl)
noncomputable def f_X12_isSign (v0 v1 : Int) (σ : Mem) : Option (Int) := if isO Sh 12 v0 = true then f_X12_isSign_b0 v0 v1 σ else none
theorem L_X12_isSign {o : Int} {v0 v1 : Int} {σ : Mem} (h : f_X12_isSign v0 v1 σ = some o) : (isO Sh 12 v0 = true ∧ Cn mt_X12_isSign 1 [(2, v0), (0, v1)] Sh σ (some (0, o)) Sh σ) := ⟨(ite_ok h).1, Cn_of mk_X12_isSign.1.2.2.1 (Nat.le_of_ble_eq_true rfl) (fun sc => L_X12_isSign_b0 (ite_ok h).2)⟩
theorem d_X12_isWell_0 : decode mt_X12_isWell.2.1 0 = .ok (.aload_n 0, 1) := by decide +kernel
theorem d_X12_isWell_1 : decode mt_X12_isWell.2.1 1 = .ok (.aload_n 0, 1) := by decide +kernel
theorem d_X12_isWell_2 : decode mt_X12_isWell.2.1 2 = .ok (.getfield 200, 3) := by decide +kernel
theorem d_X12_isWell_5 : decode mt_X12_isWell.2.1 5 = .ok (.putfield 28, 3) := by decide +kernel
theorem d_X12_isWell_8 : decode mt_X12_isWell.2.1 8 = .ok (.aload_n 0, 1) := by decide +kernel
theorem d_X12_isWell_9 : decode mt_X12_isWell.2.1 9 = .ok (.aload_n 0, 1) := by decide +kernel
theorem d_X12_isWell_10 : decode mt_X12_isWell.2.1 10 = .ok (.getfield 200, 3) := by decide +kernel
theorem d_X12_isWell_13 : decode mt_X12_isWell.2.1 13 = .ok (.ifCond .ne 7, 3) := by decide +kernel
theorem d_X12_isWell_16 : decode mt_X12_isWell.2.1 16 = .ok (.iconst (-1), 1) := by decide +kernel
theorem d_X12_isWell_17 : decode mt_X12_isWell.2.1 17 = .ok (.goto 7, 3) := by decide +kernel
theorem d_X12_isWell_20 : decode mt_X12_isWell.2.1 20 = .ok (.aload_n 0, 1) := by decide +kernel
theorem d_X12_isWell_21 : decode mt_X12_isWell.2.1 21 = .ok (.getfield 203, 3) := by decide +kernel
theorem d_X12_isWell_24 : decode mt_X12_isWell.2.1 24 = .ok (.putfield 32, 3) := by decide +kernel
theorem d_X12_isWell_27 : decode mt_X12_isWell.2.1 27 = .ok (.aload_n 0, 1) := by decide +kernel
theorem d_X12_isWell_28 : decode mt_X12_isWell.2.1 28 = .ok (.getfield 200, 3) := by decide +kernel
theorem d_X12_isWell_31 : decode mt_X12_isWell.2.1 31 = .ok (.ifCond .eq 12, 3) := by decide +kernel
theorem d_X12_isWell_34 : decode mt_X12_isWell.2.1 34 = .ok (.aload_n 0, 1) := by decide +kernel
theorem d_X12_isWell_35 : decode mt_X12_isWell.2.1 35 = .ok (.bipush 10, 2) := by decide +kernel
theorem d_X12_isWell_37 : decode mt_X12_isWell.2.1 37 = .ok (.invokevirtual 85, 3) := by decide +kernel
theorem d_X12_isWell_40 : decode mt_X12_isWell.2.1 40 = .ok (.ifCond .eq 7, 3) := by decide +kernel
theorem d_X12_isWell_43 : decode mt_X12_isWell.2.1 43 = .ok (.iconst 1, 1) := by decide +kernel
theorem d_X12_isWell_44 : decode mt_X12_isWell.2.1 44 = .ok (.goto 4, 3) := by decide +kernel
theorem d_X12_isWell_47 : decode mt_X12_isWell.2.1 47 = .ok (.iconst 0, 1) := by decide +kernel
theorem d_X12_isWell_48 : decode mt_X12_isWell.2.1 48 = .ok (.ireturn, 1) := by decide +kernel
noncomputable def f_X12_isWell_b43 (σ : Mem) : Option (Int × Mem) :=
  some (1, σ)
theorem L_X12_isWell_b43 {sc : Nat × (Nat → Int32)} {o : Int × Mem} {σ : Mem} (h : f_X12_isWell_b43  σ = some o) : E sc (Fm Sh (some (0, o.1)) Sh o.2) mt_X12_isWell 2 Sh Sh 43 [(9, 0)] [] Sh σ := by
  unfold f_X12_isWell_b43 at h
  refine E_iconst d_X12_isWell_43 (c32 rfl) ?_
  refine E_goto (tgt := 48) d_X12_isWell_44 (by decide) ?_
  cases h
  exact E_zret d_X12_isWell_48 rfl (Or.inr rfl)
noncomputable def f_X12_isWell_b24 (v0 s0 s1 : Int) (σ : Mem) : Option (Int × Mem) :=
  (pf Sh σ 12 s1 11 s0).bind fun σ5 =>
  (gf Sh σ5 12 v0 12).bind fun x6 =>
  if x6 = 0 then
    f_X12_isWell_b43  σ5
  else
    (f_X12_no v0 10 σ5).bind fun r7 =>
    if r7.1 = 0 then
      some (0, r7.2)
    else
      f_X12_isWell_b43  r7.2
theorem L_X12_isWell_b24 {sc : Nat × (Nat → Int32)} {o : Int × Mem} {v0 s0 s1 : Int} {σ : Mem} (h : f_X12_isWell_b24 v0 s0 s1 σ = some o) : E sc (Fm Sh (some (0, o.1)) Sh o.2) mt_X12_isWell 2 Sh Sh 24 [(2, v0)] [(0, s0), (2, s1)] Sh σ := by
  unfold f_X12_isWell_b24 at h
  refine E_put d_X12_isWell_24 okX12 fl_X12_32 ⟨by decide, rfl⟩ (Or.inl ⟨rfl, rfl⟩) (Or.inl rfl) h (fun σ5 h => ?_)
  refine E_aload_n d_X12_isWell_27 rfl (by decide) ?_
  refine E_get d_X12_isWell_28 okX12 fl_X12_200 ⟨by decide, rfl⟩ h (fun x6 h => ?_)
  refine E_if_eq (tgt := 43) d_X12_isWell_31 (by decide) h (fun _ h => ?_) (fun _ h => ?_)
  · exact E_weak (ls' := [(9, 0)]) ⟨Or.inl rfl, trivial⟩ (L_X12_isWell_b43 h)
  · refine E_aload_n d_X12_isWell_34 rfl (by decide) ?_
    refine E_bipush d_X12_isWell_35 (c8 rfl) ?_
    refine bd h (fun r7 q8 h => ?_)
    refine E_cV (as := [(0, 10)]) (st := []) (a := v0) d_X12_isWell_37 mk_X12_no nl_X12_85 (by omega) ⟨rfl, rfl, Nat.le_of_ble_eq_true rfl⟩ okX12 rfl (L_X12_no q8) ?_
    refine E_if_eq (tgt := 47) d_X12_isWell_40 (by decide) h (fun _ h => ?_) (fun _ h => ?_)
    · refine E_iconst d_X12_isWell_47 (c32 rfl) ?_
      cases h
      exact E_zret d_X12_isWell_48 rfl (Or.inl rfl)
    · exact E_weak (ls' := [(9, 0)]) ⟨Or.inl rfl, trivial⟩ (L_X12_isWell_b43 h)
noncomputable def f_X12_isWell_b0 (v0 : Int) (σ : Mem) : Option (Int × Mem) :=
  (gf Sh σ 12 v0 12).bind fun x1 =>
  (pf Sh σ 12 v0 10 x1).bind fun σ2 =>
  (gf Sh σ2 12 v0 12).bind fun x3 =>
  if x3 = 0 then
    f_X12_isWell_b24 v0 (-1) v0 σ2
  else
    (gf Sh σ2 12 v0 13).bind fun x4 =>
    f_X12_isWell_b24 v0 x4 v0 σ2
theorem L_X12_isWell_b0 {sc : Nat × (Nat → Int32)} {o : Int × Mem} {v0 : Int} {σ : Mem} (h : f_X12_isWell_b0 v0 σ = some o) : E sc (Fm Sh (some (0, o.1)) Sh o.2) mt_X12_isWell 2 Sh Sh 0 [(2, v0)] [] Sh σ := by
  unfold f_X12_isWell_b0 at h
  refine E_aload_n d_X12_isWell_0 rfl (by decide) ?_
  refine E_aload_n d_X12_isWell_1 rfl (by decide) ?_
  refine E_get d_X12_isWell_2 okX12 fl_X12_200 ⟨by decide, rfl⟩ h (fun x1 h => ?_)
  refine E_put d_X12_isWell_5 okX12 fl_X12_28 ⟨by decide, rfl⟩ (Or.inl ⟨rfl, rfl⟩) (Or.inl rfl) h (fun σ2 h => ?_)
  refine E_aload_n d_X12_isWell_8 rfl (by decide) ?_
  refine E_aload_n d_X12_isWell_9 rfl (by decide) ?_
  refine E_get d_X12_isWell_10 okX12 fl_X12_200 ⟨by decide, rfl⟩ h (fun x3 h => ?_)
  refine E_if_ne (tgt := 20) d_X12_isWell_13 (by decide) h (fun _ h => ?_) (fun _ h => ?_)
  · refine E_iconst d_X12_isWell_16 (c32 rfl) ?_
    refine E_goto (tgt := 24) d_X12_isWell_17 (by decide) ?_
    exact (L_X12_isWell_b24 h)
  · refine E_aload_n d_X12_isWell_20 rfl (by decide) ?_
    refine E_get d_X12_isWell_21 okX12 fl_X12_203 ⟨by decide, rfl⟩ h (fun x4 h => ?_)
    exact (L_X12_isWell_b24 h)
noncomputable def f_X12_isWell (v0 : Int) (σ : Mem) : Option (Int × Mem) := if isO Sh 12 v0 = true then f_X12_isWell_b0 v0 σ else none
theorem L_X12_isWell {o : Int × Mem} {v0 : Int} {σ : Mem} (h : f_X12_isWell v0 σ = some o) : (isO Sh 12 v0 = true ∧ Cn mt_X12_isWell 2 [(2, v0)] Sh σ (some (0, o.1)) Sh o.2) := ⟨(ite_ok h).1, Cn_of mk_X12_isWell.1.2.2.1 (Nat.le_of_ble_eq_true rfl) (fun sc => L_X12_isWell_b0 (ite_ok h).2)⟩
theorem d_X12_copy_0 : decode mt_X12_copy.2.1 0 = .ok (.iconst 0, 1) := by decide +kernel
theorem d_X12_copy_1 : decode mt_X12_copy.2.1 1 = .ok (.istore_n 3, 1) := by decide +kernel
theorem d_X12_copy_2 : decode mt_X12_copy.2.1 2 = .ok (.iload_n 3, 1) := by decide +kernel
theorem d_X12_copy_3 : decode mt_X12_copy.2.1 3 = .ok (.sipush 327, 3) := by decide +kernel
theorem d_X12_copy_6 : decode mt_X12_copy.2.1 6 = .ok (.if_icmp .ge 33, 3) := by decide +kernel
theorem d_X12_copy_9 : decode mt_X12_copy.2.1 9 = .ok (.aload_n 0, 1) := by decide +kernel
theorem d_X12_copy_10 : decode mt_X12_copy.2.1 10 = .ok (.getfield 35, 3) := by decide +kernel
theorem d_X12_copy_13 : decode mt_X12_copy.2.1 13 = .ok (.sipush 327, 3) := by decide +kernel
theorem d_X12_copy_16 : decode mt_X12_copy.2.1 16 = .ok (.iload_n 2, 1) := by decide +kernel
theorem d_X12_copy_17 : decode mt_X12_copy.2.1 17 = .ok (.imul, 1) := by decide +kernel
theorem d_X12_copy_18 : decode mt_X12_copy.2.1 18 = .ok (.iload_n 3, 1) := by decide +kernel
theorem d_X12_copy_19 : decode mt_X12_copy.2.1 19 = .ok (.iadd, 1) := by decide +kernel
theorem d_X12_copy_20 : decode mt_X12_copy.2.1 20 = .ok (.aload_n 0, 1) := by decide +kernel
theorem d_X12_copy_21 : decode mt_X12_copy.2.1 21 = .ok (.getfield 35, 3) := by decide +kernel
theorem d_X12_copy_24 : decode mt_X12_copy.2.1 24 = .ok (.sipush 327, 3) := by decide +kernel
theorem d_X12_copy_27 : decode mt_X12_copy.2.1 27 = .ok (.iload_n 1, 1) := by decide +kernel
theorem d_X12_copy_28 : decode mt_X12_copy.2.1 28 = .ok (.imul, 1) := by decide +kernel
theorem d_X12_copy_29 : decode mt_X12_copy.2.1 29 = .ok (.iload_n 3, 1) := by decide +kernel
theorem d_X12_copy_30 : decode mt_X12_copy.2.1 30 = .ok (.iadd, 1) := by decide +kernel
theorem d_X12_copy_31 : decode mt_X12_copy.2.1 31 = .ok (.iaload, 1) := by decide +kernel
theorem d_X12_copy_32 : decode mt_X12_copy.2.1 32 = .ok (.iastore, 1) := by decide +kernel
theorem d_X12_copy_33 : decode mt_X12_copy.2.1 33 = .ok (.iinc 3 1, 3) := by decide +kernel
theorem d_X12_copy_36 : decode mt_X12_copy.2.1 36 = .ok (.goto (-34), 3) := by decide +kernel
theorem d_X12_copy_39 : decode mt_X12_copy.2.1 39 = .ok (.iconst 0, 1) := by decide +kernel
theorem d_X12_copy_40 : decode mt_X12_copy.2.1 40 = .ok (.istore_n 3, 1) := by decide +kernel
theorem d_X12_copy_41 : decode mt_X12_copy.2.1 41 = .ok (.iload_n 3, 1) := by decide +kernel
theorem d_X12_copy_42 : decode mt_X12_copy.2.1 42 = .ok (.bipush 14, 2) := by decide +kernel
theorem d_X12_copy_44 : decode mt_X12_copy.2.1 44 = .ok (.if_icmp .ge 31, 3) := by decide +kernel
theorem d_X12_copy_47 : decode mt_X12_copy.2.1 47 = .ok (.aload_n 0, 1) := by decide +kernel
theorem d_X12_copy_48 : decode mt_X12_copy.2.1 48 = .ok (.getfield 41, 3) := by decide +kernel
theorem d_X12_copy_51 : decode mt_X12_copy.2.1 51 = .ok (.bipush 14, 2) := by decide +kernel
theorem d_X12_copy_53 : decode mt_X12_copy.2.1 53 = .ok (.iload_n 2, 1) := by decide +kernel
theorem d_X12_copy_54 : decode mt_X12_copy.2.1 54 = .ok (.imul, 1) := by decide +kernel
theorem d_X12_copy_55 : decode mt_X12_copy.2.1 55 = .ok (.iload_n 3, 1) := by decide +kernel
theorem d_X12_copy_56 : decode mt_X12_copy.2.1 56 = .ok (.iadd, 1) := by decide +kernel
theorem d_X12_copy_57 : decode mt_X12_copy.2.1 57 = .ok (.aload_n 0, 1) := by decide +kernel
theorem d_X12_copy_58 : decode mt_X12_copy.2.1 58 = .ok (.getfield 41, 3) := by decide +kernel
theorem d_X12_copy_61 : decode mt_X12_copy.2.1 61 = .ok (.bipush 14, 2) := by decide +kernel
theorem d_X12_copy_63 : decode mt_X12_copy.2.1 63 = .ok (.iload_n 1, 1) := by decide +kernel
theorem d_X12_copy_64 : decode mt_X12_copy.2.1 64 = .ok (.imul, 1) := by decide +kernel
theorem d_X12_copy_65 : decode mt_X12_copy.2.1 65 = .ok (.iload_n 3, 1) := by decide +kernel
theorem d_X12_copy_66 : decode mt_X12_copy.2.1 66 = .ok (.iadd, 1) := by decide +kernel
theorem d_X12_copy_67 : decode mt_X12_copy.2.1 67 = .ok (.laload, 1) := by decide +kernel
theorem d_X12_copy_68 : decode mt_X12_copy.2.1 68 = .ok (.lastore, 1) := by decide +kernel
theorem d_X12_copy_69 : decode mt_X12_copy.2.1 69 = .ok (.iinc 3 1, 3) := by decide +kernel
theorem d_X12_copy_72 : decode mt_X12_copy.2.1 72 = .ok (.goto (-31), 3) := by decide +kernel
theorem d_X12_copy_75 : decode mt_X12_copy.2.1 75 = .ok (.return_, 1) := by decide +kernel
noncomputable def f_X12_copy_b41 (k41 : (Int → Int → Int → Int → Mem → Option (Mem))) (v0 v1 v2 v3 : Int) (σ : Mem) : Option (Mem) :=
  if 14 ≤ v3 then
    some σ
  else
    (gf Sh σ 12 v0 22).bind fun x5 =>
    (gf Sh σ 12 v0 22).bind fun x6 =>
    (al Sh σ 21 x6 (w32 (w32 (14 * v1) + v3))).bind fun x7 =>
    (st_ Sh σ 21 x5 (w32 (w32 (14 * v2) + v3)) x7).bind fun σ8 =>
    k41 v0 v1 v2 (w32 (v3 + 1)) σ8
theorem L_X12_copy_b41 {sc : Nat × (Nat → Int32)} {o : Mem} {k41 : (Int → Int → Int → Int → Mem → Option (Mem))} (hk41 : ∀ {v0 v1 v2 v3 : Int} {σ : Mem}, k41 v0 v1 v2 v3 σ = some o → E sc (Fm Sh none Sh o) mt_X12_copy 1 Sh Sh 41 [(2, v0), (0, v1), (0, v2), (0, v3)] [] Sh σ) {v0 v1 v2 v3 : Int} {σ : Mem} (h : f_X12_copy_b41 k41 v0 v1 v2 v3 σ = some o) : E sc (Fm Sh none Sh o) mt_X12_copy 1 Sh Sh 41 [(2, v0), (0, v1), (0, v2), (0, v3)] [] Sh σ := by
  unfold f_X12_copy_b41 at h
  refine E_iload_n d_X12_copy_41 rfl ?_
  refine E_bipush d_X12_copy_42 (c8 rfl) ?_
  refine E_icmp_ge (tgt := 75) d_X12_copy_44 (by decide) h (fun _ h => ?_) (fun _ h => ?_)
  · cases h
    exact E_vret d_X12_copy_75 rfl
  · refine E_aload_n d_X12_copy_47 rfl (by decide) ?_
    refine E_get d_X12_copy_48 okX12 fl_X12_41 ⟨by decide, rfl⟩ h (fun x5 h => ?_)
    refine E_bipush d_X12_copy_51 (c8 rfl) ?_
    refine E_iload_n d_X12_copy_53 rfl ?_
    refine E_imul d_X12_copy_54 ?_
    refine E_iload_n d_X12_copy_55 rfl ?_
    refine E_iadd d_X12_copy_56 ?_
    refine E_aload_n d_X12_copy_57 rfl (by decide) ?_
    refine E_get d_X12_copy_58 okX12 fl_X12_41 ⟨by decide, rfl⟩ h (fun x6 h => ?_)
    refine E_bipush d_X12_copy_61 (c8 rfl) ?_
    refine E_iload_n d_X12_copy_63 rfl ?_
    refine E_imul d_X12_copy_64 ?_
    refine E_iload_n d_X12_copy_65 rfl ?_
    refine E_iadd d_X12_copy_66 ?_
    refine E_laload d_X12_copy_67 h (fun x7 h => ?_)
    refine E_lastore d_X12_copy_68 h (fun σ8 h => ?_)
    refine E_iinc d_X12_copy_69 (ls' := [(2, v0), (0, v1), (0, v2), (0, w32 (v3 + 1))]) rfl ⟨by decide, rfl⟩ ?_
    refine E_goto (tgt := 41) d_X12_copy_72 (by decide) ?_
    exact (hk41 h)
noncomputable def f_X12_copy_h41 (n : Nat) : Int → Int → Int → Int → Mem → Option (Mem) := Nat.rec (motive := fun _ => Int → Int → Int → Int → Mem → Option (Mem)) (fun _ _ _ _ _ => none) (fun _ ih => f_X12_copy_b41 (ih)) n
theorem L_X12_copy_h41 {sc : Nat × (Nat → Int32)} {o : Mem} : ∀ (n : Nat) {v0 v1 v2 v3 : Int} {σ : Mem}, f_X12_copy_h41 n v0 v1 v2 v3 σ = some o → E sc (Fm Sh none Sh o) mt_X12_copy 1 Sh Sh 41 [(2, v0), (0, v1), (0, v2), (0, v3)] [] Sh σ := by
  intro n
  induction n with
  | zero => intro v0 v1 v2 v3 σ h; cases h
  | succ n ih => intro v0 v1 v2 v3 σ h; exact L_X12_copy_b41 (@ih) h
noncomputable def f_X12_copy_b2 (k2 : (Int → Int → Int → Int → Mem → Option (Mem))) (v0 v1 v2 v3 : Int) (σ : Mem) : Option (Mem) :=
  if 327 ≤ v3 then
    f_X12_copy_h41 FU v0 v1 v2 0 σ
  else
    (gf Sh σ 12 v0 20).bind fun x1 =>
    (gf Sh σ 12 v0 20).bind fun x2 =>
    (al Sh σ 20 x2 (w32 (w32 (327 * v1) + v3))).bind fun x3 =>
    (st_ Sh σ 20 x1 (w32 (w32 (327 * v2) + v3)) x3).bind fun σ4 =>
    k2 v0 v1 v2 (w32 (v3 + 1)) σ4
theorem L_X12_copy_b2 {sc : Nat × (Nat → Int32)} {o : Mem} {k2 : (Int → Int → Int → Int → Mem → Option (Mem))} (hk2 : ∀ {v0 v1 v2 v3 : Int} {σ : Mem}, k2 v0 v1 v2 v3 σ = some o → E sc (Fm Sh none Sh o) mt_X12_copy 1 Sh Sh 2 [(2, v0), (0, v1), (0, v2), (0, v3)] [] Sh σ) {v0 v1 v2 v3 : Int} {σ : Mem} (h : f_X12_copy_b2 k2 v0 v1 v2 v3 σ = some o) : E sc (Fm Sh none Sh o) mt_X12_copy 1 Sh Sh 2 [(2, v0), (0, v1), (0, v2), (0, v3)] [] Sh σ := by
  unfold f_X12_copy_b2 at h
  refine E_iload_n d_X12_copy_2 rfl ?_
  refine E_sipush d_X12_copy_3 (c16 rfl) ?_
  refine E_icmp_ge (tgt := 39) d_X12_copy_6 (by decide) h (fun _ h => ?_) (fun _ h => ?_)
  · refine E_iconst d_X12_copy_39 (c32 rfl) ?_
    refine E_istore_n d_X12_copy_40 (ls' := [(2, v0), (0, v1), (0, v2), (0, 0)]) ⟨by decide, rfl⟩ ?_
    exact (L_X12_copy_h41 FU h)
  · refine E_aload_n d_X12_copy_9 rfl (by decide) ?_
    refine E_get d_X12_copy_10 okX12 fl_X12_35 ⟨by decide, rfl⟩ h (fun x1 h => ?_)
    refine E_sipush d_X12_copy_13 (c16 rfl) ?_
    refine E_iload_n d_X12_copy_16 rfl ?_
    refine E_imul d_X12_copy_17 ?_
    refine E_iload_n d_X12_copy_18 rfl ?_
    refine E_iadd d_X12_copy_19 ?_
    refine E_aload_n d_X12_copy_20 rfl (by decide) ?_
    refine E_get d_X12_copy_21 okX12 fl_X12_35 ⟨by decide, rfl⟩ h (fun x2 h => ?_)
    refine E_sipush d_X12_copy_24 (c16 rfl) ?_
    refine E_iload_n d_X12_copy_27 rfl ?_
    refine E_imul d_X12_copy_28 ?_
    refine E_iload_n d_X12_copy_29 rfl ?_
    refine E_iadd d_X12_copy_30 ?_
    refine E_iaload d_X12_copy_31 h (fun x3 h => ?_)
    refine E_iastore d_X12_copy_32 h (fun σ4 h => ?_)
    refine E_iinc d_X12_copy_33 (ls' := [(2, v0), (0, v1), (0, v2), (0, w32 (v3 + 1))]) rfl ⟨by decide, rfl⟩ ?_
    refine E_goto (tgt := 2) d_X12_copy_36 (by decide) ?_
    exact (hk2 h)
noncomputable def f_X12_copy_h2 (n : Nat) : Int → Int → Int → Int → Mem → Option (Mem) := Nat.rec (motive := fun _ => Int → Int → Int → Int → Mem → Option (Mem)) (fun _ _ _ _ _ => none) (fun _ ih => f_X12_copy_b2 (ih)) n
theorem L_X12_copy_h2 {sc : Nat × (Nat → Int32)} {o : Mem} : ∀ (n : Nat) {v0 v1 v2 v3 : Int} {σ : Mem}, f_X12_copy_h2 n v0 v1 v2 v3 σ = some o → E sc (Fm Sh none Sh o) mt_X12_copy 1 Sh Sh 2 [(2, v0), (0, v1), (0, v2), (0, v3)] [] Sh σ := by
  intro n
  induction n with
  | zero => intro v0 v1 v2 v3 σ h; cases h
  | succ n ih => intro v0 v1 v2 v3 σ h; exact L_X12_copy_b2 (@ih) h
noncomputable def f_X12_copy_b0 (v0 v1 v2 : Int) (σ : Mem) : Option (Mem) :=
  f_X12_copy_h2 FU v0 v1 v2 0 σ
theorem L_X12_copy_b0 {sc : Nat × (Nat → Int32)} {o : Mem} {v0 v1 v2 : Int} {σ : Mem} (h : f_X12_copy_b0 v0 v1 v2 σ = some o) : E sc (Fm Sh none Sh o) mt_X12_copy 1 Sh Sh 0 [(2, v0), (0, v1), (0, v2), (9, 0)] [] Sh σ := by
  unfold f_X12_copy_b0 at h
  refine E_iconst d_X12_copy_0 (c32 rfl) ?_
  refine E_istore_n d_X12_copy_1 (ls' := [(2, v0), (0, v1), (0, v2), (0, 0)]) ⟨by decide, rfl⟩ ?_
  exact (L_X12_copy_h2 FU h)
noncomputable def f_X12_copy (v0 v1 v2 : Int) (σ : Mem) : Option (Mem) := if isO Sh 12 v0 = true then f_X12_copy_b0 v0 v1 v2 σ else none
theorem L_X12_copy {o : Mem} {v0 v1 v2 : Int} {σ : Mem} (h : f_X12_copy v0 v1 v2 σ = some o) : (isO Sh 12 v0 = true ∧ Cn mt_X12_copy 1 [(2, v0), (0, v1), (0, v2)] Sh σ none Sh o) := ⟨(ite_ok h).1, Cn_of mk_X12_copy.1.2.2.1 (Nat.le_of_ble_eq_true rfl) (fun sc => L_X12_copy_b0 (ite_ok h).2)⟩
theorem d_X12_wall_0 : decode mt_X12_wall.2.1 0 = .ok (.aload_n 0, 1) := by decide +kernel
theorem d_X12_wall_1 : decode mt_X12_wall.2.1 1 = .ok (.iconst 0, 1) := by decide +kernel
theorem d_X12_wall_2 : decode mt_X12_wall.2.1 2 = .ok (.putfield 70, 3) := by decide +kernel
theorem d_X12_wall_5 : decode mt_X12_wall.2.1 5 = .ok (.aload_n 0, 1) := by decide +kernel
theorem d_X12_wall_6 : decode mt_X12_wall.2.1 6 = .ok (.iconst 0, 1) := by decide +kernel
theorem d_X12_wall_7 : decode mt_X12_wall.2.1 7 = .ok (.putfield 73, 3) := by decide +kernel
theorem d_X12_wall_10 : decode mt_X12_wall.2.1 10 = .ok (.aload_n 0, 1) := by decide +kernel
theorem d_X12_wall_11 : decode mt_X12_wall.2.1 11 = .ok (.iload_n 1, 1) := by decide +kernel
theorem d_X12_wall_12 : decode mt_X12_wall.2.1 12 = .ok (.sipush 900, 3) := by decide +kernel
theorem d_X12_wall_15 : decode mt_X12_wall.2.1 15 = .ok (.invokevirtual 275, 3) := by decide +kernel
theorem d_X12_wall_18 : decode mt_X12_wall.2.1 18 = .ok (.ifCond .ne 5, 3) := by decide +kernel
theorem d_X12_wall_21 : decode mt_X12_wall.2.1 21 = .ok (.iconst (-1), 1) := by decide +kernel
theorem d_X12_wall_22 : decode mt_X12_wall.2.1 22 = .ok (.ireturn, 1) := by decide +kernel
theorem d_X12_wall_23 : decode mt_X12_wall.2.1 23 = .ok (.aload_n 0, 1) := by decide +kernel
theorem d_X12_wall_24 : decode mt_X12_wall.2.1 24 = .ok (.iconst 4, 1) := by decide +kernel
theorem d_X12_wall_25 : decode mt_X12_wall.2.1 25 = .ok (.invokevirtual 66, 3) := by decide +kernel
theorem d_X12_wall_28 : decode mt_X12_wall.2.1 28 = .ok (.aload_n 0, 1) := by decide +kernel
theorem d_X12_wall_29 : decode mt_X12_wall.2.1 29 = .ok (.iconst 0, 1) := by decide +kernel
theorem d_X12_wall_30 : decode mt_X12_wall.2.1 30 = .ok (.putfield 238, 3) := by decide +kernel
theorem d_X12_wall_33 : decode mt_X12_wall.2.1 33 = .ok (.aload_n 0, 1) := by decide +kernel
theorem d_X12_wall_34 : decode mt_X12_wall.2.1 34 = .ok (.getfield 200, 3) := by decide +kernel
theorem d_X12_wall_37 : decode mt_X12_wall.2.1 37 = .ok (.ifCond .ne 27, 3) := by decide +kernel
theorem d_X12_wall_40 : decode mt_X12_wall.2.1 40 = .ok (.aload_n 0, 1) := by decide +kernel
theorem d_X12_wall_41 : decode mt_X12_wall.2.1 41 = .ok (.getfield 124, 3) := by decide +kernel
theorem d_X12_wall_44 : decode mt_X12_wall.2.1 44 = .ok (.ifCond .eq 20, 3) := by decide +kernel
theorem d_X12_wall_47 : decode mt_X12_wall.2.1 47 = .ok (.aload_n 0, 1) := by decide +kernel
theorem d_X12_wall_48 : decode mt_X12_wall.2.1 48 = .ok (.invokevirtual 278, 3) := by decide +kernel
theorem d_X12_wall_51 : decode mt_X12_wall.2.1 51 = .ok (.aload_n 0, 1) := by decide +kernel
theorem d_X12_wall_52 : decode mt_X12_wall.2.1 52 = .ok (.aload_n 0, 1) := by decide +kernel
theorem d_X12_wall_53 : decode mt_X12_wall.2.1 53 = .ok (.bipush 59, 2) := by decide +kernel
theorem d_X12_wall_55 : decode mt_X12_wall.2.1 55 = .ok (.invokevirtual 281, 3) := by decide +kernel
theorem d_X12_wall_58 : decode mt_X12_wall.2.1 58 = .ok (.invokevirtual 216, 3) := by decide +kernel
theorem d_X12_wall_61 : decode mt_X12_wall.2.1 61 = .ok (.goto (-28), 3) := by decide +kernel
theorem d_X12_wall_64 : decode mt_X12_wall.2.1 64 = .ok (.aload_n 0, 1) := by decide +kernel
theorem d_X12_wall_65 : decode mt_X12_wall.2.1 65 = .ok (.invokevirtual 284, 3) := by decide +kernel
theorem d_X12_wall_68 : decode mt_X12_wall.2.1 68 = .ok (.ifCond .ne 5, 3) := by decide +kernel
theorem d_X12_wall_71 : decode mt_X12_wall.2.1 71 = .ok (.iconst (-1), 1) := by decide +kernel
theorem d_X12_wall_72 : decode mt_X12_wall.2.1 72 = .ok (.ireturn, 1) := by decide +kernel
theorem d_X12_wall_73 : decode mt_X12_wall.2.1 73 = .ok (.aload_n 0, 1) := by decide +kernel
theorem d_X12_wall_74 : decode mt_X12_wall.2.1 74 = .ok (.iconst 4, 1) := by decide +kernel
theorem d_X12_wall_75 : decode mt_X12_wall.2.1 75 = .ok (.iconst 0, 1) := by decide +kernel
theorem d_X12_wall_76 : decode mt_X12_wall.2.1 76 = .ok (.invokevirtual 287, 3) := by decide +kernel
theorem d_X12_wall_79 : decode mt_X12_wall.2.1 79 = .ok (.aload_n 0, 1) := by decide +kernel
theorem d_X12_wall_80 : decode mt_X12_wall.2.1 80 = .ok (.getfield 35, 3) := by decide +kernel
theorem d_X12_wall_83 : decode mt_X12_wall.2.1 83 = .ok (.iconst 0, 1) := by decide +kernel
theorem d_X12_wall_84 : decode mt_X12_wall.2.1 84 = .ok (.iaload, 1) := by decide +kernel
theorem d_X12_wall_85 : decode mt_X12_wall.2.1 85 = .ok (.ireturn, 1) := by decide +kernel
noncomputable def f_X12_wall_b64 (v0 : Int) (σ : Mem) : Option (Int × Mem) :=
  (f_X12_isWell v0 σ).bind fun r16 =>
  if r16.1 = 0 then
    some ((-1), r16.2)
  else
    (f_X12_copy v0 4 0 r16.2).bind fun r18 =>
    (gf Sh r18 12 v0 20).bind fun x20 =>
    (al Sh r18 20 x20 0).bind fun x21 =>
    some (x21, r18)
theorem L_X12_wall_b64 {sc : Nat × (Nat → Int32)} {o : Int × Mem} {v0 : Int} {σ : Mem} (h : f_X12_wall_b64 v0 σ = some o) : E sc (Fm Sh (some (0, o.1)) Sh o.2) mt_X12_wall 9 Sh Sh 64 [(2, v0), (9, 0)] [] Sh σ := by
  unfold f_X12_wall_b64 at h
  refine E_aload_n d_X12_wall_64 rfl (by decide) ?_
  refine bd h (fun r16 q17 h => ?_)
  refine E_cV (as := []) (st := []) (a := v0) d_X12_wall_65 mk_X12_isWell nl_X12_284 (by omega) ⟨rfl, rfl, Nat.le_of_ble_eq_true rfl⟩ okX12 rfl (L_X12_isWell q17) ?_
  refine E_if_ne (tgt := 73) d_X12_wall_68 (by decide) h (fun _ h => ?_) (fun _ h => ?_)
  · refine E_iconst d_X12_wall_71 (c32 rfl) ?_
    cases h
    exact E_iret d_X12_wall_72 rfl
  · refine E_aload_n d_X12_wall_73 rfl (by decide) ?_
    refine E_iconst d_X12_wall_74 (c32 rfl) ?_
    refine E_iconst d_X12_wall_75 (c32 rfl) ?_
    refine bd h (fun r18 q19 h => ?_)
    refine E_cVv (as := [(0, 4), (0, 0)]) (st := []) (a := v0) d_X12_wall_76 mk_X12_copy nl_X12_287 (by omega) ⟨rfl, rfl, Nat.le_of_ble_eq_true rfl⟩ okX12 rfl (L_X12_copy q19) ?_
    refine E_aload_n d_X12_wall_79 rfl (by decide) ?_
    refine E_get d_X12_wall_80 okX12 fl_X12_35 ⟨by decide, rfl⟩ h (fun x20 h => ?_)
    refine E_iconst d_X12_wall_83 (c32 rfl) ?_
    refine E_iaload d_X12_wall_84 h (fun x21 h => ?_)
    cases h
    exact E_iret d_X12_wall_85 rfl
noncomputable def f_X12_wall_b33 (k33 : (Int → Mem → Option (Int × Mem))) (v0 : Int) (σ : Mem) : Option (Int × Mem) :=
  (gf Sh σ 12 v0 12).bind fun x8 =>
  if x8 = 0 then
    (gf Sh σ 12 v0 14).bind fun x9 =>
    if x9 = 0 then
      f_X12_wall_b64 v0 σ
    else
      (f_X12_readPart v0 σ).bind fun r10 =>
      (f_X12_isSign v0 59 r10).bind fun r12 =>
      (f_X12_must v0 r12 r10).bind fun r14 =>
      k33 v0 r14
  else
    f_X12_wall_b64 v0 σ
theorem L_X12_wall_b33 {sc : Nat × (Nat → Int32)} {o : Int × Mem} {k33 : (Int → Mem → Option (Int × Mem))} (hk33 : ∀ {v0 : Int} {σ : Mem}, k33 v0 σ = some o → E sc (Fm Sh (some (0, o.1)) Sh o.2) mt_X12_wall 9 Sh Sh 33 [(2, v0), (9, 0)] [] Sh σ) {v0 : Int} {σ : Mem} (h : f_X12_wall_b33 k33 v0 σ = some o) : E sc (Fm Sh (some (0, o.1)) Sh o.2) mt_X12_wall 9 Sh Sh 33 [(2, v0), (9, 0)] [] Sh σ := by
  unfold f_X12_wall_b33 at h
  refine E_aload_n d_X12_wall_33 rfl (by decide) ?_
  refine E_get d_X12_wall_34 okX12 fl_X12_200 ⟨by decide, rfl⟩ h (fun x8 h => ?_)
  refine E_if_ne (tgt := 64) d_X12_wall_37 (by decide) h (fun _ h => ?_) (fun _ h => ?_)
  · refine E_aload_n d_X12_wall_40 rfl (by decide) ?_
    refine E_get d_X12_wall_41 okX12 fl_X12_124 ⟨by decide, rfl⟩ h (fun x9 h => ?_)
    refine E_if_eq (tgt := 64) d_X12_wall_44 (by decide) h (fun _ h => ?_) (fun _ h => ?_)
    · exact (L_X12_wall_b64 h)
    · refine E_aload_n d_X12_wall_47 rfl (by decide) ?_
      refine bd h (fun r10 q11 h => ?_)
      refine E_cVv (as := []) (st := []) (a := v0) d_X12_wall_48 mk_X12_readPart nl_X12_278 (by omega) ⟨rfl, rfl, Nat.le_of_ble_eq_true rfl⟩ okX12 rfl (L_X12_readPart q11) ?_
      refine E_aload_n d_X12_wall_51 rfl (by decide) ?_
      refine E_aload_n d_X12_wall_52 rfl (by decide) ?_
      refine E_bipush d_X12_wall_53 (c8 rfl) ?_
      refine bd h (fun r12 q13 h => ?_)
      refine E_cV (as := [(0, 59)]) (st := [(2, v0)]) (a := v0) d_X12_wall_55 mk_X12_isSign nl_X12_281 (by omega) ⟨rfl, rfl, Nat.le_of_ble_eq_true rfl⟩ okX12 rfl (L_X12_isSign q13) ?_
      refine bd h (fun r14 q15 h => ?_)
      refine E_cVv (as := [(0, r12)]) (st := []) (a := v0) d_X12_wall_58 mk_X12_must nl_X12_216 (by omega) ⟨rfl, rfl, Nat.le_of_ble_eq_true rfl⟩ okX12 rfl (L_X12_must q15) ?_
      refine E_goto (tgt := 33) d_X12_wall_61 (by decide) ?_
      exact (hk33 h)
  · exact (L_X12_wall_b64 h)
noncomputable def f_X12_wall_h33 (n : Nat) : Int → Mem → Option (Int × Mem) := Nat.rec (motive := fun _ => Int → Mem → Option (Int × Mem)) (fun _ _ => none) (fun _ ih => f_X12_wall_b33 (ih)) n
theorem L_X12_wall_h33 {sc : Nat × (Nat → Int32)} {o : Int × Mem} : ∀ (n : Nat) {v0 : Int} {σ : Mem}, f_X12_wall_h33 n v0 σ = some o → E sc (Fm Sh (some (0, o.1)) Sh o.2) mt_X12_wall 9 Sh Sh 33 [(2, v0), (9, 0)] [] Sh σ := by
  intro n
  induction n with
  | zero => intro v0 σ h; cases h
  | succ n ih => intro v0 σ h; exact L_X12_wall_b33 (@ih) h
noncomputable def f_X12_wall_b0 (v0 v1 : Int) (σ : Mem) : Option (Int × Mem) :=
  (pf Sh σ 12 v0 1 0).bind fun σ1 =>
  (pf Sh σ1 12 v0 0 0).bind fun σ2 =>
  (f_X12_starts v0 v1 900 σ2).bind fun r3 =>
  if r3.1 = 0 then
    some ((-1), r3.2)
  else
    (f_X12_empties v0 4 r3.2).bind fun r5 =>
    (pf Sh r5 12 v0 24 0).bind fun σ7 =>
    f_X12_wall_h33 FU v0 σ7
theorem L_X12_wall_b0 {sc : Nat × (Nat → Int32)} {o : Int × Mem} {v0 v1 : Int} {σ : Mem} (h : f_X12_wall_b0 v0 v1 σ = some o) : E sc (Fm Sh (some (0, o.1)) Sh o.2) mt_X12_wall 9 Sh Sh 0 [(2, v0), (0, v1)] [] Sh σ := by
  unfold f_X12_wall_b0 at h
  refine E_aload_n d_X12_wall_0 rfl (by decide) ?_
  refine E_iconst d_X12_wall_1 (c32 rfl) ?_
  refine E_put d_X12_wall_2 okX12 fl_X12_70 ⟨by decide, rfl⟩ (Or.inl ⟨rfl, rfl⟩) (Or.inl rfl) h (fun σ1 h => ?_)
  refine E_aload_n d_X12_wall_5 rfl (by decide) ?_
  refine E_iconst d_X12_wall_6 (c32 rfl) ?_
  refine E_put d_X12_wall_7 okX12 fl_X12_73 ⟨by decide, rfl⟩ (Or.inl ⟨rfl, rfl⟩) (Or.inl rfl) h (fun σ2 h => ?_)
  refine E_aload_n d_X12_wall_10 rfl (by decide) ?_
  refine E_iload_n d_X12_wall_11 rfl ?_
  refine E_sipush d_X12_wall_12 (c16 rfl) ?_
  refine bd h (fun r3 q4 h => ?_)
  refine E_cV (as := [(0, v1), (0, 900)]) (st := []) (a := v0) d_X12_wall_15 mk_X12_starts nl_X12_275 (by omega) ⟨rfl, rfl, Nat.le_of_ble_eq_true rfl⟩ okX12 rfl (L_X12_starts q4) ?_
  refine E_if_ne (tgt := 23) d_X12_wall_18 (by decide) h (fun _ h => ?_) (fun _ h => ?_)
  · refine E_iconst d_X12_wall_21 (c32 rfl) ?_
    cases h
    exact E_iret d_X12_wall_22 rfl
  · refine E_aload_n d_X12_wall_23 rfl (by decide) ?_
    refine E_iconst d_X12_wall_24 (c32 rfl) ?_
    refine bd h (fun r5 q6 h => ?_)
    refine E_cVv (as := [(0, 4)]) (st := []) (a := v0) d_X12_wall_25 mk_X12_empties nl_X12_66 (by omega) ⟨rfl, rfl, Nat.le_of_ble_eq_true rfl⟩ okX12 rfl (L_X12_empties q6) ?_
    refine E_aload_n d_X12_wall_28 rfl (by decide) ?_
    refine E_iconst d_X12_wall_29 (c32 rfl) ?_
    refine E_put d_X12_wall_30 okX12 fl_X12_238 ⟨by decide, rfl⟩ (Or.inr (Or.inr (Or.inl ⟨rfl, rfl, (Or.inl rfl)⟩))) (Or.inl rfl) h (fun σ7 h => ?_)
    exact E_weak (ls' := [(2, v0), (9, 0)]) ⟨Or.inr rfl, Or.inl rfl, trivial⟩ (L_X12_wall_h33 FU h)
noncomputable def f_X12_wall (v0 v1 : Int) (σ : Mem) : Option (Int × Mem) := if isO Sh 12 v0 = true then f_X12_wall_b0 v0 v1 σ else none
theorem L_X12_wall {o : Int × Mem} {v0 v1 : Int} {σ : Mem} (h : f_X12_wall v0 v1 σ = some o) : (isO Sh 12 v0 = true ∧ Cn mt_X12_wall 9 [(2, v0), (0, v1)] Sh σ (some (0, o.1)) Sh o.2) := ⟨(ite_ok h).1, Cn_of mk_X12_wall.1.2.2.1 (Nat.le_of_ble_eq_true rfl) (fun sc => L_X12_wall_b0 (ite_ok h).2)⟩
theorem d_X12_readPlace_0 : decode mt_X12_readPlace.2.1 0 = .ok (.aload_n 0, 1) := by decide +kernel
theorem d_X12_readPlace_1 : decode mt_X12_readPlace.2.1 1 = .ok (.iconst 0, 1) := by decide +kernel
theorem d_X12_readPlace_2 : decode mt_X12_readPlace.2.1 2 = .ok (.aload_n 0, 1) := by decide +kernel
theorem d_X12_readPlace_3 : decode mt_X12_readPlace.2.1 3 = .ok (.getfield 35, 3) := by decide +kernel
theorem d_X12_readPlace_6 : decode mt_X12_readPlace.2.1 6 = .ok (.iconst 0, 1) := by decide +kernel
theorem d_X12_readPlace_7 : decode mt_X12_readPlace.2.1 7 = .ok (.iaload, 1) := by decide +kernel
theorem d_X12_readPlace_8 : decode mt_X12_readPlace.2.1 8 = .ok (.iconst 1, 1) := by decide +kernel
theorem d_X12_readPlace_9 : decode mt_X12_readPlace.2.1 9 = .ok (.isub, 1) := by decide +kernel
theorem d_X12_readPlace_10 : decode mt_X12_readPlace.2.1 10 = .ok (.invokevirtual 220, 3) := by decide +kernel
theorem d_X12_readPlace_13 : decode mt_X12_readPlace.2.1 13 = .ok (.ireturn, 1) := by decide +kernel
noncomputable def f_X12_readPlace_b0 (v0 : Int) (σ : Mem) : Option (Int × Mem) :=
  (gf Sh σ 12 v0 20).bind fun x1 =>
  (al Sh σ 20 x1 0).bind fun x2 =>
  (f_X12_count v0 0 (w32 (x2 - 1)) σ).bind fun r3 =>
  some (r3.1, r3.2)
theorem L_X12_readPlace_b0 {sc : Nat × (Nat → Int32)} {o : Int × Mem} {v0 : Int} {σ : Mem} (h : f_X12_readPlace_b0 v0 σ = some o) : E sc (Fm Sh (some (0, o.1)) Sh o.2) mt_X12_readPlace 4 Sh Sh 0 [(2, v0)] [] Sh σ := by
  unfold f_X12_readPlace_b0 at h
  refine E_aload_n d_X12_readPlace_0 rfl (by decide) ?_
  refine E_iconst d_X12_readPlace_1 (c32 rfl) ?_
  refine E_aload_n d_X12_readPlace_2 rfl (by decide) ?_
  refine E_get d_X12_readPlace_3 okX12 fl_X12_35 ⟨by decide, rfl⟩ h (fun x1 h => ?_)
  refine E_iconst d_X12_readPlace_6 (c32 rfl) ?_
  refine E_iaload d_X12_readPlace_7 h (fun x2 h => ?_)
  refine E_iconst d_X12_readPlace_8 (c32 rfl) ?_
  refine E_isub d_X12_readPlace_9 ?_
  refine bd h (fun r3 q4 h => ?_)
  refine E_cV (as := [(0, 0), (0, w32 (x2 - 1))]) (st := []) (a := v0) d_X12_readPlace_10 mk_X12_count nl_X12_220 (by omega) ⟨rfl, rfl, Nat.le_of_ble_eq_true rfl⟩ okX12 rfl (L_X12_count q4) ?_
  cases h
  exact E_iret d_X12_readPlace_13 rfl
noncomputable def f_X12_readPlace (v0 : Int) (σ : Mem) : Option (Int × Mem) := if isO Sh 12 v0 = true then f_X12_readPlace_b0 v0 σ else none
theorem L_X12_readPlace {o : Int × Mem} {v0 : Int} {σ : Mem} (h : f_X12_readPlace v0 σ = some o) : (isO Sh 12 v0 = true ∧ Cn mt_X12_readPlace 4 [(2, v0)] Sh σ (some (0, o.1)) Sh o.2) := ⟨(ite_ok h).1, Cn_of mk_X12_readPlace.1.2.2.1 (Nat.le_of_ble_eq_true rfl) (fun sc => L_X12_readPlace_b0 (ite_ok h).2)⟩
theorem d_X12_readTest_0 : decode mt_X12_readTest.2.1 0 = .ok (.aload_n 0, 1) := by decide +kernel
theorem d_X12_readTest_1 : decode mt_X12_readTest.2.1 1 = .ok (.invokevirtual 191, 3) := by decide +kernel
theorem d_X12_readTest_4 : decode mt_X12_readTest.2.1 4 = .ok (.istore_n 2, 1) := by decide +kernel
theorem d_X12_readTest_5 : decode mt_X12_readTest.2.1 5 = .ok (.aload_n 0, 1) := by decide +kernel
theorem d_X12_readTest_6 : decode mt_X12_readTest.2.1 6 = .ok (.iload_n 2, 1) := by decide +kernel
theorem d_X12_readTest_7 : decode mt_X12_readTest.2.1 7 = .ok (.ifCond .lt 7, 3) := by decide +kernel
theorem d_X12_readTest_10 : decode mt_X12_readTest.2.1 10 = .ok (.iconst 1, 1) := by decide +kernel
theorem d_X12_readTest_11 : decode mt_X12_readTest.2.1 11 = .ok (.goto 4, 3) := by decide +kernel
theorem d_X12_readTest_14 : decode mt_X12_readTest.2.1 14 = .ok (.iconst 0, 1) := by decide +kernel
theorem d_X12_readTest_15 : decode mt_X12_readTest.2.1 15 = .ok (.invokevirtual 216, 3) := by decide +kernel
theorem d_X12_readTest_18 : decode mt_X12_readTest.2.1 18 = .ok (.aload_n 0, 1) := by decide +kernel
theorem d_X12_readTest_19 : decode mt_X12_readTest.2.1 19 = .ok (.getfield 35, 3) := by decide +kernel
theorem d_X12_readTest_22 : decode mt_X12_readTest.2.1 22 = .ok (.iload_n 1, 1) := by decide +kernel
theorem d_X12_readTest_23 : decode mt_X12_readTest.2.1 23 = .ok (.iconst 5, 1) := by decide +kernel
theorem d_X12_readTest_24 : decode mt_X12_readTest.2.1 24 = .ok (.iadd, 1) := by decide +kernel
theorem d_X12_readTest_25 : decode mt_X12_readTest.2.1 25 = .ok (.iload_n 2, 1) := by decide +kernel
theorem d_X12_readTest_26 : decode mt_X12_readTest.2.1 26 = .ok (.iastore, 1) := by decide +kernel
theorem d_X12_readTest_27 : decode mt_X12_readTest.2.1 27 = .ok (.aload_n 0, 1) := by decide +kernel
theorem d_X12_readTest_28 : decode mt_X12_readTest.2.1 28 = .ok (.getfield 200, 3) := by decide +kernel
theorem d_X12_readTest_31 : decode mt_X12_readTest.2.1 31 = .ok (.ifCond .le 4, 3) := by decide +kernel
theorem d_X12_readTest_34 : decode mt_X12_readTest.2.1 34 = .ok (.return_, 1) := by decide +kernel
theorem d_X12_readTest_35 : decode mt_X12_readTest.2.1 35 = .ok (.aload_n 0, 1) := by decide +kernel
theorem d_X12_readTest_36 : decode mt_X12_readTest.2.1 36 = .ok (.getfield 35, 3) := by decide +kernel
theorem d_X12_readTest_39 : decode mt_X12_readTest.2.1 39 = .ok (.iload_n 1, 1) := by decide +kernel
theorem d_X12_readTest_40 : decode mt_X12_readTest.2.1 40 = .ok (.iconst 1, 1) := by decide +kernel
theorem d_X12_readTest_41 : decode mt_X12_readTest.2.1 41 = .ok (.iadd, 1) := by decide +kernel
theorem d_X12_readTest_42 : decode mt_X12_readTest.2.1 42 = .ok (.aload_n 0, 1) := by decide +kernel
theorem d_X12_readTest_43 : decode mt_X12_readTest.2.1 43 = .ok (.iconst 0, 1) := by decide +kernel
theorem d_X12_readTest_44 : decode mt_X12_readTest.2.1 44 = .ok (.iconst 0, 1) := by decide +kernel
theorem d_X12_readTest_45 : decode mt_X12_readTest.2.1 45 = .ok (.invokevirtual 257, 3) := by decide +kernel
theorem d_X12_readTest_48 : decode mt_X12_readTest.2.1 48 = .ok (.iastore, 1) := by decide +kernel
theorem d_X12_readTest_49 : decode mt_X12_readTest.2.1 49 = .ok (.iload_n 2, 1) := by decide +kernel
theorem d_X12_readTest_50 : decode mt_X12_readTest.2.1 50 = .ok (.ifCond .ne 30, 3) := by decide +kernel
theorem d_X12_readTest_53 : decode mt_X12_readTest.2.1 53 = .ok (.aload_n 0, 1) := by decide +kernel
theorem d_X12_readTest_54 : decode mt_X12_readTest.2.1 54 = .ok (.getfield 35, 3) := by decide +kernel
theorem d_X12_readTest_57 : decode mt_X12_readTest.2.1 57 = .ok (.iload_n 1, 1) := by decide +kernel
theorem d_X12_readTest_58 : decode mt_X12_readTest.2.1 58 = .ok (.iconst 2, 1) := by decide +kernel
theorem d_X12_readTest_59 : decode mt_X12_readTest.2.1 59 = .ok (.iadd, 1) := by decide +kernel
theorem d_X12_readTest_60 : decode mt_X12_readTest.2.1 60 = .ok (.aload_n 0, 1) := by decide +kernel
theorem d_X12_readTest_61 : decode mt_X12_readTest.2.1 61 = .ok (.invokevirtual 290, 3) := by decide +kernel
theorem d_X12_readTest_64 : decode mt_X12_readTest.2.1 64 = .ok (.iastore, 1) := by decide +kernel
theorem d_X12_readTest_65 : decode mt_X12_readTest.2.1 65 = .ok (.aload_n 0, 1) := by decide +kernel
theorem d_X12_readTest_66 : decode mt_X12_readTest.2.1 66 = .ok (.getfield 35, 3) := by decide +kernel
theorem d_X12_readTest_69 : decode mt_X12_readTest.2.1 69 = .ok (.iload_n 1, 1) := by decide +kernel
theorem d_X12_readTest_70 : decode mt_X12_readTest.2.1 70 = .ok (.iconst 3, 1) := by decide +kernel
theorem d_X12_readTest_71 : decode mt_X12_readTest.2.1 71 = .ok (.iadd, 1) := by decide +kernel
theorem d_X12_readTest_72 : decode mt_X12_readTest.2.1 72 = .ok (.aload_n 0, 1) := by decide +kernel
theorem d_X12_readTest_73 : decode mt_X12_readTest.2.1 73 = .ok (.iconst 0, 1) := by decide +kernel
theorem d_X12_readTest_74 : decode mt_X12_readTest.2.1 74 = .ok (.bipush 99, 2) := by decide +kernel
theorem d_X12_readTest_76 : decode mt_X12_readTest.2.1 76 = .ok (.invokevirtual 220, 3) := by decide +kernel
theorem d_X12_readTest_79 : decode mt_X12_readTest.2.1 79 = .ok (.iastore, 1) := by decide +kernel
theorem d_X12_readTest_80 : decode mt_X12_readTest.2.1 80 = .ok (.aload_n 0, 1) := by decide +kernel
theorem d_X12_readTest_81 : decode mt_X12_readTest.2.1 81 = .ok (.getfield 200, 3) := by decide +kernel
theorem d_X12_readTest_84 : decode mt_X12_readTest.2.1 84 = .ok (.ifCond .gt 8, 3) := by decide +kernel
theorem d_X12_readTest_87 : decode mt_X12_readTest.2.1 87 = .ok (.iload_n 2, 1) := by decide +kernel
theorem d_X12_readTest_88 : decode mt_X12_readTest.2.1 88 = .ok (.iconst 2, 1) := by decide +kernel
theorem d_X12_readTest_89 : decode mt_X12_readTest.2.1 89 = .ok (.if_icmp .eq 4, 3) := by decide +kernel
theorem d_X12_readTest_92 : decode mt_X12_readTest.2.1 92 = .ok (.return_, 1) := by decide +kernel
theorem d_X12_readTest_93 : decode mt_X12_readTest.2.1 93 = .ok (.aload_n 0, 1) := by decide +kernel
theorem d_X12_readTest_94 : decode mt_X12_readTest.2.1 94 = .ok (.getfield 35, 3) := by decide +kernel
theorem d_X12_readTest_97 : decode mt_X12_readTest.2.1 97 = .ok (.iload_n 1, 1) := by decide +kernel
theorem d_X12_readTest_98 : decode mt_X12_readTest.2.1 98 = .ok (.bipush 7, 2) := by decide +kernel
theorem d_X12_readTest_100 : decode mt_X12_readTest.2.1 100 = .ok (.iadd, 1) := by decide +kernel
theorem d_X12_readTest_101 : decode mt_X12_readTest.2.1 101 = .ok (.aload_n 0, 1) := by decide +kernel
theorem d_X12_readTest_102 : decode mt_X12_readTest.2.1 102 = .ok (.getfield 124, 3) := by decide +kernel
theorem d_X12_readTest_105 : decode mt_X12_readTest.2.1 105 = .ok (.iconst 3, 1) := by decide +kernel
theorem d_X12_readTest_106 : decode mt_X12_readTest.2.1 106 = .ok (.if_icmp .ne 10, 3) := by decide +kernel
theorem d_X12_readTest_109 : decode mt_X12_readTest.2.1 109 = .ok (.aload_n 0, 1) := by decide +kernel
theorem d_X12_readTest_110 : decode mt_X12_readTest.2.1 110 = .ok (.getfield 143, 3) := by decide +kernel
theorem d_X12_readTest_113 : decode mt_X12_readTest.2.1 113 = .ok (.goto 4, 3) := by decide +kernel
theorem d_X12_readTest_116 : decode mt_X12_readTest.2.1 116 = .ok (.iconst 0, 1) := by decide +kernel
theorem d_X12_readTest_117 : decode mt_X12_readTest.2.1 117 = .ok (.iastore, 1) := by decide +kernel
theorem d_X12_readTest_118 : decode mt_X12_readTest.2.1 118 = .ok (.aload_n 0, 1) := by decide +kernel
theorem d_X12_readTest_119 : decode mt_X12_readTest.2.1 119 = .ok (.aload_n 0, 1) := by decide +kernel
theorem d_X12_readTest_120 : decode mt_X12_readTest.2.1 120 = .ok (.bipush 60, 2) := by decide +kernel
theorem d_X12_readTest_122 : decode mt_X12_readTest.2.1 122 = .ok (.invokevirtual 281, 3) := by decide +kernel
theorem d_X12_readTest_125 : decode mt_X12_readTest.2.1 125 = .ok (.ifCond .ne 21, 3) := by decide +kernel
theorem d_X12_readTest_128 : decode mt_X12_readTest.2.1 128 = .ok (.aload_n 0, 1) := by decide +kernel
theorem d_X12_readTest_129 : decode mt_X12_readTest.2.1 129 = .ok (.bipush 62, 2) := by decide +kernel
theorem d_X12_readTest_131 : decode mt_X12_readTest.2.1 131 = .ok (.invokevirtual 281, 3) := by decide +kernel
theorem d_X12_readTest_134 : decode mt_X12_readTest.2.1 134 = .ok (.ifCond .ne 12, 3) := by decide +kernel
theorem d_X12_readTest_137 : decode mt_X12_readTest.2.1 137 = .ok (.aload_n 0, 1) := by decide +kernel
theorem d_X12_readTest_138 : decode mt_X12_readTest.2.1 138 = .ok (.bipush 61, 2) := by decide +kernel
theorem d_X12_readTest_140 : decode mt_X12_readTest.2.1 140 = .ok (.invokevirtual 281, 3) := by decide +kernel
theorem d_X12_readTest_143 : decode mt_X12_readTest.2.1 143 = .ok (.ifCond .eq 7, 3) := by decide +kernel
theorem d_X12_readTest_146 : decode mt_X12_readTest.2.1 146 = .ok (.iconst 1, 1) := by decide +kernel
theorem d_X12_readTest_147 : decode mt_X12_readTest.2.1 147 = .ok (.goto 4, 3) := by decide +kernel
theorem d_X12_readTest_150 : decode mt_X12_readTest.2.1 150 = .ok (.iconst 0, 1) := by decide +kernel
theorem d_X12_readTest_151 : decode mt_X12_readTest.2.1 151 = .ok (.invokevirtual 216, 3) := by decide +kernel
theorem d_X12_readTest_154 : decode mt_X12_readTest.2.1 154 = .ok (.aload_n 0, 1) := by decide +kernel
theorem d_X12_readTest_155 : decode mt_X12_readTest.2.1 155 = .ok (.getfield 35, 3) := by decide +kernel
theorem d_X12_readTest_158 : decode mt_X12_readTest.2.1 158 = .ok (.iload_n 1, 1) := by decide +kernel
theorem d_X12_readTest_159 : decode mt_X12_readTest.2.1 159 = .ok (.bipush 6, 2) := by decide +kernel
theorem d_X12_readTest_161 : decode mt_X12_readTest.2.1 161 = .ok (.iadd, 1) := by decide +kernel
theorem d_X12_readTest_162 : decode mt_X12_readTest.2.1 162 = .ok (.aload_n 0, 1) := by decide +kernel
theorem d_X12_readTest_163 : decode mt_X12_readTest.2.1 163 = .ok (.iconst 0, 1) := by decide +kernel
theorem d_X12_readTest_164 : decode mt_X12_readTest.2.1 164 = .ok (.bipush 9, 2) := by decide +kernel
theorem d_X12_readTest_166 : decode mt_X12_readTest.2.1 166 = .ok (.invokevirtual 220, 3) := by decide +kernel
theorem d_X12_readTest_169 : decode mt_X12_readTest.2.1 169 = .ok (.iastore, 1) := by decide +kernel
theorem d_X12_readTest_170 : decode mt_X12_readTest.2.1 170 = .ok (.return_, 1) := by decide +kernel
noncomputable def f_X12_readTest_b151 (v0 v1 s0 s1 : Int) (σ : Mem) : Option (Mem) :=
  (f_X12_must s1 s0 σ).bind fun r31 =>
  (gf Sh r31 12 v0 20).bind fun x33 =>
  (f_X12_count v0 0 9 r31).bind fun r34 =>
  (st_ Sh r34.2 20 x33 (w32 (v1 + 6)) r34.1).bind fun σ36 =>
  some σ36
theorem L_X12_readTest_b151 {sc : Nat × (Nat → Int32)} {o : Mem} {v0 v1 s0 s1 : Int} {σ : Mem} (h : f_X12_readTest_b151 v0 v1 s0 s1 σ = some o) : E sc (Fm Sh none Sh o) mt_X12_readTest 7 Sh Sh 151 [(2, v0), (0, v1), (9, 0)] [(0, s0), (2, s1)] Sh σ := by
  unfold f_X12_readTest_b151 at h
  refine bd h (fun r31 q32 h => ?_)
  refine E_cVv (as := [(0, s0)]) (st := []) (a := s1) d_X12_readTest_151 mk_X12_must nl_X12_216 (by omega) ⟨rfl, rfl, Nat.le_of_ble_eq_true rfl⟩ okX12 rfl (L_X12_must q32) ?_
  refine E_aload_n d_X12_readTest_154 rfl (by decide) ?_
  refine E_get d_X12_readTest_155 okX12 fl_X12_35 ⟨by decide, rfl⟩ h (fun x33 h => ?_)
  refine E_iload_n d_X12_readTest_158 rfl ?_
  refine E_bipush d_X12_readTest_159 (c8 rfl) ?_
  refine E_iadd d_X12_readTest_161 ?_
  refine E_aload_n d_X12_readTest_162 rfl (by decide) ?_
  refine E_iconst d_X12_readTest_163 (c32 rfl) ?_
  refine E_bipush d_X12_readTest_164 (c8 rfl) ?_
  refine bd h (fun r34 q35 h => ?_)
  refine E_cV (as := [(0, 0), (0, 9)]) (st := [(0, w32 (v1 + 6)), (2, x33)]) (a := v0) d_X12_readTest_166 mk_X12_count nl_X12_220 (by omega) ⟨rfl, rfl, Nat.le_of_ble_eq_true rfl⟩ okX12 rfl (L_X12_count q35) ?_
  refine E_iastore d_X12_readTest_169 h (fun σ36 h => ?_)
  cases h
  exact E_vret d_X12_readTest_170 rfl
noncomputable def f_X12_readTest_b146 (v0 v1 s0 : Int) (σ : Mem) : Option (Mem) :=
  f_X12_readTest_b151 v0 v1 1 s0 σ
theorem L_X12_readTest_b146 {sc : Nat × (Nat → Int32)} {o : Mem} {v0 v1 s0 : Int} {σ : Mem} (h : f_X12_readTest_b146 v0 v1 s0 σ = some o) : E sc (Fm Sh none Sh o) mt_X12_readTest 7 Sh Sh 146 [(2, v0), (0, v1), (9, 0)] [(2, s0)] Sh σ := by
  unfold f_X12_readTest_b146 at h
  refine E_iconst d_X12_readTest_146 (c32 rfl) ?_
  refine E_goto (tgt := 151) d_X12_readTest_147 (by decide) ?_
  exact (L_X12_readTest_b151 h)
noncomputable def f_X12_readTest_b117 (v0 v1 s0 s1 s2 : Int) (σ : Mem) : Option (Mem) :=
  (st_ Sh σ 20 s2 s1 s0).bind fun σ24 =>
  (f_X12_isSign v0 60 σ24).bind fun r25 =>
  if r25 = 0 then
    (f_X12_isSign v0 62 σ24).bind fun r27 =>
    if r27 = 0 then
      (f_X12_isSign v0 61 σ24).bind fun r29 =>
      if r29 = 0 then
        f_X12_readTest_b151 v0 v1 0 v0 σ24
      else
        f_X12_readTest_b146 v0 v1 v0 σ24
    else
      f_X12_readTest_b146 v0 v1 v0 σ24
  else
    f_X12_readTest_b146 v0 v1 v0 σ24
theorem L_X12_readTest_b117 {sc : Nat × (Nat → Int32)} {o : Mem} {v0 v1 s0 s1 s2 : Int} {σ : Mem} (h : f_X12_readTest_b117 v0 v1 s0 s1 s2 σ = some o) : E sc (Fm Sh none Sh o) mt_X12_readTest 7 Sh Sh 117 [(2, v0), (0, v1), (9, 0)] [(0, s0), (0, s1), (2, s2)] Sh σ := by
  unfold f_X12_readTest_b117 at h
  refine E_iastore d_X12_readTest_117 h (fun σ24 h => ?_)
  refine E_aload_n d_X12_readTest_118 rfl (by decide) ?_
  refine E_aload_n d_X12_readTest_119 rfl (by decide) ?_
  refine E_bipush d_X12_readTest_120 (c8 rfl) ?_
  refine bd h (fun r25 q26 h => ?_)
  refine E_cV (as := [(0, 60)]) (st := [(2, v0)]) (a := v0) d_X12_readTest_122 mk_X12_isSign nl_X12_281 (by omega) ⟨rfl, rfl, Nat.le_of_ble_eq_true rfl⟩ okX12 rfl (L_X12_isSign q26) ?_
  refine E_if_ne (tgt := 146) d_X12_readTest_125 (by decide) h (fun _ h => ?_) (fun _ h => ?_)
  · refine E_aload_n d_X12_readTest_128 rfl (by decide) ?_
    refine E_bipush d_X12_readTest_129 (c8 rfl) ?_
    refine bd h (fun r27 q28 h => ?_)
    refine E_cV (as := [(0, 62)]) (st := [(2, v0)]) (a := v0) d_X12_readTest_131 mk_X12_isSign nl_X12_281 (by omega) ⟨rfl, rfl, Nat.le_of_ble_eq_true rfl⟩ okX12 rfl (L_X12_isSign q28) ?_
    refine E_if_ne (tgt := 146) d_X12_readTest_134 (by decide) h (fun _ h => ?_) (fun _ h => ?_)
    · refine E_aload_n d_X12_readTest_137 rfl (by decide) ?_
      refine E_bipush d_X12_readTest_138 (c8 rfl) ?_
      refine bd h (fun r29 q30 h => ?_)
      refine E_cV (as := [(0, 61)]) (st := [(2, v0)]) (a := v0) d_X12_readTest_140 mk_X12_isSign nl_X12_281 (by omega) ⟨rfl, rfl, Nat.le_of_ble_eq_true rfl⟩ okX12 rfl (L_X12_isSign q30) ?_
      refine E_if_eq (tgt := 150) d_X12_readTest_143 (by decide) h (fun _ h => ?_) (fun _ h => ?_)
      · refine E_iconst d_X12_readTest_150 (c32 rfl) ?_
        exact (L_X12_readTest_b151 h)
      · exact (L_X12_readTest_b146 h)
    · exact (L_X12_readTest_b146 h)
  · exact (L_X12_readTest_b146 h)
noncomputable def f_X12_readTest_b80 (v0 v1 v2 : Int) (σ : Mem) : Option (Mem) :=
  (gf Sh σ 12 v0 12).bind fun x20 =>
  if 0 < x20 then
    some σ
  else
    if v2 = 2 then
      (gf Sh σ 12 v0 20).bind fun x21 =>
      (gf Sh σ 12 v0 14).bind fun x22 =>
      if x22 = 3 then
        (gf Sh σ 12 v0 17).bind fun x23 =>
        f_X12_readTest_b117 v0 v1 x23 (w32 (v1 + 7)) x21 σ
      else
        f_X12_readTest_b117 v0 v1 0 (w32 (v1 + 7)) x21 σ
    else
      some σ
theorem L_X12_readTest_b80 {sc : Nat × (Nat → Int32)} {o : Mem} {v0 v1 v2 : Int} {σ : Mem} (h : f_X12_readTest_b80 v0 v1 v2 σ = some o) : E sc (Fm Sh none Sh o) mt_X12_readTest 7 Sh Sh 80 [(2, v0), (0, v1), (0, v2)] [] Sh σ := by
  unfold f_X12_readTest_b80 at h
  refine E_aload_n d_X12_readTest_80 rfl (by decide) ?_
  refine E_get d_X12_readTest_81 okX12 fl_X12_200 ⟨by decide, rfl⟩ h (fun x20 h => ?_)
  refine E_if_gt (tgt := 92) d_X12_readTest_84 (by decide) h (fun _ h => ?_) (fun _ h => ?_)
  · cases h
    exact E_vret d_X12_readTest_92 rfl
  · refine E_iload_n d_X12_readTest_87 rfl ?_
    refine E_iconst d_X12_readTest_88 (c32 rfl) ?_
    refine E_icmp_eq (tgt := 93) d_X12_readTest_89 (by decide) h (fun _ h => ?_) (fun _ h => ?_)
    · refine E_aload_n d_X12_readTest_93 rfl (by decide) ?_
      refine E_get d_X12_readTest_94 okX12 fl_X12_35 ⟨by decide, rfl⟩ h (fun x21 h => ?_)
      refine E_iload_n d_X12_readTest_97 rfl ?_
      refine E_bipush d_X12_readTest_98 (c8 rfl) ?_
      refine E_iadd d_X12_readTest_100 ?_
      refine E_aload_n d_X12_readTest_101 rfl (by decide) ?_
      refine E_get d_X12_readTest_102 okX12 fl_X12_124 ⟨by decide, rfl⟩ h (fun x22 h => ?_)
      refine E_iconst d_X12_readTest_105 (c32 rfl) ?_
      refine E_icmp_ne (tgt := 116) d_X12_readTest_106 (by decide) h (fun _ h => ?_) (fun _ h => ?_)
      · refine E_aload_n d_X12_readTest_109 rfl (by decide) ?_
        refine E_get d_X12_readTest_110 okX12 fl_X12_143 ⟨by decide, rfl⟩ h (fun x23 h => ?_)
        refine E_goto (tgt := 117) d_X12_readTest_113 (by decide) ?_
        exact E_weak (ls' := [(2, v0), (0, v1), (9, 0)]) ⟨Or.inr rfl, Or.inr rfl, Or.inl rfl, trivial⟩ (L_X12_readTest_b117 h)
      · refine E_iconst d_X12_readTest_116 (c32 rfl) ?_
        exact E_weak (ls' := [(2, v0), (0, v1), (9, 0)]) ⟨Or.inr rfl, Or.inr rfl, Or.inl rfl, trivial⟩ (L_X12_readTest_b117 h)
    · cases h
      exact E_vret d_X12_readTest_92 rfl
noncomputable def f_X12_readTest_b15 (v0 v1 v2 s0 s1 : Int) (σ : Mem) : Option (Mem) :=
  (f_X12_must s1 s0 σ).bind fun r3 =>
  (gf Sh r3 12 v0 20).bind fun x5 =>
  (st_ Sh r3 20 x5 (w32 (v1 + 5)) v2).bind fun σ6 =>
  (gf Sh σ6 12 v0 12).bind fun x7 =>
  if x7 ≤ 0 then
    (gf Sh σ6 12 v0 20).bind fun x8 =>
    (f_X12_readTold v0 0 0 σ6).bind fun r9 =>
    (st_ Sh r9.2 20 x8 (w32 (v1 + 1)) r9.1).bind fun σ11 =>
    if v2 = 0 then
      (gf Sh σ11 12 v0 20).bind fun x12 =>
      (f_X12_readPlace v0 σ11).bind fun r13 =>
      (st_ Sh r13.2 20 x12 (w32 (v1 + 2)) r13.1).bind fun σ15 =>
      (gf Sh σ15 12 v0 20).bind fun x16 =>
      (f_X12_count v0 0 99 σ15).bind fun r17 =>
      (st_ Sh r17.2 20 x16 (w32 (v1 + 3)) r17.1).bind fun σ19 =>
      f_X12_readTest_b80 v0 v1 v2 σ19
    else
      f_X12_readTest_b80 v0 v1 v2 σ11
  else
    some σ6
theorem L_X12_readTest_b15 {sc : Nat × (Nat → Int32)} {o : Mem} {v0 v1 v2 s0 s1 : Int} {σ : Mem} (h : f_X12_readTest_b15 v0 v1 v2 s0 s1 σ = some o) : E sc (Fm Sh none Sh o) mt_X12_readTest 7 Sh Sh 15 [(2, v0), (0, v1), (0, v2)] [(0, s0), (2, s1)] Sh σ := by
  unfold f_X12_readTest_b15 at h
  refine bd h (fun r3 q4 h => ?_)
  refine E_cVv (as := [(0, s0)]) (st := []) (a := s1) d_X12_readTest_15 mk_X12_must nl_X12_216 (by omega) ⟨rfl, rfl, Nat.le_of_ble_eq_true rfl⟩ okX12 rfl (L_X12_must q4) ?_
  refine E_aload_n d_X12_readTest_18 rfl (by decide) ?_
  refine E_get d_X12_readTest_19 okX12 fl_X12_35 ⟨by decide, rfl⟩ h (fun x5 h => ?_)
  refine E_iload_n d_X12_readTest_22 rfl ?_
  refine E_iconst d_X12_readTest_23 (c32 rfl) ?_
  refine E_iadd d_X12_readTest_24 ?_
  refine E_iload_n d_X12_readTest_25 rfl ?_
  refine E_iastore d_X12_readTest_26 h (fun σ6 h => ?_)
  refine E_aload_n d_X12_readTest_27 rfl (by decide) ?_
  refine E_get d_X12_readTest_28 okX12 fl_X12_200 ⟨by decide, rfl⟩ h (fun x7 h => ?_)
  refine E_if_le (tgt := 35) d_X12_readTest_31 (by decide) h (fun _ h => ?_) (fun _ h => ?_)
  · refine E_aload_n d_X12_readTest_35 rfl (by decide) ?_
    refine E_get d_X12_readTest_36 okX12 fl_X12_35 ⟨by decide, rfl⟩ h (fun x8 h => ?_)
    refine E_iload_n d_X12_readTest_39 rfl ?_
    refine E_iconst d_X12_readTest_40 (c32 rfl) ?_
    refine E_iadd d_X12_readTest_41 ?_
    refine E_aload_n d_X12_readTest_42 rfl (by decide) ?_
    refine E_iconst d_X12_readTest_43 (c32 rfl) ?_
    refine E_iconst d_X12_readTest_44 (c32 rfl) ?_
    refine bd h (fun r9 q10 h => ?_)
    refine E_cV (as := [(0, 0), (0, 0)]) (st := [(0, w32 (v1 + 1)), (2, x8)]) (a := v0) d_X12_readTest_45 mk_X12_readTold nl_X12_257 (by omega) ⟨rfl, rfl, Nat.le_of_ble_eq_true rfl⟩ okX12 rfl (L_X12_readTold q10) ?_
    refine E_iastore d_X12_readTest_48 h (fun σ11 h => ?_)
    refine E_iload_n d_X12_readTest_49 rfl ?_
    refine E_if_ne (tgt := 80) d_X12_readTest_50 (by decide) h (fun _ h => ?_) (fun _ h => ?_)
    · refine E_aload_n d_X12_readTest_53 rfl (by decide) ?_
      refine E_get d_X12_readTest_54 okX12 fl_X12_35 ⟨by decide, rfl⟩ h (fun x12 h => ?_)
      refine E_iload_n d_X12_readTest_57 rfl ?_
      refine E_iconst d_X12_readTest_58 (c32 rfl) ?_
      refine E_iadd d_X12_readTest_59 ?_
      refine E_aload_n d_X12_readTest_60 rfl (by decide) ?_
      refine bd h (fun r13 q14 h => ?_)
      refine E_cV (as := []) (st := [(0, w32 (v1 + 2)), (2, x12)]) (a := v0) d_X12_readTest_61 mk_X12_readPlace nl_X12_290 (by omega) ⟨rfl, rfl, Nat.le_of_ble_eq_true rfl⟩ okX12 rfl (L_X12_readPlace q14) ?_
      refine E_iastore d_X12_readTest_64 h (fun σ15 h => ?_)
      refine E_aload_n d_X12_readTest_65 rfl (by decide) ?_
      refine E_get d_X12_readTest_66 okX12 fl_X12_35 ⟨by decide, rfl⟩ h (fun x16 h => ?_)
      refine E_iload_n d_X12_readTest_69 rfl ?_
      refine E_iconst d_X12_readTest_70 (c32 rfl) ?_
      refine E_iadd d_X12_readTest_71 ?_
      refine E_aload_n d_X12_readTest_72 rfl (by decide) ?_
      refine E_iconst d_X12_readTest_73 (c32 rfl) ?_
      refine E_bipush d_X12_readTest_74 (c8 rfl) ?_
      refine bd h (fun r17 q18 h => ?_)
      refine E_cV (as := [(0, 0), (0, 99)]) (st := [(0, w32 (v1 + 3)), (2, x16)]) (a := v0) d_X12_readTest_76 mk_X12_count nl_X12_220 (by omega) ⟨rfl, rfl, Nat.le_of_ble_eq_true rfl⟩ okX12 rfl (L_X12_count q18) ?_
      refine E_iastore d_X12_readTest_79 h (fun σ19 h => ?_)
      exact (L_X12_readTest_b80 h)
    · exact (L_X12_readTest_b80 h)
  · cases h
    exact E_vret d_X12_readTest_34 rfl
noncomputable def f_X12_readTest_b0 (v0 v1 : Int) (σ : Mem) : Option (Mem) :=
  (f_X12_testWord v0 σ).bind fun r1 =>
  if r1 < 0 then
    f_X12_readTest_b15 v0 v1 r1 0 v0 σ
  else
    f_X12_readTest_b15 v0 v1 r1 1 v0 σ
theorem L_X12_readTest_b0 {sc : Nat × (Nat → Int32)} {o : Mem} {v0 v1 : Int} {σ : Mem} (h : f_X12_readTest_b0 v0 v1 σ = some o) : E sc (Fm Sh none Sh o) mt_X12_readTest 7 Sh Sh 0 [(2, v0), (0, v1), (9, 0)] [] Sh σ := by
  unfold f_X12_readTest_b0 at h
  refine E_aload_n d_X12_readTest_0 rfl (by decide) ?_
  refine bd h (fun r1 q2 h => ?_)
  refine E_cV (as := []) (st := []) (a := v0) d_X12_readTest_1 mk_X12_testWord nl_X12_191 (by omega) ⟨rfl, rfl, Nat.le_of_ble_eq_true rfl⟩ okX12 rfl (L_X12_testWord q2) ?_
  refine E_istore_n d_X12_readTest_4 (ls' := [(2, v0), (0, v1), (0, r1)]) ⟨by decide, rfl⟩ ?_
  refine E_aload_n d_X12_readTest_5 rfl (by decide) ?_
  refine E_iload_n d_X12_readTest_6 rfl ?_
  refine E_if_lt (tgt := 14) d_X12_readTest_7 (by decide) h (fun _ h => ?_) (fun _ h => ?_)
  · refine E_iconst d_X12_readTest_14 (c32 rfl) ?_
    exact (L_X12_readTest_b15 h)
  · refine E_iconst d_X12_readTest_10 (c32 rfl) ?_
    refine E_goto (tgt := 15) d_X12_readTest_11 (by decide) ?_
    exact (L_X12_readTest_b15 h)
noncomputable def f_X12_readTest (v0 v1 : Int) (σ : Mem) : Option (Mem) := if isO Sh 12 v0 = true then f_X12_readTest_b0 v0 v1 σ else none
theorem L_X12_readTest {o : Mem} {v0 v1 : Int} {σ : Mem} (h : f_X12_readTest v0 v1 σ = some o) : (isO Sh 12 v0 = true ∧ Cn mt_X12_readTest 7 [(2, v0), (0, v1)] Sh σ none Sh o) := ⟨(ite_ok h).1, Cn_of mk_X12_readTest.1.2.2.1 (Nat.le_of_ble_eq_true rfl) (fun sc => L_X12_readTest_b0 (ite_ok h).2)⟩
theorem d_X12_readRest_0 : decode mt_X12_readRest.2.1 0 = .ok (.aload_n 0, 1) := by decide +kernel
theorem d_X12_readRest_1 : decode mt_X12_readRest.2.1 1 = .ok (.getfield 35, 3) := by decide +kernel
theorem d_X12_readRest_4 : decode mt_X12_readRest.2.1 4 = .ok (.iload_n 1, 1) := by decide +kernel
theorem d_X12_readRest_5 : decode mt_X12_readRest.2.1 5 = .ok (.iaload, 1) := by decide +kernel
theorem d_X12_readRest_6 : decode mt_X12_readRest.2.1 6 = .ok (.istore_n 2, 1) := by decide +kernel
theorem d_X12_readRest_7 : decode mt_X12_readRest.2.1 7 = .ok (.iload_n 2, 1) := by decide +kernel
theorem d_X12_readRest_8 : decode mt_X12_readRest.2.1 8 = .ok (.ifCond .ne 21, 3) := by decide +kernel
theorem d_X12_readRest_11 : decode mt_X12_readRest.2.1 11 = .ok (.aload_n 0, 1) := by decide +kernel
theorem d_X12_readRest_12 : decode mt_X12_readRest.2.1 12 = .ok (.getfield 35, 3) := by decide +kernel
theorem d_X12_readRest_15 : decode mt_X12_readRest.2.1 15 = .ok (.iload_n 1, 1) := by decide +kernel
theorem d_X12_readRest_16 : decode mt_X12_readRest.2.1 16 = .ok (.iconst 1, 1) := by decide +kernel
theorem d_X12_readRest_17 : decode mt_X12_readRest.2.1 17 = .ok (.iadd, 1) := by decide +kernel
theorem d_X12_readRest_18 : decode mt_X12_readRest.2.1 18 = .ok (.aload_n 0, 1) := by decide +kernel
theorem d_X12_readRest_19 : decode mt_X12_readRest.2.1 19 = .ok (.iconst 1, 1) := by decide +kernel
theorem d_X12_readRest_20 : decode mt_X12_readRest.2.1 20 = .ok (.bipush 20, 2) := by decide +kernel
theorem d_X12_readRest_22 : decode mt_X12_readRest.2.1 22 = .ok (.invokevirtual 220, 3) := by decide +kernel
theorem d_X12_readRest_25 : decode mt_X12_readRest.2.1 25 = .ok (.iastore, 1) := by decide +kernel
theorem d_X12_readRest_26 : decode mt_X12_readRest.2.1 26 = .ok (.goto 145, 3) := by decide +kernel
theorem d_X12_readRest_29 : decode mt_X12_readRest.2.1 29 = .ok (.iload_n 2, 1) := by decide +kernel
theorem d_X12_readRest_30 : decode mt_X12_readRest.2.1 30 = .ok (.iconst 1, 1) := by decide +kernel
theorem d_X12_readRest_31 : decode mt_X12_readRest.2.1 31 = .ok (.if_icmp .ne 47, 3) := by decide +kernel
theorem d_X12_readRest_34 : decode mt_X12_readRest.2.1 34 = .ok (.aload_n 0, 1) := by decide +kernel
theorem d_X12_readRest_35 : decode mt_X12_readRest.2.1 35 = .ok (.getfield 35, 3) := by decide +kernel
theorem d_X12_readRest_38 : decode mt_X12_readRest.2.1 38 = .ok (.iload_n 1, 1) := by decide +kernel
theorem d_X12_readRest_39 : decode mt_X12_readRest.2.1 39 = .ok (.iconst 1, 1) := by decide +kernel
theorem d_X12_readRest_40 : decode mt_X12_readRest.2.1 40 = .ok (.iadd, 1) := by decide +kernel
theorem d_X12_readRest_41 : decode mt_X12_readRest.2.1 41 = .ok (.aload_n 0, 1) := by decide +kernel
theorem d_X12_readRest_42 : decode mt_X12_readRest.2.1 42 = .ok (.iconst 0, 1) := by decide +kernel
theorem d_X12_readRest_43 : decode mt_X12_readRest.2.1 43 = .ok (.bipush 99, 2) := by decide +kernel
theorem d_X12_readRest_45 : decode mt_X12_readRest.2.1 45 = .ok (.invokevirtual 220, 3) := by decide +kernel
theorem d_X12_readRest_48 : decode mt_X12_readRest.2.1 48 = .ok (.iastore, 1) := by decide +kernel
theorem d_X12_readRest_49 : decode mt_X12_readRest.2.1 49 = .ok (.aload_n 0, 1) := by decide +kernel
theorem d_X12_readRest_50 : decode mt_X12_readRest.2.1 50 = .ok (.getfield 35, 3) := by decide +kernel
theorem d_X12_readRest_53 : decode mt_X12_readRest.2.1 53 = .ok (.iload_n 1, 1) := by decide +kernel
theorem d_X12_readRest_54 : decode mt_X12_readRest.2.1 54 = .ok (.iconst 2, 1) := by decide +kernel
theorem d_X12_readRest_55 : decode mt_X12_readRest.2.1 55 = .ok (.iadd, 1) := by decide +kernel
theorem d_X12_readRest_56 : decode mt_X12_readRest.2.1 56 = .ok (.aload_n 0, 1) := by decide +kernel
theorem d_X12_readRest_57 : decode mt_X12_readRest.2.1 57 = .ok (.invokevirtual 290, 3) := by decide +kernel
theorem d_X12_readRest_60 : decode mt_X12_readRest.2.1 60 = .ok (.iastore, 1) := by decide +kernel
theorem d_X12_readRest_61 : decode mt_X12_readRest.2.1 61 = .ok (.aload_n 0, 1) := by decide +kernel
theorem d_X12_readRest_62 : decode mt_X12_readRest.2.1 62 = .ok (.getfield 35, 3) := by decide +kernel
theorem d_X12_readRest_65 : decode mt_X12_readRest.2.1 65 = .ok (.iload_n 1, 1) := by decide +kernel
theorem d_X12_readRest_66 : decode mt_X12_readRest.2.1 66 = .ok (.iconst 3, 1) := by decide +kernel
theorem d_X12_readRest_67 : decode mt_X12_readRest.2.1 67 = .ok (.iadd, 1) := by decide +kernel
theorem d_X12_readRest_68 : decode mt_X12_readRest.2.1 68 = .ok (.aload_n 0, 1) := by decide +kernel
theorem d_X12_readRest_69 : decode mt_X12_readRest.2.1 69 = .ok (.iconst 0, 1) := by decide +kernel
theorem d_X12_readRest_70 : decode mt_X12_readRest.2.1 70 = .ok (.iconst 1, 1) := by decide +kernel
theorem d_X12_readRest_71 : decode mt_X12_readRest.2.1 71 = .ok (.invokevirtual 220, 3) := by decide +kernel
theorem d_X12_readRest_74 : decode mt_X12_readRest.2.1 74 = .ok (.iastore, 1) := by decide +kernel
theorem d_X12_readRest_75 : decode mt_X12_readRest.2.1 75 = .ok (.goto 96, 3) := by decide +kernel
theorem d_X12_readRest_78 : decode mt_X12_readRest.2.1 78 = .ok (.iload_n 2, 1) := by decide +kernel
theorem d_X12_readRest_79 : decode mt_X12_readRest.2.1 79 = .ok (.bipush 8, 2) := by decide +kernel
theorem d_X12_readRest_81 : decode mt_X12_readRest.2.1 81 = .ok (.if_icmp .ne 21, 3) := by decide +kernel
theorem d_X12_readRest_84 : decode mt_X12_readRest.2.1 84 = .ok (.aload_n 0, 1) := by decide +kernel
theorem d_X12_readRest_85 : decode mt_X12_readRest.2.1 85 = .ok (.getfield 35, 3) := by decide +kernel
theorem d_X12_readRest_88 : decode mt_X12_readRest.2.1 88 = .ok (.iload_n 1, 1) := by decide +kernel
theorem d_X12_readRest_89 : decode mt_X12_readRest.2.1 89 = .ok (.iconst 1, 1) := by decide +kernel
theorem d_X12_readRest_90 : decode mt_X12_readRest.2.1 90 = .ok (.iadd, 1) := by decide +kernel
theorem d_X12_readRest_91 : decode mt_X12_readRest.2.1 91 = .ok (.aload_n 0, 1) := by decide +kernel
theorem d_X12_readRest_92 : decode mt_X12_readRest.2.1 92 = .ok (.iconst 1, 1) := by decide +kernel
theorem d_X12_readRest_93 : decode mt_X12_readRest.2.1 93 = .ok (.bipush 99, 2) := by decide +kernel
theorem d_X12_readRest_95 : decode mt_X12_readRest.2.1 95 = .ok (.invokevirtual 220, 3) := by decide +kernel
theorem d_X12_readRest_98 : decode mt_X12_readRest.2.1 98 = .ok (.iastore, 1) := by decide +kernel
theorem d_X12_readRest_99 : decode mt_X12_readRest.2.1 99 = .ok (.goto 72, 3) := by decide +kernel
theorem d_X12_readRest_102 : decode mt_X12_readRest.2.1 102 = .ok (.iload_n 2, 1) := by decide +kernel
theorem d_X12_readRest_103 : decode mt_X12_readRest.2.1 103 = .ok (.bipush 7, 2) := by decide +kernel
theorem d_X12_readRest_105 : decode mt_X12_readRest.2.1 105 = .ok (.if_icmp .ne 11, 3) := by decide +kernel
theorem d_X12_readRest_108 : decode mt_X12_readRest.2.1 108 = .ok (.aload_n 0, 1) := by decide +kernel
theorem d_X12_readRest_109 : decode mt_X12_readRest.2.1 109 = .ok (.iload_n 1, 1) := by decide +kernel
theorem d_X12_readRest_110 : decode mt_X12_readRest.2.1 110 = .ok (.invokevirtual 293, 3) := by decide +kernel
theorem d_X12_readRest_113 : decode mt_X12_readRest.2.1 113 = .ok (.goto 58, 3) := by decide +kernel
theorem d_X12_readRest_116 : decode mt_X12_readRest.2.1 116 = .ok (.iload_n 2, 1) := by decide +kernel
theorem d_X12_readRest_117 : decode mt_X12_readRest.2.1 117 = .ok (.iconst 5, 1) := by decide +kernel
theorem d_X12_readRest_118 : decode mt_X12_readRest.2.1 118 = .ok (.if_icmp .ne 34, 3) := by decide +kernel
theorem d_X12_readRest_121 : decode mt_X12_readRest.2.1 121 = .ok (.aload_n 0, 1) := by decide +kernel
theorem d_X12_readRest_122 : decode mt_X12_readRest.2.1 122 = .ok (.getfield 35, 3) := by decide +kernel
theorem d_X12_readRest_125 : decode mt_X12_readRest.2.1 125 = .ok (.iload_n 1, 1) := by decide +kernel
theorem d_X12_readRest_126 : decode mt_X12_readRest.2.1 126 = .ok (.iconst 1, 1) := by decide +kernel
theorem d_X12_readRest_127 : decode mt_X12_readRest.2.1 127 = .ok (.iadd, 1) := by decide +kernel
theorem d_X12_readRest_128 : decode mt_X12_readRest.2.1 128 = .ok (.aload_n 0, 1) := by decide +kernel
theorem d_X12_readRest_129 : decode mt_X12_readRest.2.1 129 = .ok (.iconst 0, 1) := by decide +kernel
theorem d_X12_readRest_130 : decode mt_X12_readRest.2.1 130 = .ok (.iconst 1, 1) := by decide +kernel
theorem d_X12_readRest_131 : decode mt_X12_readRest.2.1 131 = .ok (.invokevirtual 257, 3) := by decide +kernel
theorem d_X12_readRest_134 : decode mt_X12_readRest.2.1 134 = .ok (.iastore, 1) := by decide +kernel
theorem d_X12_readRest_135 : decode mt_X12_readRest.2.1 135 = .ok (.aload_n 0, 1) := by decide +kernel
theorem d_X12_readRest_136 : decode mt_X12_readRest.2.1 136 = .ok (.getfield 35, 3) := by decide +kernel
theorem d_X12_readRest_139 : decode mt_X12_readRest.2.1 139 = .ok (.iload_n 1, 1) := by decide +kernel
theorem d_X12_readRest_140 : decode mt_X12_readRest.2.1 140 = .ok (.iconst 2, 1) := by decide +kernel
theorem d_X12_readRest_141 : decode mt_X12_readRest.2.1 141 = .ok (.iadd, 1) := by decide +kernel
theorem d_X12_readRest_142 : decode mt_X12_readRest.2.1 142 = .ok (.aload_n 0, 1) := by decide +kernel
theorem d_X12_readRest_143 : decode mt_X12_readRest.2.1 143 = .ok (.iconst 0, 1) := by decide +kernel
theorem d_X12_readRest_144 : decode mt_X12_readRest.2.1 144 = .ok (.iconst 0, 1) := by decide +kernel
theorem d_X12_readRest_145 : decode mt_X12_readRest.2.1 145 = .ok (.invokevirtual 257, 3) := by decide +kernel
theorem d_X12_readRest_148 : decode mt_X12_readRest.2.1 148 = .ok (.iastore, 1) := by decide +kernel
theorem d_X12_readRest_149 : decode mt_X12_readRest.2.1 149 = .ok (.goto 22, 3) := by decide +kernel
theorem d_X12_readRest_152 : decode mt_X12_readRest.2.1 152 = .ok (.iload_n 2, 1) := by decide +kernel
theorem d_X12_readRest_153 : decode mt_X12_readRest.2.1 153 = .ok (.iconst 5, 1) := by decide +kernel
theorem d_X12_readRest_154 : decode mt_X12_readRest.2.1 154 = .ok (.if_icmp .ge 17, 3) := by decide +kernel
theorem d_X12_readRest_157 : decode mt_X12_readRest.2.1 157 = .ok (.aload_n 0, 1) := by decide +kernel
theorem d_X12_readRest_158 : decode mt_X12_readRest.2.1 158 = .ok (.getfield 35, 3) := by decide +kernel
theorem d_X12_readRest_161 : decode mt_X12_readRest.2.1 161 = .ok (.iload_n 1, 1) := by decide +kernel
theorem d_X12_readRest_162 : decode mt_X12_readRest.2.1 162 = .ok (.iconst 1, 1) := by decide +kernel
theorem d_X12_readRest_163 : decode mt_X12_readRest.2.1 163 = .ok (.iadd, 1) := by decide +kernel
theorem d_X12_readRest_164 : decode mt_X12_readRest.2.1 164 = .ok (.aload_n 0, 1) := by decide +kernel
theorem d_X12_readRest_165 : decode mt_X12_readRest.2.1 165 = .ok (.iconst 0, 1) := by decide +kernel
theorem d_X12_readRest_166 : decode mt_X12_readRest.2.1 166 = .ok (.iconst 0, 1) := by decide +kernel
theorem d_X12_readRest_167 : decode mt_X12_readRest.2.1 167 = .ok (.invokevirtual 257, 3) := by decide +kernel
theorem d_X12_readRest_170 : decode mt_X12_readRest.2.1 170 = .ok (.iastore, 1) := by decide +kernel
theorem d_X12_readRest_171 : decode mt_X12_readRest.2.1 171 = .ok (.return_, 1) := by decide +kernel
noncomputable def f_X12_readRest_b0 (v0 v1 : Int) (σ : Mem) : Option (Mem) :=
  (gf Sh σ 12 v0 20).bind fun x1 =>
  (al Sh σ 20 x1 v1).bind fun x2 =>
  if x2 = 0 then
    (gf Sh σ 12 v0 20).bind fun x3 =>
    (f_X12_count v0 1 20 σ).bind fun r4 =>
    (st_ Sh r4.2 20 x3 (w32 (v1 + 1)) r4.1).bind fun σ6 =>
    some σ6
  else
    if x2 = 1 then
      (gf Sh σ 12 v0 20).bind fun x7 =>
      (f_X12_count v0 0 99 σ).bind fun r8 =>
      (st_ Sh r8.2 20 x7 (w32 (v1 + 1)) r8.1).bind fun σ10 =>
      (gf Sh σ10 12 v0 20).bind fun x11 =>
      (f_X12_readPlace v0 σ10).bind fun r12 =>
      (st_ Sh r12.2 20 x11 (w32 (v1 + 2)) r12.1).bind fun σ14 =>
      (gf Sh σ14 12 v0 20).bind fun x15 =>
      (f_X12_count v0 0 1 σ14).bind fun r16 =>
      (st_ Sh r16.2 20 x15 (w32 (v1 + 3)) r16.1).bind fun σ18 =>
      some σ18
    else
      if x2 = 8 then
        (gf Sh σ 12 v0 20).bind fun x19 =>
        (f_X12_count v0 1 99 σ).bind fun r20 =>
        (st_ Sh r20.2 20 x19 (w32 (v1 + 1)) r20.1).bind fun σ22 =>
        some σ22
      else
        if x2 = 7 then
          (f_X12_readTest v0 v1 σ).bind fun r23 =>
          some r23
        else
          if x2 = 5 then
            (gf Sh σ 12 v0 20).bind fun x25 =>
            (f_X12_readTold v0 0 1 σ).bind fun r26 =>
            (st_ Sh r26.2 20 x25 (w32 (v1 + 1)) r26.1).bind fun σ28 =>
            (gf Sh σ28 12 v0 20).bind fun x29 =>
            (f_X12_readTold v0 0 0 σ28).bind fun r30 =>
            (st_ Sh r30.2 20 x29 (w32 (v1 + 2)) r30.1).bind fun σ32 =>
            some σ32
          else
            if 5 ≤ x2 then
              some σ
            else
              (gf Sh σ 12 v0 20).bind fun x33 =>
              (f_X12_readTold v0 0 0 σ).bind fun r34 =>
              (st_ Sh r34.2 20 x33 (w32 (v1 + 1)) r34.1).bind fun σ36 =>
              some σ36
theorem L_X12_readRest_b0 {sc : Nat × (Nat → Int32)} {o : Mem} {v0 v1 : Int} {σ : Mem} (h : f_X12_readRest_b0 v0 v1 σ = some o) : E sc (Fm Sh none Sh o) mt_X12_readRest 8 Sh Sh 0 [(2, v0), (0, v1), (9, 0)] [] Sh σ := by
  unfold f_X12_readRest_b0 at h
  refine E_aload_n d_X12_readRest_0 rfl (by decide) ?_
  refine E_get d_X12_readRest_1 okX12 fl_X12_35 ⟨by decide, rfl⟩ h (fun x1 h => ?_)
  refine E_iload_n d_X12_readRest_4 rfl ?_
  refine E_iaload d_X12_readRest_5 h (fun x2 h => ?_)
  refine E_istore_n d_X12_readRest_6 (ls' := [(2, v0), (0, v1), (0, x2)]) ⟨by decide, rfl⟩ ?_
  refine E_iload_n d_X12_readRest_7 rfl ?_
  refine E_if_ne (tgt := 29) d_X12_readRest_8 (by decide) h (fun _ h => ?_) (fun _ h => ?_)
  · refine E_aload_n d_X12_readRest_11 rfl (by decide) ?_
    refine E_get d_X12_readRest_12 okX12 fl_X12_35 ⟨by decide, rfl⟩ h (fun x3 h => ?_)
    refine E_iload_n d_X12_readRest_15 rfl ?_
    refine E_iconst d_X12_readRest_16 (c32 rfl) ?_
    refine E_iadd d_X12_readRest_17 ?_
    refine E_aload_n d_X12_readRest_18 rfl (by decide) ?_
    refine E_iconst d_X12_readRest_19 (c32 rfl) ?_
    refine E_bipush d_X12_readRest_20 (c8 rfl) ?_
    refine bd h (fun r4 q5 h => ?_)
    refine E_cV (as := [(0, 1), (0, 20)]) (st := [(0, w32 (v1 + 1)), (2, x3)]) (a := v0) d_X12_readRest_22 mk_X12_count nl_X12_220 (by omega) ⟨rfl, rfl, Nat.le_of_ble_eq_true rfl⟩ okX12 rfl (L_X12_count q5) ?_
    refine E_iastore d_X12_readRest_25 h (fun σ6 h => ?_)
    refine E_goto (tgt := 171) d_X12_readRest_26 (by decide) ?_
    cases h
    exact E_vret d_X12_readRest_171 rfl
  · refine E_iload_n d_X12_readRest_29 rfl ?_
    refine E_iconst d_X12_readRest_30 (c32 rfl) ?_
    refine E_icmp_ne (tgt := 78) d_X12_readRest_31 (by decide) h (fun _ h => ?_) (fun _ h => ?_)
    · refine E_aload_n d_X12_readRest_34 rfl (by decide) ?_
      refine E_get d_X12_readRest_35 okX12 fl_X12_35 ⟨by decide, rfl⟩ h (fun x7 h => ?_)
      refine E_iload_n d_X12_readRest_38 rfl ?_
      refine E_iconst d_X12_readRest_39 (c32 rfl) ?_
      refine E_iadd d_X12_readRest_40 ?_
      refine E_aload_n d_X12_readRest_41 rfl (by decide) ?_
      refine E_iconst d_X12_readRest_42 (c32 rfl) ?_
      refine E_bipush d_X12_readRest_43 (c8 rfl) ?_
      refine bd h (fun r8 q9 h => ?_)
      refine E_cV (as := [(0, 0), (0, 99)]) (st := [(0, w32 (v1 + 1)), (2, x7)]) (a := v0) d_X12_readRest_45 mk_X12_count nl_X12_220 (by omega) ⟨rfl, rfl, Nat.le_of_ble_eq_true rfl⟩ okX12 rfl (L_X12_count q9) ?_
      refine E_iastore d_X12_readRest_48 h (fun σ10 h => ?_)
      refine E_aload_n d_X12_readRest_49 rfl (by decide) ?_
      refine E_get d_X12_readRest_50 okX12 fl_X12_35 ⟨by decide, rfl⟩ h (fun x11 h => ?_)
      refine E_iload_n d_X12_readRest_53 rfl ?_
      refine E_iconst d_X12_readRest_54 (c32 rfl) ?_
      refine E_iadd d_X12_readRest_55 ?_
      refine E_aload_n d_X12_readRest_56 rfl (by decide) ?_
      refine bd h (fun r12 q13 h => ?_)
      refine E_cV (as := []) (st := [(0, w32 (v1 + 2)), (2, x11)]) (a := v0) d_X12_readRest_57 mk_X12_readPlace nl_X12_290 (by omega) ⟨rfl, rfl, Nat.le_of_ble_eq_true rfl⟩ okX12 rfl (L_X12_readPlace q13) ?_
      refine E_iastore d_X12_readRest_60 h (fun σ14 h => ?_)
      refine E_aload_n d_X12_readRest_61 rfl (by decide) ?_
      refine E_get d_X12_readRest_62 okX12 fl_X12_35 ⟨by decide, rfl⟩ h (fun x15 h => ?_)
      refine E_iload_n d_X12_readRest_65 rfl ?_
      refine E_iconst d_X12_readRest_66 (c32 rfl) ?_
      refine E_iadd d_X12_readRest_67 ?_
      refine E_aload_n d_X12_readRest_68 rfl (by decide) ?_
      refine E_iconst d_X12_readRest_69 (c32 rfl) ?_
      refine E_iconst d_X12_readRest_70 (c32 rfl) ?_
      refine bd h (fun r16 q17 h => ?_)
      refine E_cV (as := [(0, 0), (0, 1)]) (st := [(0, w32 (v1 + 3)), (2, x15)]) (a := v0) d_X12_readRest_71 mk_X12_count nl_X12_220 (by omega) ⟨rfl, rfl, Nat.le_of_ble_eq_true rfl⟩ okX12 rfl (L_X12_count q17) ?_
      refine E_iastore d_X12_readRest_74 h (fun σ18 h => ?_)
      refine E_goto (tgt := 171) d_X12_readRest_75 (by decide) ?_
      cases h
      exact E_vret d_X12_readRest_171 rfl
    · refine E_iload_n d_X12_readRest_78 rfl ?_
      refine E_bipush d_X12_readRest_79 (c8 rfl) ?_
      refine E_icmp_ne (tgt := 102) d_X12_readRest_81 (by decide) h (fun _ h => ?_) (fun _ h => ?_)
      · refine E_aload_n d_X12_readRest_84 rfl (by decide) ?_
        refine E_get d_X12_readRest_85 okX12 fl_X12_35 ⟨by decide, rfl⟩ h (fun x19 h => ?_)
        refine E_iload_n d_X12_readRest_88 rfl ?_
        refine E_iconst d_X12_readRest_89 (c32 rfl) ?_
        refine E_iadd d_X12_readRest_90 ?_
        refine E_aload_n d_X12_readRest_91 rfl (by decide) ?_
        refine E_iconst d_X12_readRest_92 (c32 rfl) ?_
        refine E_bipush d_X12_readRest_93 (c8 rfl) ?_
        refine bd h (fun r20 q21 h => ?_)
        refine E_cV (as := [(0, 1), (0, 99)]) (st := [(0, w32 (v1 + 1)), (2, x19)]) (a := v0) d_X12_readRest_95 mk_X12_count nl_X12_220 (by omega) ⟨rfl, rfl, Nat.le_of_ble_eq_true rfl⟩ okX12 rfl (L_X12_count q21) ?_
        refine E_iastore d_X12_readRest_98 h (fun σ22 h => ?_)
        refine E_goto (tgt := 171) d_X12_readRest_99 (by decide) ?_
        cases h
        exact E_vret d_X12_readRest_171 rfl
      · refine E_iload_n d_X12_readRest_102 rfl ?_
        refine E_bipush d_X12_readRest_103 (c8 rfl) ?_
        refine E_icmp_ne (tgt := 116) d_X12_readRest_105 (by decide) h (fun _ h => ?_) (fun _ h => ?_)
        · refine E_aload_n d_X12_readRest_108 rfl (by decide) ?_
          refine E_iload_n d_X12_readRest_109 rfl ?_
          refine bd h (fun r23 q24 h => ?_)
          refine E_cVv (as := [(0, v1)]) (st := []) (a := v0) d_X12_readRest_110 mk_X12_readTest nl_X12_293 (by omega) ⟨rfl, rfl, Nat.le_of_ble_eq_true rfl⟩ okX12 rfl (L_X12_readTest q24) ?_
          refine E_goto (tgt := 171) d_X12_readRest_113 (by decide) ?_
          cases h
          exact E_vret d_X12_readRest_171 rfl
        · refine E_iload_n d_X12_readRest_116 rfl ?_
          refine E_iconst d_X12_readRest_117 (c32 rfl) ?_
          refine E_icmp_ne (tgt := 152) d_X12_readRest_118 (by decide) h (fun _ h => ?_) (fun _ h => ?_)
          · refine E_aload_n d_X12_readRest_121 rfl (by decide) ?_
            refine E_get d_X12_readRest_122 okX12 fl_X12_35 ⟨by decide, rfl⟩ h (fun x25 h => ?_)
            refine E_iload_n d_X12_readRest_125 rfl ?_
            refine E_iconst d_X12_readRest_126 (c32 rfl) ?_
            refine E_iadd d_X12_readRest_127 ?_
            refine E_aload_n d_X12_readRest_128 rfl (by decide) ?_
            refine E_iconst d_X12_readRest_129 (c32 rfl) ?_
            refine E_iconst d_X12_readRest_130 (c32 rfl) ?_
            refine bd h (fun r26 q27 h => ?_)
            refine E_cV (as := [(0, 0), (0, 1)]) (st := [(0, w32 (v1 + 1)), (2, x25)]) (a := v0) d_X12_readRest_131 mk_X12_readTold nl_X12_257 (by omega) ⟨rfl, rfl, Nat.le_of_ble_eq_true rfl⟩ okX12 rfl (L_X12_readTold q27) ?_
            refine E_iastore d_X12_readRest_134 h (fun σ28 h => ?_)
            refine E_aload_n d_X12_readRest_135 rfl (by decide) ?_
            refine E_get d_X12_readRest_136 okX12 fl_X12_35 ⟨by decide, rfl⟩ h (fun x29 h => ?_)
            refine E_iload_n d_X12_readRest_139 rfl ?_
            refine E_iconst d_X12_readRest_140 (c32 rfl) ?_
            refine E_iadd d_X12_readRest_141 ?_
            refine E_aload_n d_X12_readRest_142 rfl (by decide) ?_
            refine E_iconst d_X12_readRest_143 (c32 rfl) ?_
            refine E_iconst d_X12_readRest_144 (c32 rfl) ?_
            refine bd h (fun r30 q31 h => ?_)
            refine E_cV (as := [(0, 0), (0, 0)]) (st := [(0, w32 (v1 + 2)), (2, x29)]) (a := v0) d_X12_readRest_145 mk_X12_readTold nl_X12_257 (by omega) ⟨rfl, rfl, Nat.le_of_ble_eq_true rfl⟩ okX12 rfl (L_X12_readTold q31) ?_
            refine E_iastore d_X12_readRest_148 h (fun σ32 h => ?_)
            refine E_goto (tgt := 171) d_X12_readRest_149 (by decide) ?_
            cases h
            exact E_vret d_X12_readRest_171 rfl
          · refine E_iload_n d_X12_readRest_152 rfl ?_
            refine E_iconst d_X12_readRest_153 (c32 rfl) ?_
            refine E_icmp_ge (tgt := 171) d_X12_readRest_154 (by decide) h (fun _ h => ?_) (fun _ h => ?_)
            · cases h
              exact E_vret d_X12_readRest_171 rfl
            · refine E_aload_n d_X12_readRest_157 rfl (by decide) ?_
              refine E_get d_X12_readRest_158 okX12 fl_X12_35 ⟨by decide, rfl⟩ h (fun x33 h => ?_)
              refine E_iload_n d_X12_readRest_161 rfl ?_
              refine E_iconst d_X12_readRest_162 (c32 rfl) ?_
              refine E_iadd d_X12_readRest_163 ?_
              refine E_aload_n d_X12_readRest_164 rfl (by decide) ?_
              refine E_iconst d_X12_readRest_165 (c32 rfl) ?_
              refine E_iconst d_X12_readRest_166 (c32 rfl) ?_
              refine bd h (fun r34 q35 h => ?_)
              refine E_cV (as := [(0, 0), (0, 0)]) (st := [(0, w32 (v1 + 1)), (2, x33)]) (a := v0) d_X12_readRest_167 mk_X12_readTold nl_X12_257 (by omega) ⟨rfl, rfl, Nat.le_of_ble_eq_true rfl⟩ okX12 rfl (L_X12_readTold q35) ?_
              refine E_iastore d_X12_readRest_170 h (fun σ36 h => ?_)
              cases h
              exact E_vret d_X12_readRest_171 rfl
noncomputable def f_X12_readRest (v0 v1 : Int) (σ : Mem) : Option (Mem) := if isO Sh 12 v0 = true then f_X12_readRest_b0 v0 v1 σ else none
theorem L_X12_readRest {o : Mem} {v0 v1 : Int} {σ : Mem} (h : f_X12_readRest v0 v1 σ = some o) : (isO Sh 12 v0 = true ∧ Cn mt_X12_readRest 8 [(2, v0), (0, v1)] Sh σ none Sh o) := ⟨(ite_ok h).1, Cn_of mk_X12_readRest.1.2.2.1 (Nat.le_of_ble_eq_true rfl) (fun sc => L_X12_readRest_b0 (ite_ok h).2)⟩
