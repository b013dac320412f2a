theorem d_X12_whyNoGame_0 : decode mt_X12_whyNoGame.2.1 0 = .ok (.aload_n 0, 1) := by decide +kernel
theorem d_X12_whyNoGame_1 : decode mt_X12_whyNoGame.2.1 1 = .ok (.iload_n 1, 1) := by decide +kernel
theorem d_X12_whyNoGame_2 : decode mt_X12_whyNoGame.2.1 2 = .ok (.iload_n 2, 1) := by decide +kernel
theorem d_X12_whyNoGame_3 : decode mt_X12_whyNoGame.2.1 3 = .ok (.invokevirtual 363, 3) := by decide +kernel
theorem d_X12_whyNoGame_6 : decode mt_X12_whyNoGame.2.1 6 = .ok (.istore 5, 2) := by decide +kernel
theorem d_X12_whyNoGame_8 : decode mt_X12_whyNoGame.2.1 8 = .ok (.iload 5, 2) := by decide +kernel
theorem d_X12_whyNoGame_10 : decode mt_X12_whyNoGame.2.1 10 = .ok (.ifCond .le 8, 3) := by decide +kernel
theorem d_X12_whyNoGame_13 : decode mt_X12_whyNoGame.2.1 13 = .ok (.iload 5, 2) := by decide +kernel
theorem d_X12_whyNoGame_15 : decode mt_X12_whyNoGame.2.1 15 = .ok (.goto 22, 3) := by decide +kernel
theorem d_X12_whyNoGame_18 : decode mt_X12_whyNoGame.2.1 18 = .ok (.iload_n 3, 1) := by decide +kernel
theorem d_X12_whyNoGame_19 : decode mt_X12_whyNoGame.2.1 19 = .ok (.i2l, 1) := by decide +kernel
theorem d_X12_whyNoGame_20 : decode mt_X12_whyNoGame.2.1 20 = .ok (.iload 4, 2) := by decide +kernel
theorem d_X12_whyNoGame_22 : decode mt_X12_whyNoGame.2.1 22 = .ok (.i2l, 1) := by decide +kernel
theorem d_X12_whyNoGame_23 : decode mt_X12_whyNoGame.2.1 23 = .ok (.ldc2_w 333, 3) := by decide +kernel
theorem d_X12_whyNoGame_26 : decode mt_X12_whyNoGame.2.1 26 = .ok (.invokestatic 104, 3) := by decide +kernel
theorem d_X12_whyNoGame_29 : decode mt_X12_whyNoGame.2.1 29 = .ok (.ifCond .eq 7, 3) := by decide +kernel
theorem d_X12_whyNoGame_32 : decode mt_X12_whyNoGame.2.1 32 = .ok (.iconst 0, 1) := by decide +kernel
theorem d_X12_whyNoGame_33 : decode mt_X12_whyNoGame.2.1 33 = .ok (.goto 4, 3) := by decide +kernel
theorem d_X12_whyNoGame_36 : decode mt_X12_whyNoGame.2.1 36 = .ok (.iconst 5, 1) := by decide +kernel
theorem d_X12_whyNoGame_37 : decode mt_X12_whyNoGame.2.1 37 = .ok (.ireturn, 1) := by decide +kernel
noncomputable def f_X12_whyNoGame_b0 (v0 v1 v2 v3 v4 : Int) (σ : Mem) : Option (Int) :=
  (f_X12_whyNoTrial v0 v1 v2 σ).bind fun r1 =>
  if r1 ≤ 0 then
    (f_X12_isIn v3 v4 4 σ).bind fun r3 =>
    if r3 = 0 then
      some (5)
    else
      some (0)
  else
    some (r1)
theorem L_X12_whyNoGame_b0 {sc : Nat × (Nat → Int32)} {o : Int} {σ : Mem} {v0 v1 v2 v3 v4 : Int} (h : f_X12_whyNoGame_b0 v0 v1 v2 v3 v4 σ = some o) : E sc (Fm Sh (some (0, o)) Sh σ) mt_X12_whyNoGame 4 Sh Sh 0 [(2, v0), (0, v1), (0, v2), (0, v3), (0, v4), (9, 0)] [] Sh σ := by
  unfold f_X12_whyNoGame_b0 at h
  refine E_aload_n d_X12_whyNoGame_0 rfl (by decide) ?_
  refine E_iload_n d_X12_whyNoGame_1 rfl ?_
  refine E_iload_n d_X12_whyNoGame_2 rfl ?_
  refine bd h (fun r1 q2 h => ?_)
  refine E_cV (as := [(0, v1), (0, v2)]) (st := []) (a := v0) d_X12_whyNoGame_3 mk_X12_whyNoTrial nl_X12_363 (by omega) ⟨rfl, rfl, Nat.le_of_ble_eq_true rfl⟩ okX12 rfl (L_X12_whyNoTrial q2) ?_
  refine E_istore d_X12_whyNoGame_6 (ls' := [(2, v0), (0, v1), (0, v2), (0, v3), (0, v4), (0, r1)]) ⟨by decide, rfl⟩ ?_
  refine E_iload d_X12_whyNoGame_8 rfl ?_
  refine E_if_le (tgt := 18) d_X12_whyNoGame_10 (by decide) h (fun _ h => ?_) (fun _ h => ?_)
  · refine E_iload_n d_X12_whyNoGame_18 rfl ?_
    refine E_i2l d_X12_whyNoGame_19 ?_
    refine E_iload d_X12_whyNoGame_20 rfl ?_
    refine E_i2l d_X12_whyNoGame_22 ?_
    refine E_ldc2 d_X12_whyNoGame_23 kw_X12_333 ?_
    refine bd h (fun r3 q4 h => ?_)
    refine E_cS (as := [(1, v3), (1, v4), (1, 4)]) (st := []) d_X12_whyNoGame_26 mk_X12_isIn nl_X12_104 (by omega) ⟨rfl, rfl, Nat.le_of_ble_eq_true rfl⟩ (L_X12_isIn q4) ?_
    refine E_if_eq (tgt := 36) d_X12_whyNoGame_29 (by decide) h (fun _ h => ?_) (fun _ h => ?_)
    · refine E_iconst d_X12_whyNoGame_36 (c32 rfl) ?_
      cases h
      exact E_iret d_X12_whyNoGame_37 rfl
    · refine E_iconst d_X12_whyNoGame_32 (c32 rfl) ?_
      refine E_goto (tgt := 37) d_X12_whyNoGame_33 (by decide) ?_
      cases h
      exact E_iret d_X12_whyNoGame_37 rfl
  · refine E_iload d_X12_whyNoGame_13 rfl ?_
    refine E_goto (tgt := 37) d_X12_whyNoGame_15 (by decide) ?_
    cases h
    exact E_iret d_X12_whyNoGame_37 rfl
noncomputable def f_X12_whyNoGame (v0 v1 v2 v3 v4 : Int) (σ : Mem) : Option (Int) := if isO Sh 12 v0 = true then f_X12_whyNoGame_b0 v0 v1 v2 v3 v4 σ else none
theorem L_X12_whyNoGame {o : Int} {v0 v1 v2 v3 v4 : Int} {σ : Mem} (h : f_X12_whyNoGame v0 v1 v2 v3 v4 σ = some o) : (isO Sh 12 v0 = true ∧ Cn mt_X12_whyNoGame 4 [(2, v0), (0, v1), (0, v2), (0, v3), (0, v4)] Sh σ (some (0, o)) Sh σ) := ⟨(ite_ok h).1, Cn_of mk_X12_whyNoGame.1.2.2.1 (Nat.le_of_ble_eq_true rfl) (fun sc => L_X12_whyNoGame_b0 (ite_ok h).2)⟩
theorem d_X12_scoreOf_0 : decode mt_X12_scoreOf.2.1 0 = .ok (.iconst 0, 1) := by decide +kernel
theorem d_X12_scoreOf_1 : decode mt_X12_scoreOf.2.1 1 = .ok (.istore 5, 2) := by decide +kernel
theorem d_X12_scoreOf_3 : decode mt_X12_scoreOf.2.1 3 = .ok (.iconst 0, 1) := by decide +kernel
theorem d_X12_scoreOf_4 : decode mt_X12_scoreOf.2.1 4 = .ok (.istore 6, 2) := by decide +kernel
theorem d_X12_scoreOf_6 : decode mt_X12_scoreOf.2.1 6 = .ok (.iload 6, 2) := by decide +kernel
theorem d_X12_scoreOf_8 : decode mt_X12_scoreOf.2.1 8 = .ok (.aload_n 0, 1) := by decide +kernel
theorem d_X12_scoreOf_9 : decode mt_X12_scoreOf.2.1 9 = .ok (.getfield 35, 3) := by decide +kernel
theorem d_X12_scoreOf_12 : decode mt_X12_scoreOf.2.1 12 = .ok (.iconst 0, 1) := by decide +kernel
theorem d_X12_scoreOf_13 : decode mt_X12_scoreOf.2.1 13 = .ok (.iaload, 1) := by decide +kernel
theorem d_X12_scoreOf_14 : decode mt_X12_scoreOf.2.1 14 = .ok (.if_icmp .ge 70, 3) := by decide +kernel
theorem d_X12_scoreOf_17 : decode mt_X12_scoreOf.2.1 17 = .ok (.aload_n 0, 1) := by decide +kernel
theorem d_X12_scoreOf_18 : decode mt_X12_scoreOf.2.1 18 = .ok (.iload 6, 2) := by decide +kernel
theorem d_X12_scoreOf_20 : decode mt_X12_scoreOf.2.1 20 = .ok (.invokevirtual 305, 3) := by decide +kernel
theorem d_X12_scoreOf_23 : decode mt_X12_scoreOf.2.1 23 = .ok (.ifCond .eq 55, 3) := by decide +kernel
theorem d_X12_scoreOf_26 : decode mt_X12_scoreOf.2.1 26 = .ok (.iload 5, 2) := by decide +kernel
theorem d_X12_scoreOf_28 : decode mt_X12_scoreOf.2.1 28 = .ok (.iload_n 1, 1) := by decide +kernel
theorem d_X12_scoreOf_29 : decode mt_X12_scoreOf.2.1 29 = .ok (.aload_n 0, 1) := by decide +kernel
theorem d_X12_scoreOf_30 : decode mt_X12_scoreOf.2.1 30 = .ok (.iload 6, 2) := by decide +kernel
theorem d_X12_scoreOf_32 : decode mt_X12_scoreOf.2.1 32 = .ok (.iload_n 2, 1) := by decide +kernel
theorem d_X12_scoreOf_33 : decode mt_X12_scoreOf.2.1 33 = .ok (.invokevirtual 338, 3) := by decide +kernel
theorem d_X12_scoreOf_36 : decode mt_X12_scoreOf.2.1 36 = .ok (.iload_n 3, 1) := by decide +kernel
theorem d_X12_scoreOf_37 : decode mt_X12_scoreOf.2.1 37 = .ok (.iload 6, 2) := by decide +kernel
theorem d_X12_scoreOf_39 : decode mt_X12_scoreOf.2.1 39 = .ok (.invokestatic 108, 3) := by decide +kernel
theorem d_X12_scoreOf_42 : decode mt_X12_scoreOf.2.1 42 = .ok (.ifCond .eq 7, 3) := by decide +kernel
theorem d_X12_scoreOf_45 : decode mt_X12_scoreOf.2.1 45 = .ok (.iconst 3, 1) := by decide +kernel
theorem d_X12_scoreOf_46 : decode mt_X12_scoreOf.2.1 46 = .ok (.goto 4, 3) := by decide +kernel
theorem d_X12_scoreOf_49 : decode mt_X12_scoreOf.2.1 49 = .ok (.iconst 0, 1) := by decide +kernel
theorem d_X12_scoreOf_50 : decode mt_X12_scoreOf.2.1 50 = .ok (.isub, 1) := by decide +kernel
theorem d_X12_scoreOf_51 : decode mt_X12_scoreOf.2.1 51 = .ok (.iload 4, 2) := by decide +kernel
theorem d_X12_scoreOf_53 : decode mt_X12_scoreOf.2.1 53 = .ok (.iload 6, 2) := by decide +kernel
theorem d_X12_scoreOf_55 : decode mt_X12_scoreOf.2.1 55 = .ok (.invokestatic 108, 3) := by decide +kernel
theorem d_X12_scoreOf_58 : decode mt_X12_scoreOf.2.1 58 = .ok (.ifCond .eq 7, 3) := by decide +kernel
theorem d_X12_scoreOf_61 : decode mt_X12_scoreOf.2.1 61 = .ok (.iconst 3, 1) := by decide +kernel
theorem d_X12_scoreOf_62 : decode mt_X12_scoreOf.2.1 62 = .ok (.goto 4, 3) := by decide +kernel
theorem d_X12_scoreOf_65 : decode mt_X12_scoreOf.2.1 65 = .ok (.iconst 0, 1) := by decide +kernel
theorem d_X12_scoreOf_66 : decode mt_X12_scoreOf.2.1 66 = .ok (.iadd, 1) := by decide +kernel
theorem d_X12_scoreOf_67 : decode mt_X12_scoreOf.2.1 67 = .ok (.if_icmp .le 7, 3) := by decide +kernel
theorem d_X12_scoreOf_70 : decode mt_X12_scoreOf.2.1 70 = .ok (.iconst 1, 1) := by decide +kernel
theorem d_X12_scoreOf_71 : decode mt_X12_scoreOf.2.1 71 = .ok (.goto 4, 3) := by decide +kernel
theorem d_X12_scoreOf_74 : decode mt_X12_scoreOf.2.1 74 = .ok (.iconst 0, 1) := by decide +kernel
theorem d_X12_scoreOf_75 : decode mt_X12_scoreOf.2.1 75 = .ok (.iadd, 1) := by decide +kernel
theorem d_X12_scoreOf_76 : decode mt_X12_scoreOf.2.1 76 = .ok (.istore 5, 2) := by decide +kernel
theorem d_X12_scoreOf_78 : decode mt_X12_scoreOf.2.1 78 = .ok (.iinc 6 1, 3) := by decide +kernel
theorem d_X12_scoreOf_81 : decode mt_X12_scoreOf.2.1 81 = .ok (.goto (-75), 3) := by decide +kernel
theorem d_X12_scoreOf_84 : decode mt_X12_scoreOf.2.1 84 = .ok (.iload 5, 2) := by decide +kernel
theorem d_X12_scoreOf_86 : decode mt_X12_scoreOf.2.1 86 = .ok (.ireturn, 1) := by decide +kernel
noncomputable def f_X12_scoreOf_b78 (k6 : (Int → Int → Int → Int → Int → Int → Int → Mem → Option (Int))) (v0 v1 v2 v3 v4 v5 v6 : Int) (σ : Mem) : Option (Int) :=
  k6 v0 v1 v2 v3 v4 v5 (w32 (v6 + 1)) σ
theorem L_X12_scoreOf_b78 {sc : Nat × (Nat → Int32)} {o : Int} {σ : Mem} {k6 : (Int → Int → Int → Int → Int → Int → Int → Mem → Option (Int))} (hk6 : ∀ {v0 v1 v2 v3 v4 v5 v6 : Int}, k6 v0 v1 v2 v3 v4 v5 v6 σ = some o → E sc (Fm Sh (some (0, o)) Sh σ) mt_X12_scoreOf 4 Sh Sh 6 [(2, v0), (0, v1), (0, v2), (0, v3), (0, v4), (0, v5), (0, v6)] [] Sh σ) {v0 v1 v2 v3 v4 v5 v6 : Int} (h : f_X12_scoreOf_b78 k6 v0 v1 v2 v3 v4 v5 v6 σ = some o) : E sc (Fm Sh (some (0, o)) Sh σ) mt_X12_scoreOf 4 Sh Sh 78 [(2, v0), (0, v1), (0, v2), (0, v3), (0, v4), (0, v5), (0, v6)] [] Sh σ := by
  unfold f_X12_scoreOf_b78 at h
  refine E_iinc d_X12_scoreOf_78 (ls' := [(2, v0), (0, v1), (0, v2), (0, v3), (0, v4), (0, v5), (0, w32 (v6 + 1))]) rfl ⟨by decide, rfl⟩ ?_
  refine E_goto (tgt := 6) d_X12_scoreOf_81 (by decide) ?_
  exact (hk6 h)
noncomputable def f_X12_scoreOf_b75 (k6 : (Int → Int → Int → Int → Int → Int → Int → Mem → Option (Int))) (v0 v1 v2 v3 v4 v6 s0 s1 : Int) (σ : Mem) : Option (Int) :=
  f_X12_scoreOf_b78 k6 v0 v1 v2 v3 v4 (w32 (s1 + s0)) v6 σ
theorem L_X12_scoreOf_b75 {sc : Nat × (Nat → Int32)} {o : Int} {σ : Mem} {k6 : (Int → Int → Int → Int → Int → Int → Int → Mem → Option (Int))} (hk6 : ∀ {v0 v1 v2 v3 v4 v5 v6 : Int}, k6 v0 v1 v2 v3 v4 v5 v6 σ = some o → E sc (Fm Sh (some (0, o)) Sh σ) mt_X12_scoreOf 4 Sh Sh 6 [(2, v0), (0, v1), (0, v2), (0, v3), (0, v4), (0, v5), (0, v6)] [] Sh σ) {v0 v1 v2 v3 v4 v6 s0 s1 : Int} (h : f_X12_scoreOf_b75 k6 v0 v1 v2 v3 v4 v6 s0 s1 σ = some o) : E sc (Fm Sh (some (0, o)) Sh σ) mt_X12_scoreOf 4 Sh Sh 75 [(2, v0), (0, v1), (0, v2), (0, v3), (0, v4), (9, 0), (0, v6)] [(0, s0), (0, s1)] Sh σ := by
  unfold f_X12_scoreOf_b75 at h
  refine E_iadd d_X12_scoreOf_75 ?_
  refine E_istore d_X12_scoreOf_76 (ls' := [(2, v0), (0, v1), (0, v2), (0, v3), (0, v4), (0, w32 (s1 + s0)), (0, v6)]) ⟨by decide, rfl⟩ ?_
  exact (L_X12_scoreOf_b78 hk6 h)
noncomputable def f_X12_scoreOf_b66 (k6 : (Int → Int → Int → Int → Int → Int → Int → Mem → Option (Int))) (v0 v1 v2 v3 v4 v6 s0 s1 s2 s3 : Int) (σ : Mem) : Option (Int) :=
  if s2 ≤ w32 (s1 + s0) then
    f_X12_scoreOf_b75 k6 v0 v1 v2 v3 v4 v6 0 s3 σ
  else
    f_X12_scoreOf_b75 k6 v0 v1 v2 v3 v4 v6 1 s3 σ
theorem L_X12_scoreOf_b66 {sc : Nat × (Nat → Int32)} {o : Int} {σ : Mem} {k6 : (Int → Int → Int → Int → Int → Int → Int → Mem → Option (Int))} (hk6 : ∀ {v0 v1 v2 v3 v4 v5 v6 : Int}, k6 v0 v1 v2 v3 v4 v5 v6 σ = some o → E sc (Fm Sh (some (0, o)) Sh σ) mt_X12_scoreOf 4 Sh Sh 6 [(2, v0), (0, v1), (0, v2), (0, v3), (0, v4), (0, v5), (0, v6)] [] Sh σ) {v0 v1 v2 v3 v4 v6 s0 s1 s2 s3 : Int} (h : f_X12_scoreOf_b66 k6 v0 v1 v2 v3 v4 v6 s0 s1 s2 s3 σ = some o) : E sc (Fm Sh (some (0, o)) Sh σ) mt_X12_scoreOf 4 Sh Sh 66 [(2, v0), (0, v1), (0, v2), (0, v3), (0, v4), (9, 0), (0, v6)] [(0, s0), (0, s1), (0, s2), (0, s3)] Sh σ := by
  unfold f_X12_scoreOf_b66 at h
  refine E_iadd d_X12_scoreOf_66 ?_
  refine E_icmp_le (tgt := 74) d_X12_scoreOf_67 (by decide) h (fun _ h => ?_) (fun _ h => ?_)
  · refine E_iconst d_X12_scoreOf_74 (c32 rfl) ?_
    exact (L_X12_scoreOf_b75 hk6 h)
  · refine E_iconst d_X12_scoreOf_70 (c32 rfl) ?_
    refine E_goto (tgt := 75) d_X12_scoreOf_71 (by decide) ?_
    exact (L_X12_scoreOf_b75 hk6 h)
noncomputable def f_X12_scoreOf_b50 (k6 : (Int → Int → Int → Int → Int → Int → Int → Mem → Option (Int))) (v0 v1 v2 v3 v4 v6 s0 s1 s2 s3 : Int) (σ : Mem) : Option (Int) :=
  (f_X12_has v4 v6 σ).bind fun r9 =>
  if r9 = 0 then
    f_X12_scoreOf_b66 k6 v0 v1 v2 v3 v4 v6 0 (w32 (s1 - s0)) s2 s3 σ
  else
    f_X12_scoreOf_b66 k6 v0 v1 v2 v3 v4 v6 3 (w32 (s1 - s0)) s2 s3 σ
theorem L_X12_scoreOf_b50 {sc : Nat × (Nat → Int32)} {o : Int} {σ : Mem} {k6 : (Int → Int → Int → Int → Int → Int → Int → Mem → Option (Int))} (hk6 : ∀ {v0 v1 v2 v3 v4 v5 v6 : Int}, k6 v0 v1 v2 v3 v4 v5 v6 σ = some o → E sc (Fm Sh (some (0, o)) Sh σ) mt_X12_scoreOf 4 Sh Sh 6 [(2, v0), (0, v1), (0, v2), (0, v3), (0, v4), (0, v5), (0, v6)] [] Sh σ) {v0 v1 v2 v3 v4 v6 s0 s1 s2 s3 : Int} (h : f_X12_scoreOf_b50 k6 v0 v1 v2 v3 v4 v6 s0 s1 s2 s3 σ = some o) : E sc (Fm Sh (some (0, o)) Sh σ) mt_X12_scoreOf 4 Sh Sh 50 [(2, v0), (0, v1), (0, v2), (0, v3), (0, v4), (9, 0), (0, v6)] [(0, s0), (0, s1), (0, s2), (0, s3)] Sh σ := by
  unfold f_X12_scoreOf_b50 at h
  refine E_isub d_X12_scoreOf_50 ?_
  refine E_iload d_X12_scoreOf_51 rfl ?_
  refine E_iload d_X12_scoreOf_53 rfl ?_
  refine bd h (fun r9 q10 h => ?_)
  refine E_cS (as := [(0, v4), (0, v6)]) (st := [(0, w32 (s1 - s0)), (0, s2), (0, s3)]) d_X12_scoreOf_55 mk_X12_has nl_X12_108 (by omega) ⟨rfl, rfl, Nat.le_of_ble_eq_true rfl⟩ (L_X12_has q10) ?_
  refine E_if_eq (tgt := 65) d_X12_scoreOf_58 (by decide) h (fun _ h => ?_) (fun _ h => ?_)
  · refine E_iconst d_X12_scoreOf_65 (c32 rfl) ?_
    exact (L_X12_scoreOf_b66 hk6 h)
  · refine E_iconst d_X12_scoreOf_61 (c32 rfl) ?_
    refine E_goto (tgt := 66) d_X12_scoreOf_62 (by decide) ?_
    exact (L_X12_scoreOf_b66 hk6 h)
noncomputable def f_X12_scoreOf_b6 (k6 : (Int → Int → Int → Int → Int → Int → Int → Mem → Option (Int))) (v0 v1 v2 v3 v4 v5 v6 : Int) (σ : Mem) : Option (Int) :=
  (gf Sh σ 12 v0 20).bind fun x1 =>
  (al Sh σ 20 x1 0).bind fun x2 =>
  if x2 ≤ v6 then
    some (v5)
  else
    (f_X12_isStoneAt v0 v6 σ).bind fun r3 =>
    if r3 = 0 then
      f_X12_scoreOf_b78 k6 v0 v1 v2 v3 v4 v5 v6 σ
    else
      (f_X12_mercyOf v0 v6 v2 σ).bind fun r5 =>
      (f_X12_has v3 v6 σ).bind fun r7 =>
      if r7 = 0 then
        f_X12_scoreOf_b50 k6 v0 v1 v2 v3 v4 v6 0 r5 v1 v5 σ
      else
        f_X12_scoreOf_b50 k6 v0 v1 v2 v3 v4 v6 3 r5 v1 v5 σ
theorem L_X12_scoreOf_b6 {sc : Nat × (Nat → Int32)} {o : Int} {σ : Mem} {k6 : (Int → Int → Int → Int → Int → Int → Int → Mem → Option (Int))} (hk6 : ∀ {v0 v1 v2 v3 v4 v5 v6 : Int}, k6 v0 v1 v2 v3 v4 v5 v6 σ = some o → E sc (Fm Sh (some (0, o)) Sh σ) mt_X12_scoreOf 4 Sh Sh 6 [(2, v0), (0, v1), (0, v2), (0, v3), (0, v4), (0, v5), (0, v6)] [] Sh σ) {v0 v1 v2 v3 v4 v5 v6 : Int} (h : f_X12_scoreOf_b6 k6 v0 v1 v2 v3 v4 v5 v6 σ = some o) : E sc (Fm Sh (some (0, o)) Sh σ) mt_X12_scoreOf 4 Sh Sh 6 [(2, v0), (0, v1), (0, v2), (0, v3), (0, v4), (0, v5), (0, v6)] [] Sh σ := by
  unfold f_X12_scoreOf_b6 at h
  refine E_iload d_X12_scoreOf_6 rfl ?_
  refine E_aload_n d_X12_scoreOf_8 rfl (by decide) ?_
  refine E_get d_X12_scoreOf_9 okX12 fl_X12_35 ⟨by decide, rfl⟩ h (fun x1 h => ?_)
  refine E_iconst d_X12_scoreOf_12 (c32 rfl) ?_
  refine E_iaload d_X12_scoreOf_13 h (fun x2 h => ?_)
  refine E_icmp_ge (tgt := 84) d_X12_scoreOf_14 (by decide) h (fun _ h => ?_) (fun _ h => ?_)
  · refine E_iload d_X12_scoreOf_84 rfl ?_
    cases h
    exact E_iret d_X12_scoreOf_86 rfl
  · refine E_aload_n d_X12_scoreOf_17 rfl (by decide) ?_
    refine E_iload d_X12_scoreOf_18 rfl ?_
    refine bd h (fun r3 q4 h => ?_)
    refine E_cV (as := [(0, v6)]) (st := []) (a := v0) d_X12_scoreOf_20 mk_X12_isStoneAt nl_X12_305 (by omega) ⟨rfl, rfl, Nat.le_of_ble_eq_true rfl⟩ okX12 rfl (L_X12_isStoneAt q4) ?_
    refine E_if_eq (tgt := 78) d_X12_scoreOf_23 (by decide) h (fun _ h => ?_) (fun _ h => ?_)
    · exact (L_X12_scoreOf_b78 hk6 h)
    · refine E_iload d_X12_scoreOf_26 rfl ?_
      refine E_iload_n d_X12_scoreOf_28 rfl ?_
      refine E_aload_n d_X12_scoreOf_29 rfl (by decide) ?_
      refine E_iload d_X12_scoreOf_30 rfl ?_
      refine E_iload_n d_X12_scoreOf_32 rfl ?_
      refine bd h (fun r5 q6 h => ?_)
      refine E_cV (as := [(0, v6), (0, v2)]) (st := [(0, v1), (0, v5)]) (a := v0) d_X12_scoreOf_33 mk_X12_mercyOf nl_X12_338 (by omega) ⟨rfl, rfl, Nat.le_of_ble_eq_true rfl⟩ okX12 rfl (L_X12_mercyOf q6) ?_
      refine E_iload_n d_X12_scoreOf_36 rfl ?_
      refine E_iload d_X12_scoreOf_37 rfl ?_
      refine bd h (fun r7 q8 h => ?_)
      refine E_cS (as := [(0, v3), (0, v6)]) (st := [(0, r5), (0, v1), (0, v5)]) d_X12_scoreOf_39 mk_X12_has nl_X12_108 (by omega) ⟨rfl, rfl, Nat.le_of_ble_eq_true rfl⟩ (L_X12_has q8) ?_
      refine E_if_eq (tgt := 49) d_X12_scoreOf_42 (by decide) h (fun _ h => ?_) (fun _ h => ?_)
      · refine E_iconst d_X12_scoreOf_49 (c32 rfl) ?_
        exact E_weak (ls' := [(2, v0), (0, v1), (0, v2), (0, v3), (0, v4), (9, 0), (0, v6)]) ⟨Or.inr rfl, Or.inr rfl, Or.inr rfl, Or.inr rfl, Or.inr rfl, Or.inl rfl, Or.inr rfl, trivial⟩ (L_X12_scoreOf_b50 hk6 h)
      · refine E_iconst d_X12_scoreOf_45 (c32 rfl) ?_
        refine E_goto (tgt := 50) d_X12_scoreOf_46 (by decide) ?_
        exact E_weak (ls' := [(2, v0), (0, v1), (0, v2), (0, v3), (0, v4), (9, 0), (0, v6)]) ⟨Or.inr rfl, Or.inr rfl, Or.inr rfl, Or.inr rfl, Or.inr rfl, Or.inl rfl, Or.inr rfl, trivial⟩ (L_X12_scoreOf_b50 hk6 h)
noncomputable def f_X12_scoreOf_h6 (n : Nat) : Int → Int → Int → Int → Int → Int → Int → Mem → Option (Int) := Nat.rec (motive := fun _ => Int → Int → Int → Int → Int → Int → Int → Mem → Option (Int)) (fun _ _ _ _ _ _ _ _ => none) (fun _ ih => f_X12_scoreOf_b6 (ih)) n
theorem L_X12_scoreOf_h6 {sc : Nat × (Nat → Int32)} {o : Int} {σ : Mem} : ∀ (n : Nat) {v0 v1 v2 v3 v4 v5 v6 : Int}, f_X12_scoreOf_h6 n v0 v1 v2 v3 v4 v5 v6 σ = some o → E sc (Fm Sh (some (0, o)) Sh σ) mt_X12_scoreOf 4 Sh Sh 6 [(2, v0), (0, v1), (0, v2), (0, v3), (0, v4), (0, v5), (0, v6)] [] Sh σ := by
  intro n
  induction n with
  | zero => intro v0 v1 v2 v3 v4 v5 v6 h; cases h
  | succ n ih => intro v0 v1 v2 v3 v4 v5 v6 h; exact L_X12_scoreOf_b6 (@ih) h
noncomputable def f_X12_scoreOf_b0 (v0 v1 v2 v3 v4 : Int) (σ : Mem) : Option (Int) :=
  f_X12_scoreOf_h6 FU v0 v1 v2 v3 v4 0 0 σ
theorem L_X12_scoreOf_b0 {sc : Nat × (Nat → Int32)} {o : Int} {σ : Mem} {v0 v1 v2 v3 v4 : Int} (h : f_X12_scoreOf_b0 v0 v1 v2 v3 v4 σ = some o) : E sc (Fm Sh (some (0, o)) Sh σ) mt_X12_scoreOf 4 Sh Sh 0 [(2, v0), (0, v1), (0, v2), (0, v3), (0, v4), (9, 0), (9, 0)] [] Sh σ := by
  unfold f_X12_scoreOf_b0 at h
  refine E_iconst d_X12_scoreOf_0 (c32 rfl) ?_
  refine E_istore d_X12_scoreOf_1 (ls' := [(2, v0), (0, v1), (0, v2), (0, v3), (0, v4), (0, 0), (9, 0)]) ⟨by decide, rfl⟩ ?_
  refine E_iconst d_X12_scoreOf_3 (c32 rfl) ?_
  refine E_istore d_X12_scoreOf_4 (ls' := [(2, v0), (0, v1), (0, v2), (0, v3), (0, v4), (0, 0), (0, 0)]) ⟨by decide, rfl⟩ ?_
  exact (L_X12_scoreOf_h6 FU h)
noncomputable def f_X12_scoreOf (v0 v1 v2 v3 v4 : Int) (σ : Mem) : Option (Int) := if isO Sh 12 v0 = true then f_X12_scoreOf_b0 v0 v1 v2 v3 v4 σ else none
theorem L_X12_scoreOf {o : Int} {v0 v1 v2 v3 v4 : Int} {σ : Mem} (h : f_X12_scoreOf v0 v1 v2 v3 v4 σ = some o) : (isO Sh 12 v0 = true ∧ Cn mt_X12_scoreOf 4 [(2, v0), (0, v1), (0, v2), (0, v3), (0, v4)] Sh σ (some (0, o)) Sh σ) := ⟨(ite_ok h).1, Cn_of mk_X12_scoreOf.1.2.2.1 (Nat.le_of_ble_eq_true rfl) (fun sc => L_X12_scoreOf_b0 (ite_ok h).2)⟩
theorem d_X12_plays_0 : decode mt_X12_plays.2.1 0 = .ok (.iload_n 3, 1) := by decide +kernel
theorem d_X12_plays_1 : decode mt_X12_plays.2.1 1 = .ok (.iload 4, 2) := by decide +kernel
theorem d_X12_plays_3 : decode mt_X12_plays.2.1 3 = .ok (.if_icmp .ne 14, 3) := by decide +kernel
theorem d_X12_plays_6 : decode mt_X12_plays.2.1 6 = .ok (.aload_n 0, 1) := by decide +kernel
theorem d_X12_plays_7 : decode mt_X12_plays.2.1 7 = .ok (.iload_n 1, 1) := by decide +kernel
theorem d_X12_plays_8 : decode mt_X12_plays.2.1 8 = .ok (.iload_n 2, 1) := by decide +kernel
theorem d_X12_plays_9 : decode mt_X12_plays.2.1 9 = .ok (.iload 5, 2) := by decide +kernel
theorem d_X12_plays_11 : decode mt_X12_plays.2.1 11 = .ok (.iload 6, 2) := by decide +kernel
theorem d_X12_plays_13 : decode mt_X12_plays.2.1 13 = .ok (.invokevirtual 439, 3) := by decide +kernel
theorem d_X12_plays_16 : decode mt_X12_plays.2.1 16 = .ok (.ireturn, 1) := by decide +kernel
theorem d_X12_plays_17 : decode mt_X12_plays.2.1 17 = .ok (.iload_n 3, 1) := by decide +kernel
theorem d_X12_plays_18 : decode mt_X12_plays.2.1 18 = .ok (.iconst 2, 1) := by decide +kernel
theorem d_X12_plays_19 : decode mt_X12_plays.2.1 19 = .ok (.irem, 1) := by decide +kernel
theorem d_X12_plays_20 : decode mt_X12_plays.2.1 20 = .ok (.ifCond .ne 7, 3) := by decide +kernel
theorem d_X12_plays_23 : decode mt_X12_plays.2.1 23 = .ok (.iconst 1, 1) := by decide +kernel
theorem d_X12_plays_24 : decode mt_X12_plays.2.1 24 = .ok (.goto 4, 3) := by decide +kernel
theorem d_X12_plays_27 : decode mt_X12_plays.2.1 27 = .ok (.iconst 0, 1) := by decide +kernel
theorem d_X12_plays_28 : decode mt_X12_plays.2.1 28 = .ok (.istore 7, 2) := by decide +kernel
theorem d_X12_plays_30 : decode mt_X12_plays.2.1 30 = .ok (.iconst 0, 1) := by decide +kernel
theorem d_X12_plays_31 : decode mt_X12_plays.2.1 31 = .ok (.istore 8, 2) := by decide +kernel
theorem d_X12_plays_33 : decode mt_X12_plays.2.1 33 = .ok (.iconst (-1), 1) := by decide +kernel
theorem d_X12_plays_34 : decode mt_X12_plays.2.1 34 = .ok (.istore 9, 2) := by decide +kernel
theorem d_X12_plays_36 : decode mt_X12_plays.2.1 36 = .ok (.iconst 0, 1) := by decide +kernel
theorem d_X12_plays_37 : decode mt_X12_plays.2.1 37 = .ok (.istore 10, 2) := by decide +kernel
theorem d_X12_plays_39 : decode mt_X12_plays.2.1 39 = .ok (.iload 10, 2) := by decide +kernel
theorem d_X12_plays_41 : decode mt_X12_plays.2.1 41 = .ok (.aload_n 0, 1) := by decide +kernel
theorem d_X12_plays_42 : decode mt_X12_plays.2.1 42 = .ok (.getfield 35, 3) := by decide +kernel
theorem d_X12_plays_45 : decode mt_X12_plays.2.1 45 = .ok (.iconst 0, 1) := by decide +kernel
theorem d_X12_plays_46 : decode mt_X12_plays.2.1 46 = .ok (.iaload, 1) := by decide +kernel
theorem d_X12_plays_47 : decode mt_X12_plays.2.1 47 = .ok (.if_icmp .gt 150, 3) := by decide +kernel
theorem d_X12_plays_50 : decode mt_X12_plays.2.1 50 = .ok (.iload 10, 2) := by decide +kernel
theorem d_X12_plays_52 : decode mt_X12_plays.2.1 52 = .ok (.aload_n 0, 1) := by decide +kernel
theorem d_X12_plays_53 : decode mt_X12_plays.2.1 53 = .ok (.getfield 35, 3) := by decide +kernel
theorem d_X12_plays_56 : decode mt_X12_plays.2.1 56 = .ok (.iconst 0, 1) := by decide +kernel
theorem d_X12_plays_57 : decode mt_X12_plays.2.1 57 = .ok (.iaload, 1) := by decide +kernel
theorem d_X12_plays_58 : decode mt_X12_plays.2.1 58 = .ok (.if_icmp .ge 28, 3) := by decide +kernel
theorem d_X12_plays_61 : decode mt_X12_plays.2.1 61 = .ok (.aload_n 0, 1) := by decide +kernel
theorem d_X12_plays_62 : decode mt_X12_plays.2.1 62 = .ok (.iload 10, 2) := by decide +kernel
theorem d_X12_plays_64 : decode mt_X12_plays.2.1 64 = .ok (.invokevirtual 305, 3) := by decide +kernel
theorem d_X12_plays_67 : decode mt_X12_plays.2.1 67 = .ok (.ifCond .eq 124, 3) := by decide +kernel
theorem d_X12_plays_70 : decode mt_X12_plays.2.1 70 = .ok (.iload 5, 2) := by decide +kernel
theorem d_X12_plays_72 : decode mt_X12_plays.2.1 72 = .ok (.iload 6, 2) := by decide +kernel
theorem d_X12_plays_74 : decode mt_X12_plays.2.1 74 = .ok (.ior, 1) := by decide +kernel
theorem d_X12_plays_75 : decode mt_X12_plays.2.1 75 = .ok (.iload 10, 2) := by decide +kernel
theorem d_X12_plays_77 : decode mt_X12_plays.2.1 77 = .ok (.invokestatic 108, 3) := by decide +kernel
theorem d_X12_plays_80 : decode mt_X12_plays.2.1 80 = .ok (.ifCond .eq 6, 3) := by decide +kernel
theorem d_X12_plays_83 : decode mt_X12_plays.2.1 83 = .ok (.goto 108, 3) := by decide +kernel
theorem d_X12_plays_86 : decode mt_X12_plays.2.1 86 = .ok (.iload 10, 2) := by decide +kernel
theorem d_X12_plays_88 : decode mt_X12_plays.2.1 88 = .ok (.aload_n 0, 1) := by decide +kernel
theorem d_X12_plays_89 : decode mt_X12_plays.2.1 89 = .ok (.getfield 35, 3) := by decide +kernel
theorem d_X12_plays_92 : decode mt_X12_plays.2.1 92 = .ok (.iconst 0, 1) := by decide +kernel
theorem d_X12_plays_93 : decode mt_X12_plays.2.1 93 = .ok (.iaload, 1) := by decide +kernel
theorem d_X12_plays_94 : decode mt_X12_plays.2.1 94 = .ok (.if_icmp .ge 10, 3) := by decide +kernel
theorem d_X12_plays_97 : decode mt_X12_plays.2.1 97 = .ok (.iconst 1, 1) := by decide +kernel
theorem d_X12_plays_98 : decode mt_X12_plays.2.1 98 = .ok (.iload 10, 2) := by decide +kernel
theorem d_X12_plays_100 : decode mt_X12_plays.2.1 100 = .ok (.ishl, 1) := by decide +kernel
theorem d_X12_plays_101 : decode mt_X12_plays.2.1 101 = .ok (.goto 4, 3) := by decide +kernel
theorem d_X12_plays_104 : decode mt_X12_plays.2.1 104 = .ok (.iconst 0, 1) := by decide +kernel
theorem d_X12_plays_105 : decode mt_X12_plays.2.1 105 = .ok (.istore 11, 2) := by decide +kernel
theorem d_X12_plays_107 : decode mt_X12_plays.2.1 107 = .ok (.iload 7, 2) := by decide +kernel
theorem d_X12_plays_109 : decode mt_X12_plays.2.1 109 = .ok (.ifCond .eq 24, 3) := by decide +kernel
theorem d_X12_plays_112 : decode mt_X12_plays.2.1 112 = .ok (.aload_n 0, 1) := by decide +kernel
theorem d_X12_plays_113 : decode mt_X12_plays.2.1 113 = .ok (.iload_n 1, 1) := by decide +kernel
theorem d_X12_plays_114 : decode mt_X12_plays.2.1 114 = .ok (.iload_n 2, 1) := by decide +kernel
theorem d_X12_plays_115 : decode mt_X12_plays.2.1 115 = .ok (.iload_n 3, 1) := by decide +kernel
theorem d_X12_plays_116 : decode mt_X12_plays.2.1 116 = .ok (.iconst 1, 1) := by decide +kernel
theorem d_X12_plays_117 : decode mt_X12_plays.2.1 117 = .ok (.iadd, 1) := by decide +kernel
theorem d_X12_plays_118 : decode mt_X12_plays.2.1 118 = .ok (.iload 4, 2) := by decide +kernel
theorem d_X12_plays_120 : decode mt_X12_plays.2.1 120 = .ok (.iload 5, 2) := by decide +kernel
theorem d_X12_plays_122 : decode mt_X12_plays.2.1 122 = .ok (.iload 11, 2) := by decide +kernel
theorem d_X12_plays_124 : decode mt_X12_plays.2.1 124 = .ok (.ior, 1) := by decide +kernel
theorem d_X12_plays_125 : decode mt_X12_plays.2.1 125 = .ok (.iload 6, 2) := by decide +kernel
theorem d_X12_plays_127 : decode mt_X12_plays.2.1 127 = .ok (.invokevirtual 443, 3) := by decide +kernel
theorem d_X12_plays_130 : decode mt_X12_plays.2.1 130 = .ok (.goto 21, 3) := by decide +kernel
theorem d_X12_plays_133 : decode mt_X12_plays.2.1 133 = .ok (.aload_n 0, 1) := by decide +kernel
theorem d_X12_plays_134 : decode mt_X12_plays.2.1 134 = .ok (.iload_n 1, 1) := by decide +kernel
theorem d_X12_plays_135 : decode mt_X12_plays.2.1 135 = .ok (.iload_n 2, 1) := by decide +kernel
theorem d_X12_plays_136 : decode mt_X12_plays.2.1 136 = .ok (.iload_n 3, 1) := by decide +kernel
theorem d_X12_plays_137 : decode mt_X12_plays.2.1 137 = .ok (.iconst 1, 1) := by decide +kernel
theorem d_X12_plays_138 : decode mt_X12_plays.2.1 138 = .ok (.iadd, 1) := by decide +kernel
theorem d_X12_plays_139 : decode mt_X12_plays.2.1 139 = .ok (.iload 4, 2) := by decide +kernel
theorem d_X12_plays_141 : decode mt_X12_plays.2.1 141 = .ok (.iload 5, 2) := by decide +kernel
theorem d_X12_plays_143 : decode mt_X12_plays.2.1 143 = .ok (.iload 6, 2) := by decide +kernel
theorem d_X12_plays_145 : decode mt_X12_plays.2.1 145 = .ok (.iload 11, 2) := by decide +kernel
theorem d_X12_plays_147 : decode mt_X12_plays.2.1 147 = .ok (.ior, 1) := by decide +kernel
theorem d_X12_plays_148 : decode mt_X12_plays.2.1 148 = .ok (.invokevirtual 443, 3) := by decide +kernel
theorem d_X12_plays_151 : decode mt_X12_plays.2.1 151 = .ok (.istore 12, 2) := by decide +kernel
theorem d_X12_plays_153 : decode mt_X12_plays.2.1 153 = .ok (.iload 9, 2) := by decide +kernel
theorem d_X12_plays_155 : decode mt_X12_plays.2.1 155 = .ok (.ifCond .lt 28, 3) := by decide +kernel
theorem d_X12_plays_158 : decode mt_X12_plays.2.1 158 = .ok (.iload 7, 2) := by decide +kernel
theorem d_X12_plays_160 : decode mt_X12_plays.2.1 160 = .ok (.ifCond .eq 13, 3) := by decide +kernel
theorem d_X12_plays_163 : decode mt_X12_plays.2.1 163 = .ok (.iload 12, 2) := by decide +kernel
theorem d_X12_plays_165 : decode mt_X12_plays.2.1 165 = .ok (.iload 8, 2) := by decide +kernel
theorem d_X12_plays_167 : decode mt_X12_plays.2.1 167 = .ok (.if_icmp .gt 16, 3) := by decide +kernel
theorem d_X12_plays_170 : decode mt_X12_plays.2.1 170 = .ok (.goto 21, 3) := by decide +kernel
theorem d_X12_plays_173 : decode mt_X12_plays.2.1 173 = .ok (.iload 12, 2) := by decide +kernel
theorem d_X12_plays_175 : decode mt_X12_plays.2.1 175 = .ok (.iload 8, 2) := by decide +kernel
theorem d_X12_plays_177 : decode mt_X12_plays.2.1 177 = .ok (.if_icmp .lt 6, 3) := by decide +kernel
theorem d_X12_plays_180 : decode mt_X12_plays.2.1 180 = .ok (.goto 11, 3) := by decide +kernel
theorem d_X12_plays_183 : decode mt_X12_plays.2.1 183 = .ok (.iload 12, 2) := by decide +kernel
theorem d_X12_plays_185 : decode mt_X12_plays.2.1 185 = .ok (.istore 8, 2) := by decide +kernel
theorem d_X12_plays_187 : decode mt_X12_plays.2.1 187 = .ok (.iload 10, 2) := by decide +kernel
theorem d_X12_plays_189 : decode mt_X12_plays.2.1 189 = .ok (.istore 9, 2) := by decide +kernel
theorem d_X12_plays_191 : decode mt_X12_plays.2.1 191 = .ok (.iinc 10 1, 3) := by decide +kernel
theorem d_X12_plays_194 : decode mt_X12_plays.2.1 194 = .ok (.goto (-155), 3) := by decide +kernel
theorem d_X12_plays_197 : decode mt_X12_plays.2.1 197 = .ok (.iload_n 3, 1) := by decide +kernel
theorem d_X12_plays_198 : decode mt_X12_plays.2.1 198 = .ok (.ifCond .ne 9, 3) := by decide +kernel
theorem d_X12_plays_201 : decode mt_X12_plays.2.1 201 = .ok (.aload_n 0, 1) := by decide +kernel
theorem d_X12_plays_202 : decode mt_X12_plays.2.1 202 = .ok (.iload 9, 2) := by decide +kernel
theorem d_X12_plays_204 : decode mt_X12_plays.2.1 204 = .ok (.putfield 447, 3) := by decide +kernel
theorem d_X12_plays_207 : decode mt_X12_plays.2.1 207 = .ok (.iload 8, 2) := by decide +kernel
theorem d_X12_plays_209 : decode mt_X12_plays.2.1 209 = .ok (.ireturn, 1) := by decide +kernel
noncomputable def f_X12_plays_b191 (r_X12_plays : (Int → Int → Int → Int → Int → Int → Int → Mem → Option (Int × Mem))) (k39 : (Int → Int → Int → Int → Int → Int → Int → Int → Int → Int → Int → Mem → Option (Int × Mem))) (v0 v1 v2 v3 v4 v5 v6 v7 v8 v9 v10 : Int) (σ : Mem) : Option (Int × Mem) :=
  k39 v0 v1 v2 v3 v4 v5 v6 v7 v8 v9 (w32 (v10 + 1)) σ
theorem L_X12_plays_b191 {sc : Nat × (Nat → Int32)} {D : Nat} {o : Int × Mem} {r_X12_plays : (Int → Int → Int → Int → Int → Int → Int → Mem → Option (Int × Mem))} (hr_X12_plays : ∀ {y0 y1 y2 y3 y4 y5 y6 : Int} {σ : Mem} {o : Int × Mem}, r_X12_plays y0 y1 y2 y3 y4 y5 y6 σ = some o → (isO Sh 12 y0 = true ∧ Cn mt_X12_plays D [(2, y0), (0, y1), (0, y2), (0, y3), (0, y4), (0, y5), (0, y6)] Sh σ (some (0, o.1)) Sh o.2)) {k39 : (Int → Int → Int → Int → Int → Int → Int → Int → Int → Int → Int → Mem → Option (Int × Mem))} (hk39 : ∀ {v0 v1 v2 v3 v4 v5 v6 v7 v8 v9 v10 : Int} {σ : Mem}, k39 v0 v1 v2 v3 v4 v5 v6 v7 v8 v9 v10 σ = some o → E sc (Fm Sh (some (0, o.1)) Sh o.2) mt_X12_plays (D + 5) Sh Sh 39 [(2, v0), (0, v1), (0, v2), (0, v3), (0, v4), (0, v5), (0, v6), (0, v7), (0, v8), (0, v9), (0, v10), (9, 0), (9, 0)] [] Sh σ) {v0 v1 v2 v3 v4 v5 v6 v7 v8 v9 v10 : Int} {σ : Mem} (h : f_X12_plays_b191 r_X12_plays k39 v0 v1 v2 v3 v4 v5 v6 v7 v8 v9 v10 σ = some o) : E sc (Fm Sh (some (0, o.1)) Sh o.2) mt_X12_plays (D + 5) Sh Sh 191 [(2, v0), (0, v1), (0, v2), (0, v3), (0, v4), (0, v5), (0, v6), (0, v7), (0, v8), (0, v9), (0, v10), (9, 0), (9, 0)] [] Sh σ := by
  unfold f_X12_plays_b191 at h
  refine E_iinc d_X12_plays_191 (ls' := [(2, v0), (0, v1), (0, v2), (0, v3), (0, v4), (0, v5), (0, v6), (0, v7), (0, v8), (0, v9), (0, w32 (v10 + 1)), (9, 0), (9, 0)]) rfl ⟨by decide, rfl⟩ ?_
  refine E_goto (tgt := 39) d_X12_plays_194 (by decide) ?_
  exact (hk39 h)
noncomputable def f_X12_plays_b183 (r_X12_plays : (Int → Int → Int → Int → Int → Int → Int → Mem → Option (Int × Mem))) (k39 : (Int → Int → Int → Int → Int → Int → Int → Int → Int → Int → Int → Mem → Option (Int × Mem))) (v0 v1 v2 v3 v4 v5 v6 v7 v10 v12 : Int) (σ : Mem) : Option (Int × Mem) :=
  f_X12_plays_b191 r_X12_plays k39 v0 v1 v2 v3 v4 v5 v6 v7 v12 v10 v10 σ
theorem L_X12_plays_b183 {sc : Nat × (Nat → Int32)} {D : Nat} {o : Int × Mem} {r_X12_plays : (Int → Int → Int → Int → Int → Int → Int → Mem → Option (Int × Mem))} (hr_X12_plays : ∀ {y0 y1 y2 y3 y4 y5 y6 : Int} {σ : Mem} {o : Int × Mem}, r_X12_plays y0 y1 y2 y3 y4 y5 y6 σ = some o → (isO Sh 12 y0 = true ∧ Cn mt_X12_plays D [(2, y0), (0, y1), (0, y2), (0, y3), (0, y4), (0, y5), (0, y6)] Sh σ (some (0, o.1)) Sh o.2)) {k39 : (Int → Int → Int → Int → Int → Int → Int → Int → Int → Int → Int → Mem → Option (Int × Mem))} (hk39 : ∀ {v0 v1 v2 v3 v4 v5 v6 v7 v8 v9 v10 : Int} {σ : Mem}, k39 v0 v1 v2 v3 v4 v5 v6 v7 v8 v9 v10 σ = some o → E sc (Fm Sh (some (0, o.1)) Sh o.2) mt_X12_plays (D + 5) Sh Sh 39 [(2, v0), (0, v1), (0, v2), (0, v3), (0, v4), (0, v5), (0, v6), (0, v7), (0, v8), (0, v9), (0, v10), (9, 0), (9, 0)] [] Sh σ) {v0 v1 v2 v3 v4 v5 v6 v7 v10 v12 : Int} {σ : Mem} (h : f_X12_plays_b183 r_X12_plays k39 v0 v1 v2 v3 v4 v5 v6 v7 v10 v12 σ = some o) : E sc (Fm Sh (some (0, o.1)) Sh o.2) mt_X12_plays (D + 5) Sh Sh 183 [(2, v0), (0, v1), (0, v2), (0, v3), (0, v4), (0, v5), (0, v6), (0, v7), (9, 0), (9, 0), (0, v10), (9, 0), (0, v12)] [] Sh σ := by
  unfold f_X12_plays_b183 at h
  refine E_iload d_X12_plays_183 rfl ?_
  refine E_istore d_X12_plays_185 (ls' := [(2, v0), (0, v1), (0, v2), (0, v3), (0, v4), (0, v5), (0, v6), (0, v7), (0, v12), (9, 0), (0, v10), (9, 0), (0, v12)]) ⟨by decide, rfl⟩ ?_
  refine E_iload d_X12_plays_187 rfl ?_
  refine E_istore d_X12_plays_189 (ls' := [(2, v0), (0, v1), (0, v2), (0, v3), (0, v4), (0, v5), (0, v6), (0, v7), (0, v12), (0, v10), (0, v10), (9, 0), (0, v12)]) ⟨by decide, rfl⟩ ?_
  exact E_weak (ls' := [(2, v0), (0, v1), (0, v2), (0, v3), (0, v4), (0, v5), (0, v6), (0, v7), (0, v12), (0, v10), (0, v10), (9, 0), (9, 0)]) ⟨Or.inr rfl, Or.inr rfl, Or.inr rfl, Or.inr rfl, Or.inr rfl, Or.inr rfl, Or.inr rfl, Or.inr rfl, Or.inr rfl, Or.inr rfl, Or.inr rfl, Or.inl rfl, Or.inl rfl, trivial⟩ (L_X12_plays_b191 hr_X12_plays hk39 h)
noncomputable def f_X12_plays_b151 (r_X12_plays : (Int → Int → Int → Int → Int → Int → Int → Mem → Option (Int × Mem))) (k39 : (Int → Int → Int → Int → Int → Int → Int → Int → Int → Int → Int → Mem → Option (Int × Mem))) (v0 v1 v2 v3 v4 v5 v6 v7 v8 v9 v10 s0 : Int) (σ : Mem) : Option (Int × Mem) :=
  if v9 < 0 then
    f_X12_plays_b183 r_X12_plays k39 v0 v1 v2 v3 v4 v5 v6 v7 v10 s0 σ
  else
    if v7 = 0 then
      if s0 < v8 then
        f_X12_plays_b183 r_X12_plays k39 v0 v1 v2 v3 v4 v5 v6 v7 v10 s0 σ
      else
        f_X12_plays_b191 r_X12_plays k39 v0 v1 v2 v3 v4 v5 v6 v7 v8 v9 v10 σ
    else
      if v8 < s0 then
        f_X12_plays_b183 r_X12_plays k39 v0 v1 v2 v3 v4 v5 v6 v7 v10 s0 σ
      else
        f_X12_plays_b191 r_X12_plays k39 v0 v1 v2 v3 v4 v5 v6 v7 v8 v9 v10 σ
theorem L_X12_plays_b151 {sc : Nat × (Nat → Int32)} {D : Nat} {o : Int × Mem} {r_X12_plays : (Int → Int → Int → Int → Int → Int → Int → Mem → Option (Int × Mem))} (hr_X12_plays : ∀ {y0 y1 y2 y3 y4 y5 y6 : Int} {σ : Mem} {o : Int × Mem}, r_X12_plays y0 y1 y2 y3 y4 y5 y6 σ = some o → (isO Sh 12 y0 = true ∧ Cn mt_X12_plays D [(2, y0), (0, y1), (0, y2), (0, y3), (0, y4), (0, y5), (0, y6)] Sh σ (some (0, o.1)) Sh o.2)) {k39 : (Int → Int → Int → Int → Int → Int → Int → Int → Int → Int → Int → Mem → Option (Int × Mem))} (hk39 : ∀ {v0 v1 v2 v3 v4 v5 v6 v7 v8 v9 v10 : Int} {σ : Mem}, k39 v0 v1 v2 v3 v4 v5 v6 v7 v8 v9 v10 σ = some o → E sc (Fm Sh (some (0, o.1)) Sh o.2) mt_X12_plays (D + 5) Sh Sh 39 [(2, v0), (0, v1), (0, v2), (0, v3), (0, v4), (0, v5), (0, v6), (0, v7), (0, v8), (0, v9), (0, v10), (9, 0), (9, 0)] [] Sh σ) {v0 v1 v2 v3 v4 v5 v6 v7 v8 v9 v10 s0 : Int} {σ : Mem} (h : f_X12_plays_b151 r_X12_plays k39 v0 v1 v2 v3 v4 v5 v6 v7 v8 v9 v10 s0 σ = some o) : E sc (Fm Sh (some (0, o.1)) Sh o.2) mt_X12_plays (D + 5) Sh Sh 151 [(2, v0), (0, v1), (0, v2), (0, v3), (0, v4), (0, v5), (0, v6), (0, v7), (0, v8), (0, v9), (0, v10), (9, 0), (9, 0)] [(0, s0)] Sh σ := by
  unfold f_X12_plays_b151 at h
  refine E_istore d_X12_plays_151 (ls' := [(2, v0), (0, v1), (0, v2), (0, v3), (0, v4), (0, v5), (0, v6), (0, v7), (0, v8), (0, v9), (0, v10), (9, 0), (0, s0)]) ⟨by decide, rfl⟩ ?_
  refine E_iload d_X12_plays_153 rfl ?_
  refine E_if_lt (tgt := 183) d_X12_plays_155 (by decide) h (fun _ h => ?_) (fun _ h => ?_)
  · exact E_weak (ls' := [(2, v0), (0, v1), (0, v2), (0, v3), (0, v4), (0, v5), (0, v6), (0, v7), (9, 0), (9, 0), (0, v10), (9, 0), (0, s0)]) ⟨Or.inr rfl, Or.inr rfl, Or.inr rfl, Or.inr rfl, Or.inr rfl, Or.inr rfl, Or.inr rfl, Or.inr rfl, Or.inl rfl, Or.inl rfl, Or.inr rfl, Or.inl rfl, Or.inr rfl, trivial⟩ (L_X12_plays_b183 hr_X12_plays hk39 h)
  · refine E_iload d_X12_plays_158 rfl ?_
    refine E_if_eq (tgt := 173) d_X12_plays_160 (by decide) h (fun _ h => ?_) (fun _ h => ?_)
    · refine E_iload d_X12_plays_173 rfl ?_
      refine E_iload d_X12_plays_175 rfl ?_
      refine E_icmp_lt (tgt := 183) d_X12_plays_177 (by decide) h (fun _ h => ?_) (fun _ h => ?_)
      · exact E_weak (ls' := [(2, v0), (0, v1), (0, v2), (0, v3), (0, v4), (0, v5), (0, v6), (0, v7), (9, 0), (9, 0), (0, v10), (9, 0), (0, s0)]) ⟨Or.inr rfl, Or.inr rfl, Or.inr rfl, Or.inr rfl, Or.inr rfl, Or.inr rfl, Or.inr rfl, Or.inr rfl, Or.inl rfl, Or.inl rfl, Or.inr rfl, Or.inl rfl, Or.inr rfl, trivial⟩ (L_X12_plays_b183 hr_X12_plays hk39 h)
      · refine E_goto (tgt := 191) d_X12_plays_180 (by decide) ?_
        exact E_weak (ls' := [(2, v0), (0, v1), (0, v2), (0, v3), (0, v4), (0, v5), (0, v6), (0, v7), (0, v8), (0, v9), (0, v10), (9, 0), (9, 0)]) ⟨Or.inr rfl, Or.inr rfl, Or.inr rfl, Or.inr rfl, Or.inr rfl, Or.inr rfl, Or.inr rfl, Or.inr rfl, Or.inr rfl, Or.inr rfl, Or.inr rfl, Or.inl rfl, Or.inl rfl, trivial⟩ (L_X12_plays_b191 hr_X12_plays hk39 h)
    · refine E_iload d_X12_plays_163 rfl ?_
      refine E_iload d_X12_plays_165 rfl ?_
      refine E_icmp_gt (tgt := 183) d_X12_plays_167 (by decide) h (fun _ h => ?_) (fun _ h => ?_)
      · exact E_weak (ls' := [(2, v0), (0, v1), (0, v2), (0, v3), (0, v4), (0, v5), (0, v6), (0, v7), (9, 0), (9, 0), (0, v10), (9, 0), (0, s0)]) ⟨Or.inr rfl, Or.inr rfl, Or.inr rfl, Or.inr rfl, Or.inr rfl, Or.inr rfl, Or.inr rfl, Or.inr rfl, Or.inl rfl, Or.inl rfl, Or.inr rfl, Or.inl rfl, Or.inr rfl, trivial⟩ (L_X12_plays_b183 hr_X12_plays hk39 h)
      · refine E_goto (tgt := 191) d_X12_plays_170 (by decide) ?_
        exact E_weak (ls' := [(2, v0), (0, v1), (0, v2), (0, v3), (0, v4), (0, v5), (0, v6), (0, v7), (0, v8), (0, v9), (0, v10), (9, 0), (9, 0)]) ⟨Or.inr rfl, Or.inr rfl, Or.inr rfl, Or.inr rfl, Or.inr rfl, Or.inr rfl, Or.inr rfl, Or.inr rfl, Or.inr rfl, Or.inr rfl, Or.inr rfl, Or.inl rfl, Or.inl rfl, trivial⟩ (L_X12_plays_b191 hr_X12_plays hk39 h)
noncomputable def f_X12_plays_b105 (r_X12_plays : (Int → Int → Int → Int → Int → Int → Int → Mem → Option (Int × Mem))) (k39 : (Int → Int → Int → Int → Int → Int → Int → Int → Int → Int → Int → Mem → Option (Int × Mem))) (v0 v1 v2 v3 v4 v5 v6 v7 v8 v9 v10 s0 : Int) (σ : Mem) : Option (Int × Mem) :=
  if v7 = 0 then
    (r_X12_plays v0 v1 v2 (w32 (v3 + 1)) v4 v5 (ior v6 s0) σ).bind fun r14 =>
    f_X12_plays_b151 r_X12_plays k39 v0 v1 v2 v3 v4 v5 v6 v7 v8 v9 v10 r14.1 r14.2
  else
    (r_X12_plays v0 v1 v2 (w32 (v3 + 1)) v4 (ior v5 s0) v6 σ).bind fun r16 =>
    f_X12_plays_b151 r_X12_plays k39 v0 v1 v2 v3 v4 v5 v6 v7 v8 v9 v10 r16.1 r16.2
theorem L_X12_plays_b105 {sc : Nat × (Nat → Int32)} {D : Nat} {o : Int × Mem} {r_X12_plays : (Int → Int → Int → Int → Int → Int → Int → Mem → Option (Int × Mem))} (hr_X12_plays : ∀ {y0 y1 y2 y3 y4 y5 y6 : Int} {σ : Mem} {o : Int × Mem}, r_X12_plays y0 y1 y2 y3 y4 y5 y6 σ = some o → (isO Sh 12 y0 = true ∧ Cn mt_X12_plays D [(2, y0), (0, y1), (0, y2), (0, y3), (0, y4), (0, y5), (0, y6)] Sh σ (some (0, o.1)) Sh o.2)) {k39 : (Int → Int → Int → Int → Int → Int → Int → Int → Int → Int → Int → Mem → Option (Int × Mem))} (hk39 : ∀ {v0 v1 v2 v3 v4 v5 v6 v7 v8 v9 v10 : Int} {σ : Mem}, k39 v0 v1 v2 v3 v4 v5 v6 v7 v8 v9 v10 σ = some o → E sc (Fm Sh (some (0, o.1)) Sh o.2) mt_X12_plays (D + 5) Sh Sh 39 [(2, v0), (0, v1), (0, v2), (0, v3), (0, v4), (0, v5), (0, v6), (0, v7), (0, v8), (0, v9), (0, v10), (9, 0), (9, 0)] [] Sh σ) {v0 v1 v2 v3 v4 v5 v6 v7 v8 v9 v10 s0 : Int} {σ : Mem} (h : f_X12_plays_b105 r_X12_plays k39 v0 v1 v2 v3 v4 v5 v6 v7 v8 v9 v10 s0 σ = some o) : E sc (Fm Sh (some (0, o.1)) Sh o.2) mt_X12_plays (D + 5) Sh Sh 105 [(2, v0), (0, v1), (0, v2), (0, v3), (0, v4), (0, v5), (0, v6), (0, v7), (0, v8), (0, v9), (0, v10), (9, 0), (9, 0)] [(0, s0)] Sh σ := by
  unfold f_X12_plays_b105 at h
  refine E_istore d_X12_plays_105 (ls' := [(2, v0), (0, v1), (0, v2), (0, v3), (0, v4), (0, v5), (0, v6), (0, v7), (0, v8), (0, v9), (0, v10), (0, s0), (9, 0)]) ⟨by decide, rfl⟩ ?_
  refine E_iload d_X12_plays_107 rfl ?_
  refine E_if_eq (tgt := 133) d_X12_plays_109 (by decide) h (fun _ h => ?_) (fun _ h => ?_)
  · refine E_aload_n d_X12_plays_133 rfl (by decide) ?_
    refine E_iload_n d_X12_plays_134 rfl ?_
    refine E_iload_n d_X12_plays_135 rfl ?_
    refine E_iload_n d_X12_plays_136 rfl ?_
    refine E_iconst d_X12_plays_137 (c32 rfl) ?_
    refine E_iadd d_X12_plays_138 ?_
    refine E_iload d_X12_plays_139 rfl ?_
    refine E_iload d_X12_plays_141 rfl ?_
    refine E_iload d_X12_plays_143 rfl ?_
    refine E_iload d_X12_plays_145 rfl ?_
    refine E_ior d_X12_plays_147 ?_
    refine bd h (fun r14 q15 h => ?_)
    refine E_cV (as := [(0, v1), (0, v2), (0, w32 (v3 + 1)), (0, v4), (0, v5), (0, ior v6 s0)]) (st := []) (a := v0) d_X12_plays_148 mk_X12_plays nl_X12_443 (by omega) ⟨rfl, rfl, Nat.le_of_ble_eq_true rfl⟩ okX12 rfl (hr_X12_plays q15) ?_
    exact E_weak (ls' := [(2, v0), (0, v1), (0, v2), (0, v3), (0, v4), (0, v5), (0, v6), (0, v7), (0, v8), (0, v9), (0, v10), (9, 0), (9, 0)]) ⟨Or.inr rfl, Or.inr rfl, Or.inr rfl, Or.inr rfl, Or.inr rfl, Or.inr rfl, Or.inr rfl, Or.inr rfl, Or.inr rfl, Or.inr rfl, Or.inr rfl, Or.inl rfl, Or.inl rfl, trivial⟩ (L_X12_plays_b151 hr_X12_plays hk39 h)
  · refine E_aload_n d_X12_plays_112 rfl (by decide) ?_
    refine E_iload_n d_X12_plays_113 rfl ?_
    refine E_iload_n d_X12_plays_114 rfl ?_
    refine E_iload_n d_X12_plays_115 rfl ?_
    refine E_iconst d_X12_plays_116 (c32 rfl) ?_
    refine E_iadd d_X12_plays_117 ?_
    refine E_iload d_X12_plays_118 rfl ?_
    refine E_iload d_X12_plays_120 rfl ?_
    refine E_iload d_X12_plays_122 rfl ?_
    refine E_ior d_X12_plays_124 ?_
    refine E_iload d_X12_plays_125 rfl ?_
    refine bd h (fun r16 q17 h => ?_)
    refine E_cV (as := [(0, v1), (0, v2), (0, w32 (v3 + 1)), (0, v4), (0, ior v5 s0), (0, v6)]) (st := []) (a := v0) d_X12_plays_127 mk_X12_plays nl_X12_443 (by omega) ⟨rfl, rfl, Nat.le_of_ble_eq_true rfl⟩ okX12 rfl (hr_X12_plays q17) ?_
    refine E_goto (tgt := 151) d_X12_plays_130 (by decide) ?_
    exact E_weak (ls' := [(2, v0), (0, v1), (0, v2), (0, v3), (0, v4), (0, v5), (0, v6), (0, v7), (0, v8), (0, v9), (0, v10), (9, 0), (9, 0)]) ⟨Or.inr rfl, Or.inr rfl, Or.inr rfl, Or.inr rfl, Or.inr rfl, Or.inr rfl, Or.inr rfl, Or.inr rfl, Or.inr rfl, Or.inr rfl, Or.inr rfl, Or.inl rfl, Or.inl rfl, trivial⟩ (L_X12_plays_b151 hr_X12_plays hk39 h)
noncomputable def f_X12_plays_b86 (r_X12_plays : (Int → Int → Int → Int → Int → Int → Int → Mem → Option (Int × Mem))) (k39 : (Int → Int → Int → Int → Int → Int → Int → Int → Int → Int → Int → Mem → Option (Int × Mem))) (v0 v1 v2 v3 v4 v5 v6 v7 v8 v9 v10 : Int) (σ : Mem) : Option (Int × Mem) :=
  (gf Sh σ 12 v0 20).bind fun x12 =>
  (al Sh σ 20 x12 0).bind fun x13 =>
  if x13 ≤ v10 then
    f_X12_plays_b105 r_X12_plays k39 v0 v1 v2 v3 v4 v5 v6 v7 v8 v9 v10 0 σ
  else
    f_X12_plays_b105 r_X12_plays k39 v0 v1 v2 v3 v4 v5 v6 v7 v8 v9 v10 (ishl 1 v10) σ
theorem L_X12_plays_b86 {sc : Nat × (Nat → Int32)} {D : Nat} {o : Int × Mem} {r_X12_plays : (Int → Int → Int → Int → Int → Int → Int → Mem → Option (Int × Mem))} (hr_X12_plays : ∀ {y0 y1 y2 y3 y4 y5 y6 : Int} {σ : Mem} {o : Int × Mem}, r_X12_plays y0 y1 y2 y3 y4 y5 y6 σ = some o → (isO Sh 12 y0 = true ∧ Cn mt_X12_plays D [(2, y0), (0, y1), (0, y2), (0, y3), (0, y4), (0, y5), (0, y6)] Sh σ (some (0, o.1)) Sh o.2)) {k39 : (Int → Int → Int → Int → Int → Int → Int → Int → Int → Int → Int → Mem → Option (Int × Mem))} (hk39 : ∀ {v0 v1 v2 v3 v4 v5 v6 v7 v8 v9 v10 : Int} {σ : Mem}, k39 v0 v1 v2 v3 v4 v5 v6 v7 v8 v9 v10 σ = some o → E sc (Fm Sh (some (0, o.1)) Sh o.2) mt_X12_plays (D + 5) Sh Sh 39 [(2, v0), (0, v1), (0, v2), (0, v3), (0, v4), (0, v5), (0, v6), (0, v7), (0, v8), (0, v9), (0, v10), (9, 0), (9, 0)] [] Sh σ) {v0 v1 v2 v3 v4 v5 v6 v7 v8 v9 v10 : Int} {σ : Mem} (h : f_X12_plays_b86 r_X12_plays k39 v0 v1 v2 v3 v4 v5 v6 v7 v8 v9 v10 σ = some o) : E sc (Fm Sh (some (0, o.1)) Sh o.2) mt_X12_plays (D + 5) Sh Sh 86 [(2, v0), (0, v1), (0, v2), (0, v3), (0, v4), (0, v5), (0, v6), (0, v7), (0, v8), (0, v9), (0, v10), (9, 0), (9, 0)] [] Sh σ := by
  unfold f_X12_plays_b86 at h
  refine E_iload d_X12_plays_86 rfl ?_
  refine E_aload_n d_X12_plays_88 rfl (by decide) ?_
  refine E_get d_X12_plays_89 okX12 fl_X12_35 ⟨by decide, rfl⟩ h (fun x12 h => ?_)
  refine E_iconst d_X12_plays_92 (c32 rfl) ?_
  refine E_iaload d_X12_plays_93 h (fun x13 h => ?_)
  refine E_icmp_ge (tgt := 104) d_X12_plays_94 (by decide) h (fun _ h => ?_) (fun _ h => ?_)
  · refine E_iconst d_X12_plays_104 (c32 rfl) ?_
    exact (L_X12_plays_b105 hr_X12_plays hk39 h)
  · refine E_iconst d_X12_plays_97 (c32 rfl) ?_
    refine E_iload d_X12_plays_98 rfl ?_
    refine E_ishl d_X12_plays_100 ?_
    refine E_goto (tgt := 105) d_X12_plays_101 (by decide) ?_
    exact (L_X12_plays_b105 hr_X12_plays hk39 h)
noncomputable def f_X12_plays_b39 (r_X12_plays : (Int → Int → Int → Int → Int → Int → Int → Mem → Option (Int × Mem))) (k39 : (Int → Int → Int → Int → Int → Int → Int → Int → Int → Int → Int → Mem → Option (Int × Mem))) (v0 v1 v2 v3 v4 v5 v6 v7 v8 v9 v10 : Int) (σ : Mem) : Option (Int × Mem) :=
  (gf Sh σ 12 v0 20).bind fun x3 =>
  (al Sh σ 20 x3 0).bind fun x4 =>
  if x4 < v10 then
    if v3 = 0 then
      (pf Sh σ 12 v0 33 v9).bind fun σ5 =>
      some (v8, σ5)
    else
      some (v8, σ)
  else
    (gf Sh σ 12 v0 20).bind fun x6 =>
    (al Sh σ 20 x6 0).bind fun x7 =>
    if x7 ≤ v10 then
      f_X12_plays_b86 r_X12_plays k39 v0 v1 v2 v3 v4 v5 v6 v7 v8 v9 v10 σ
    else
      (f_X12_isStoneAt v0 v10 σ).bind fun r8 =>
      if r8 = 0 then
        f_X12_plays_b191 r_X12_plays k39 v0 v1 v2 v3 v4 v5 v6 v7 v8 v9 v10 σ
      else
        (f_X12_has (ior v5 v6) v10 σ).bind fun r10 =>
        if r10 = 0 then
          f_X12_plays_b86 r_X12_plays k39 v0 v1 v2 v3 v4 v5 v6 v7 v8 v9 v10 σ
        else
          f_X12_plays_b191 r_X12_plays k39 v0 v1 v2 v3 v4 v5 v6 v7 v8 v9 v10 σ
theorem L_X12_plays_b39 {sc : Nat × (Nat → Int32)} {D : Nat} {o : Int × Mem} {r_X12_plays : (Int → Int → Int → Int → Int → Int → Int → Mem → Option (Int × Mem))} (hr_X12_plays : ∀ {y0 y1 y2 y3 y4 y5 y6 : Int} {σ : Mem} {o : Int × Mem}, r_X12_plays y0 y1 y2 y3 y4 y5 y6 σ = some o → (isO Sh 12 y0 = true ∧ Cn mt_X12_plays D [(2, y0), (0, y1), (0, y2), (0, y3), (0, y4), (0, y5), (0, y6)] Sh σ (some (0, o.1)) Sh o.2)) {k39 : (Int → Int → Int → Int → Int → Int → Int → Int → Int → Int → Int → Mem → Option (Int × Mem))} (hk39 : ∀ {v0 v1 v2 v3 v4 v5 v6 v7 v8 v9 v10 : Int} {σ : Mem}, k39 v0 v1 v2 v3 v4 v5 v6 v7 v8 v9 v10 σ = some o → E sc (Fm Sh (some (0, o.1)) Sh o.2) mt_X12_plays (D + 5) Sh Sh 39 [(2, v0), (0, v1), (0, v2), (0, v3), (0, v4), (0, v5), (0, v6), (0, v7), (0, v8), (0, v9), (0, v10), (9, 0), (9, 0)] [] Sh σ) {v0 v1 v2 v3 v4 v5 v6 v7 v8 v9 v10 : Int} {σ : Mem} (h : f_X12_plays_b39 r_X12_plays k39 v0 v1 v2 v3 v4 v5 v6 v7 v8 v9 v10 σ = some o) : E sc (Fm Sh (some (0, o.1)) Sh o.2) mt_X12_plays (D + 5) Sh Sh 39 [(2, v0), (0, v1), (0, v2), (0, v3), (0, v4), (0, v5), (0, v6), (0, v7), (0, v8), (0, v9), (0, v10), (9, 0), (9, 0)] [] Sh σ := by
  unfold f_X12_plays_b39 at h
  refine E_iload d_X12_plays_39 rfl ?_
  refine E_aload_n d_X12_plays_41 rfl (by decide) ?_
  refine E_get d_X12_plays_42 okX12 fl_X12_35 ⟨by decide, rfl⟩ h (fun x3 h => ?_)
  refine E_iconst d_X12_plays_45 (c32 rfl) ?_
  refine E_iaload d_X12_plays_46 h (fun x4 h => ?_)
  refine E_icmp_gt (tgt := 197) d_X12_plays_47 (by decide) h (fun _ h => ?_) (fun _ h => ?_)
  · refine E_iload_n d_X12_plays_197 rfl ?_
    refine E_if_ne (tgt := 207) d_X12_plays_198 (by decide) h (fun _ h => ?_) (fun _ h => ?_)
    · refine E_aload_n d_X12_plays_201 rfl (by decide) ?_
      refine E_iload d_X12_plays_202 rfl ?_
      refine E_put d_X12_plays_204 okX12 fl_X12_447 ⟨by decide, rfl⟩ (Or.inl ⟨rfl, rfl⟩) (Or.inl rfl) h (fun σ5 h => ?_)
      refine E_iload d_X12_plays_207 rfl ?_
      cases h
      exact E_iret d_X12_plays_209 rfl
    · refine E_iload d_X12_plays_207 rfl ?_
      cases h
      exact E_iret d_X12_plays_209 rfl
  · refine E_iload d_X12_plays_50 rfl ?_
    refine E_aload_n d_X12_plays_52 rfl (by decide) ?_
    refine E_get d_X12_plays_53 okX12 fl_X12_35 ⟨by decide, rfl⟩ h (fun x6 h => ?_)
    refine E_iconst d_X12_plays_56 (c32 rfl) ?_
    refine E_iaload d_X12_plays_57 h (fun x7 h => ?_)
    refine E_icmp_ge (tgt := 86) d_X12_plays_58 (by decide) h (fun _ h => ?_) (fun _ h => ?_)
    · exact (L_X12_plays_b86 hr_X12_plays hk39 h)
    · refine E_aload_n d_X12_plays_61 rfl (by decide) ?_
      refine E_iload d_X12_plays_62 rfl ?_
      refine bd h (fun r8 q9 h => ?_)
      refine E_cV (as := [(0, v10)]) (st := []) (a := v0) d_X12_plays_64 mk_X12_isStoneAt nl_X12_305 (by omega) ⟨rfl, rfl, Nat.le_of_ble_eq_true rfl⟩ okX12 rfl (L_X12_isStoneAt q9) ?_
      refine E_if_eq (tgt := 191) d_X12_plays_67 (by decide) h (fun _ h => ?_) (fun _ h => ?_)
      · exact (L_X12_plays_b191 hr_X12_plays hk39 h)
      · refine E_iload d_X12_plays_70 rfl ?_
        refine E_iload d_X12_plays_72 rfl ?_
        refine E_ior d_X12_plays_74 ?_
        refine E_iload d_X12_plays_75 rfl ?_
        refine bd h (fun r10 q11 h => ?_)
        refine E_cS (as := [(0, ior v5 v6), (0, v10)]) (st := []) d_X12_plays_77 mk_X12_has nl_X12_108 (by omega) ⟨rfl, rfl, Nat.le_of_ble_eq_true rfl⟩ (L_X12_has q11) ?_
        refine E_if_eq (tgt := 86) d_X12_plays_80 (by decide) h (fun _ h => ?_) (fun _ h => ?_)
        · exact (L_X12_plays_b86 hr_X12_plays hk39 h)
        · refine E_goto (tgt := 191) d_X12_plays_83 (by decide) ?_
          exact (L_X12_plays_b191 hr_X12_plays hk39 h)
noncomputable def f_X12_plays_h39 (r_X12_plays : (Int → Int → Int → Int → Int → Int → Int → Mem → Option (Int × Mem))) (n : Nat) : Int → Int → Int → Int → Int → Int → Int → Int → Int → Int → Int → Mem → Option (Int × Mem) := Nat.rec (motive := fun _ => Int → Int → Int → Int → Int → Int → Int → Int → Int → Int → Int → Mem → Option (Int × Mem)) (fun _ _ _ _ _ _ _ _ _ _ _ _ => none) (fun _ ih => f_X12_plays_b39 r_X12_plays (ih)) n
theorem L_X12_plays_h39 {sc : Nat × (Nat → Int32)} {D : Nat} {o : Int × Mem} {r_X12_plays : (Int → Int → Int → Int → Int → Int → Int → Mem → Option (Int × Mem))} (hr_X12_plays : ∀ {y0 y1 y2 y3 y4 y5 y6 : Int} {σ : Mem} {o : Int × Mem}, r_X12_plays y0 y1 y2 y3 y4 y5 y6 σ = some o → (isO Sh 12 y0 = true ∧ Cn mt_X12_plays D [(2, y0), (0, y1), (0, y2), (0, y3), (0, y4), (0, y5), (0, y6)] Sh σ (some (0, o.1)) Sh o.2)) : ∀ (n : Nat) {v0 v1 v2 v3 v4 v5 v6 v7 v8 v9 v10 : Int} {σ : Mem}, f_X12_plays_h39 r_X12_plays n v0 v1 v2 v3 v4 v5 v6 v7 v8 v9 v10 σ = some o → E sc (Fm Sh (some (0, o.1)) Sh o.2) mt_X12_plays (D + 5) Sh Sh 39 [(2, v0), (0, v1), (0, v2), (0, v3), (0, v4), (0, v5), (0, v6), (0, v7), (0, v8), (0, v9), (0, v10), (9, 0), (9, 0)] [] Sh σ := by
  intro n
  induction n with
  | zero => intro v0 v1 v2 v3 v4 v5 v6 v7 v8 v9 v10 σ h; cases h
  | succ n ih => intro v0 v1 v2 v3 v4 v5 v6 v7 v8 v9 v10 σ h; exact L_X12_plays_b39 hr_X12_plays (@ih) h
noncomputable def f_X12_plays_b28 (r_X12_plays : (Int → Int → Int → Int → Int → Int → Int → Mem → Option (Int × Mem))) (v0 v1 v2 v3 v4 v5 v6 s0 : Int) (σ : Mem) : Option (Int × Mem) :=
  f_X12_plays_h39 r_X12_plays FU v0 v1 v2 v3 v4 v5 v6 s0 0 (-1) 0 σ
theorem L_X12_plays_b28 {sc : Nat × (Nat → Int32)} {D : Nat} {o : Int × Mem} {r_X12_plays : (Int → Int → Int → Int → Int → Int → Int → Mem → Option (Int × Mem))} (hr_X12_plays : ∀ {y0 y1 y2 y3 y4 y5 y6 : Int} {σ : Mem} {o : Int × Mem}, r_X12_plays y0 y1 y2 y3 y4 y5 y6 σ = some o → (isO Sh 12 y0 = true ∧ Cn mt_X12_plays D [(2, y0), (0, y1), (0, y2), (0, y3), (0, y4), (0, y5), (0, y6)] Sh σ (some (0, o.1)) Sh o.2)) {v0 v1 v2 v3 v4 v5 v6 s0 : Int} {σ : Mem} (h : f_X12_plays_b28 r_X12_plays v0 v1 v2 v3 v4 v5 v6 s0 σ = some o) : E sc (Fm Sh (some (0, o.1)) Sh o.2) mt_X12_plays (D + 5) Sh Sh 28 [(2, v0), (0, v1), (0, v2), (0, v3), (0, v4), (0, v5), (0, v6), (9, 0), (9, 0), (9, 0), (9, 0), (9, 0), (9, 0)] [(0, s0)] Sh σ := by
  unfold f_X12_plays_b28 at h
  refine E_istore d_X12_plays_28 (ls' := [(2, v0), (0, v1), (0, v2), (0, v3), (0, v4), (0, v5), (0, v6), (0, s0), (9, 0), (9, 0), (9, 0), (9, 0), (9, 0)]) ⟨by decide, rfl⟩ ?_
  refine E_iconst d_X12_plays_30 (c32 rfl) ?_
  refine E_istore d_X12_plays_31 (ls' := [(2, v0), (0, v1), (0, v2), (0, v3), (0, v4), (0, v5), (0, v6), (0, s0), (0, 0), (9, 0), (9, 0), (9, 0), (9, 0)]) ⟨by decide, rfl⟩ ?_
  refine E_iconst d_X12_plays_33 (c32 rfl) ?_
  refine E_istore d_X12_plays_34 (ls' := [(2, v0), (0, v1), (0, v2), (0, v3), (0, v4), (0, v5), (0, v6), (0, s0), (0, 0), (0, (-1)), (9, 0), (9, 0), (9, 0)]) ⟨by decide, rfl⟩ ?_
  refine E_iconst d_X12_plays_36 (c32 rfl) ?_
  refine E_istore d_X12_plays_37 (ls' := [(2, v0), (0, v1), (0, v2), (0, v3), (0, v4), (0, v5), (0, v6), (0, s0), (0, 0), (0, (-1)), (0, 0), (9, 0), (9, 0)]) ⟨by decide, rfl⟩ ?_
  exact (L_X12_plays_h39 hr_X12_plays FU h)
noncomputable def f_X12_plays_b0 (r_X12_plays : (Int → Int → Int → Int → Int → Int → Int → Mem → Option (Int × Mem))) (v0 v1 v2 v3 v4 v5 v6 : Int) (σ : Mem) : Option (Int × Mem) :=
  if v3 = v4 then
    (f_X12_scoreOf v0 v1 v2 v5 v6 σ).bind fun r1 =>
    some (r1, σ)
  else
    if w32 (Int.tmod v3 2) = 0 then
      f_X12_plays_b28 r_X12_plays v0 v1 v2 v3 v4 v5 v6 1 σ
    else
      f_X12_plays_b28 r_X12_plays v0 v1 v2 v3 v4 v5 v6 0 σ
theorem L_X12_plays_b0 {sc : Nat × (Nat → Int32)} {D : Nat} {o : Int × Mem} {r_X12_plays : (Int → Int → Int → Int → Int → Int → Int → Mem → Option (Int × Mem))} (hr_X12_plays : ∀ {y0 y1 y2 y3 y4 y5 y6 : Int} {σ : Mem} {o : Int × Mem}, r_X12_plays y0 y1 y2 y3 y4 y5 y6 σ = some o → (isO Sh 12 y0 = true ∧ Cn mt_X12_plays D [(2, y0), (0, y1), (0, y2), (0, y3), (0, y4), (0, y5), (0, y6)] Sh σ (some (0, o.1)) Sh o.2)) {v0 v1 v2 v3 v4 v5 v6 : Int} {σ : Mem} (h : f_X12_plays_b0 r_X12_plays v0 v1 v2 v3 v4 v5 v6 σ = some o) : E sc (Fm Sh (some (0, o.1)) Sh o.2) mt_X12_plays (D + 5) Sh Sh 0 [(2, v0), (0, v1), (0, v2), (0, v3), (0, v4), (0, v5), (0, v6), (9, 0), (9, 0), (9, 0), (9, 0), (9, 0), (9, 0)] [] Sh σ := by
  unfold f_X12_plays_b0 at h
  refine E_iload_n d_X12_plays_0 rfl ?_
  refine E_iload d_X12_plays_1 rfl ?_
  refine E_icmp_ne (tgt := 17) d_X12_plays_3 (by decide) h (fun _ h => ?_) (fun _ h => ?_)
  · refine E_aload_n d_X12_plays_6 rfl (by decide) ?_
    refine E_iload_n d_X12_plays_7 rfl ?_
    refine E_iload_n d_X12_plays_8 rfl ?_
    refine E_iload d_X12_plays_9 rfl ?_
    refine E_iload d_X12_plays_11 rfl ?_
    refine bd h (fun r1 q2 h => ?_)
    refine E_cV (as := [(0, v1), (0, v2), (0, v5), (0, v6)]) (st := []) (a := v0) d_X12_plays_13 mk_X12_scoreOf nl_X12_439 (by omega) ⟨rfl, rfl, Nat.le_of_ble_eq_true rfl⟩ okX12 rfl (L_X12_scoreOf q2) ?_
    cases h
    exact E_iret d_X12_plays_16 rfl
  · refine E_iload_n d_X12_plays_17 rfl ?_
    refine E_iconst d_X12_plays_18 (c32 rfl) ?_
    refine E_irem d_X12_plays_19 (by decide) ?_
    refine E_if_ne (tgt := 27) d_X12_plays_20 (by decide) h (fun _ h => ?_) (fun _ h => ?_)
    · refine E_iconst d_X12_plays_23 (c32 rfl) ?_
      refine E_goto (tgt := 28) d_X12_plays_24 (by decide) ?_
      exact (L_X12_plays_b28 hr_X12_plays h)
    · refine E_iconst d_X12_plays_27 (c32 rfl) ?_
      exact (L_X12_plays_b28 hr_X12_plays h)
noncomputable def f_X12_plays_body (r_X12_plays : (Int → Int → Int → Int → Int → Int → Int → Mem → Option (Int × Mem))) (v0 v1 v2 v3 v4 v5 v6 : Int) (σ : Mem) : Option (Int × Mem) := if isO Sh 12 v0 = true then f_X12_plays_b0 r_X12_plays v0 v1 v2 v3 v4 v5 v6 σ else none
theorem L_X12_plays_body {D : Nat} {o : Int × Mem} {r_X12_plays : (Int → Int → Int → Int → Int → Int → Int → Mem → Option (Int × Mem))} (hr_X12_plays : ∀ {y0 y1 y2 y3 y4 y5 y6 : Int} {σ : Mem} {o : Int × Mem}, r_X12_plays y0 y1 y2 y3 y4 y5 y6 σ = some o → (isO Sh 12 y0 = true ∧ Cn mt_X12_plays D [(2, y0), (0, y1), (0, y2), (0, y3), (0, y4), (0, y5), (0, y6)] Sh σ (some (0, o.1)) Sh o.2)) {v0 v1 v2 v3 v4 v5 v6 : Int} {σ : Mem} (h : f_X12_plays_body r_X12_plays v0 v1 v2 v3 v4 v5 v6 σ = some o) : (isO Sh 12 v0 = true ∧ Cn mt_X12_plays (D + 5) [(2, v0), (0, v1), (0, v2), (0, v3), (0, v4), (0, v5), (0, v6)] Sh σ (some (0, o.1)) Sh o.2) := ⟨(ite_ok h).1, Cn_of mk_X12_plays.1.2.2.1 (Nat.le_of_ble_eq_true rfl) (fun sc => L_X12_plays_b0 hr_X12_plays (ite_ok h).2)⟩
noncomputable def f_X12_plays (n : Nat) : Int → Int → Int → Int → Int → Int → Int → Mem → Option (Int × Mem) := Nat.rec (motive := fun _ => Int → Int → Int → Int → Int → Int → Int → Mem → Option (Int × Mem)) (fun _ _ _ _ _ _ _ _ => none) (fun _ ih => f_X12_plays_body ih) n
theorem L_X12_plays : ∀ (n : Nat) {v0 v1 v2 v3 v4 v5 v6 : Int} {σ : Mem} {o : Int × Mem}, f_X12_plays n v0 v1 v2 v3 v4 v5 v6 σ = some o → (isO Sh 12 v0 = true ∧ Cn mt_X12_plays (n * 5) [(2, v0), (0, v1), (0, v2), (0, v3), (0, v4), (0, v5), (0, v6)] Sh σ (some (0, o.1)) Sh o.2) := by
  intro n
  induction n with
  | zero => intro v0 v1 v2 v3 v4 v5 v6 σ o h; cases h
  | succ n ih => intro v0 v1 v2 v3 v4 v5 v6 σ o h; rw [Nat.succ_mul]; exact L_X12_plays_body (@ih) h
theorem d_X12_game_0 : decode mt_X12_game.2.1 0 = .ok (.aload_n 0, 1) := by decide +kernel
theorem d_X12_game_1 : decode mt_X12_game.2.1 1 = .ok (.iconst 0, 1) := by decide +kernel
theorem d_X12_game_2 : decode mt_X12_game.2.1 2 = .ok (.putfield 70, 3) := by decide +kernel
theorem d_X12_game_5 : decode mt_X12_game.2.1 5 = .ok (.aload_n 0, 1) := by decide +kernel
theorem d_X12_game_6 : decode mt_X12_game.2.1 6 = .ok (.aload_n 0, 1) := by decide +kernel
theorem d_X12_game_7 : decode mt_X12_game.2.1 7 = .ok (.iload_n 1, 1) := by decide +kernel
theorem d_X12_game_8 : decode mt_X12_game.2.1 8 = .ok (.iload_n 2, 1) := by decide +kernel
theorem d_X12_game_9 : decode mt_X12_game.2.1 9 = .ok (.iload_n 3, 1) := by decide +kernel
theorem d_X12_game_10 : decode mt_X12_game.2.1 10 = .ok (.iconst 0, 1) := by decide +kernel
theorem d_X12_game_11 : decode mt_X12_game.2.1 11 = .ok (.invokevirtual 450, 3) := by decide +kernel
theorem d_X12_game_14 : decode mt_X12_game.2.1 14 = .ok (.putfield 73, 3) := by decide +kernel
theorem d_X12_game_17 : decode mt_X12_game.2.1 17 = .ok (.aload_n 0, 1) := by decide +kernel
theorem d_X12_game_18 : decode mt_X12_game.2.1 18 = .ok (.getfield 73, 3) := by decide +kernel
theorem d_X12_game_21 : decode mt_X12_game.2.1 21 = .ok (.ifCond .le 7, 3) := by decide +kernel
theorem d_X12_game_24 : decode mt_X12_game.2.1 24 = .ok (.iconst (-1), 1) := by decide +kernel
theorem d_X12_game_25 : decode mt_X12_game.2.1 25 = .ok (.goto 13, 3) := by decide +kernel
theorem d_X12_game_28 : decode mt_X12_game.2.1 28 = .ok (.aload_n 0, 1) := by decide +kernel
theorem d_X12_game_29 : decode mt_X12_game.2.1 29 = .ok (.iload_n 1, 1) := by decide +kernel
theorem d_X12_game_30 : decode mt_X12_game.2.1 30 = .ok (.iload_n 2, 1) := by decide +kernel
theorem d_X12_game_31 : decode mt_X12_game.2.1 31 = .ok (.iconst 0, 1) := by decide +kernel
theorem d_X12_game_32 : decode mt_X12_game.2.1 32 = .ok (.iload_n 3, 1) := by decide +kernel
theorem d_X12_game_33 : decode mt_X12_game.2.1 33 = .ok (.iconst 0, 1) := by decide +kernel
theorem d_X12_game_34 : decode mt_X12_game.2.1 34 = .ok (.iconst 0, 1) := by decide +kernel
theorem d_X12_game_35 : decode mt_X12_game.2.1 35 = .ok (.invokevirtual 443, 3) := by decide +kernel
theorem d_X12_game_38 : decode mt_X12_game.2.1 38 = .ok (.ireturn, 1) := by decide +kernel
noncomputable def f_X12_game_b0 (v0 v1 v2 v3 : Int) (σ : Mem) : Option (Int × Mem) :=
  (pf Sh σ 12 v0 1 0).bind fun σ1 =>
  (f_X12_whyNoGame v0 v1 v2 v3 0 σ1).bind fun r2 =>
  (pf Sh σ1 12 v0 0 r2).bind fun σ4 =>
  (gf Sh σ4 12 v0 0).bind fun x5 =>
  if x5 ≤ 0 then
    (f_X12_plays FR v0 v1 v2 0 v3 0 0 σ4).bind fun r6 =>
    some (r6.1, r6.2)
  else
    some ((-1), σ4)
theorem L_X12_game_b0 {sc : Nat × (Nat → Int32)} {o : Int × Mem} {v0 v1 v2 v3 : Int} {σ : Mem} (h : f_X12_game_b0 v0 v1 v2 v3 σ = some o) : E sc (Fm Sh (some (0, o.1)) Sh o.2) mt_X12_game 201 Sh Sh 0 [(2, v0), (0, v1), (0, v2), (0, v3)] [] Sh σ := by
  unfold f_X12_game_b0 at h
  refine E_aload_n d_X12_game_0 rfl (by decide) ?_
  refine E_iconst d_X12_game_1 (c32 rfl) ?_
  refine E_put d_X12_game_2 okX12 fl_X12_70 ⟨by decide, rfl⟩ (Or.inl ⟨rfl, rfl⟩) (Or.inl rfl) h (fun σ1 h => ?_)
  refine E_aload_n d_X12_game_5 rfl (by decide) ?_
  refine E_aload_n d_X12_game_6 rfl (by decide) ?_
  refine E_iload_n d_X12_game_7 rfl ?_
  refine E_iload_n d_X12_game_8 rfl ?_
  refine E_iload_n d_X12_game_9 rfl ?_
  refine E_iconst d_X12_game_10 (c32 rfl) ?_
  refine bd h (fun r2 q3 h => ?_)
  refine E_cV (as := [(0, v1), (0, v2), (0, v3), (0, 0)]) (st := [(2, v0)]) (a := v0) d_X12_game_11 mk_X12_whyNoGame nl_X12_450 (by omega) ⟨rfl, rfl, Nat.le_of_ble_eq_true rfl⟩ okX12 rfl (L_X12_whyNoGame q3) ?_
  refine E_put d_X12_game_14 okX12 fl_X12_73 ⟨by decide, rfl⟩ (Or.inl ⟨rfl, rfl⟩) (Or.inl rfl) h (fun σ4 h => ?_)
  refine E_aload_n d_X12_game_17 rfl (by decide) ?_
  refine E_get d_X12_game_18 okX12 fl_X12_73 ⟨by decide, rfl⟩ h (fun x5 h => ?_)
  refine E_if_le (tgt := 28) d_X12_game_21 (by decide) h (fun _ h => ?_) (fun _ h => ?_)
  · refine E_aload_n d_X12_game_28 rfl (by decide) ?_
    refine E_iload_n d_X12_game_29 rfl ?_
    refine E_iload_n d_X12_game_30 rfl ?_
    refine E_iconst d_X12_game_31 (c32 rfl) ?_
    refine E_iload_n d_X12_game_32 rfl ?_
    refine E_iconst d_X12_game_33 (c32 rfl) ?_
    refine E_iconst d_X12_game_34 (c32 rfl) ?_
    refine bd h (fun r6 q7 h => ?_)
    refine E_cV (as := [(0, v1), (0, v2), (0, 0), (0, v3), (0, 0), (0, 0)]) (st := []) (a := v0) d_X12_game_35 mk_X12_plays nl_X12_443 (by decide) ⟨rfl, rfl, Nat.le_of_ble_eq_true rfl⟩ okX12 rfl (L_X12_plays FR q7) ?_
    cases h
    exact E_iret d_X12_game_38 rfl
  · refine E_iconst d_X12_game_24 (c32 rfl) ?_
    refine E_goto (tgt := 38) d_X12_game_25 (by decide) ?_
    cases h
    exact E_iret d_X12_game_38 rfl
noncomputable def f_X12_game (v0 v1 v2 v3 : Int) (σ : Mem) : Option (Int × Mem) := if isO Sh 12 v0 = true then f_X12_game_b0 v0 v1 v2 v3 σ else none
theorem L_X12_game {o : Int × Mem} {v0 v1 v2 v3 : Int} {σ : Mem} (h : f_X12_game v0 v1 v2 v3 σ = some o) : (isO Sh 12 v0 = true ∧ Cn mt_X12_game 201 [(2, v0), (0, v1), (0, v2), (0, v3)] Sh σ (some (0, o.1)) Sh o.2) := ⟨(ite_ok h).1, Cn_of mk_X12_game.1.2.2.1 (Nat.le_of_ble_eq_true rfl) (fun sc => L_X12_game_b0 (ite_ok h).2)⟩
theorem d_X12_moveOf_0 : decode mt_X12_moveOf.2.1 0 = .ok (.aload_n 0, 1) := by decide +kernel
theorem d_X12_moveOf_1 : decode mt_X12_moveOf.2.1 1 = .ok (.iconst 0, 1) := by decide +kernel
theorem d_X12_moveOf_2 : decode mt_X12_moveOf.2.1 2 = .ok (.putfield 70, 3) := by decide +kernel
theorem d_X12_moveOf_5 : decode mt_X12_moveOf.2.1 5 = .ok (.aload_n 0, 1) := by decide +kernel
theorem d_X12_moveOf_6 : decode mt_X12_moveOf.2.1 6 = .ok (.aload_n 0, 1) := by decide +kernel
theorem d_X12_moveOf_7 : decode mt_X12_moveOf.2.1 7 = .ok (.iload_n 1, 1) := by decide +kernel
theorem d_X12_moveOf_8 : decode mt_X12_moveOf.2.1 8 = .ok (.iload_n 2, 1) := by decide +kernel
theorem d_X12_moveOf_9 : decode mt_X12_moveOf.2.1 9 = .ok (.iload_n 3, 1) := by decide +kernel
theorem d_X12_moveOf_10 : decode mt_X12_moveOf.2.1 10 = .ok (.iconst 1, 1) := by decide +kernel
theorem d_X12_moveOf_11 : decode mt_X12_moveOf.2.1 11 = .ok (.invokevirtual 450, 3) := by decide +kernel
theorem d_X12_moveOf_14 : decode mt_X12_moveOf.2.1 14 = .ok (.putfield 73, 3) := by decide +kernel
theorem d_X12_moveOf_17 : decode mt_X12_moveOf.2.1 17 = .ok (.aload_n 0, 1) := by decide +kernel
theorem d_X12_moveOf_18 : decode mt_X12_moveOf.2.1 18 = .ok (.getfield 73, 3) := by decide +kernel
theorem d_X12_moveOf_21 : decode mt_X12_moveOf.2.1 21 = .ok (.ifCond .le 5, 3) := by decide +kernel
theorem d_X12_moveOf_24 : decode mt_X12_moveOf.2.1 24 = .ok (.iconst (-1), 1) := by decide +kernel
theorem d_X12_moveOf_25 : decode mt_X12_moveOf.2.1 25 = .ok (.ireturn, 1) := by decide +kernel
theorem d_X12_moveOf_26 : decode mt_X12_moveOf.2.1 26 = .ok (.aload_n 0, 1) := by decide +kernel
theorem d_X12_moveOf_27 : decode mt_X12_moveOf.2.1 27 = .ok (.iload_n 1, 1) := by decide +kernel
theorem d_X12_moveOf_28 : decode mt_X12_moveOf.2.1 28 = .ok (.iload_n 2, 1) := by decide +kernel
theorem d_X12_moveOf_29 : decode mt_X12_moveOf.2.1 29 = .ok (.iconst 0, 1) := by decide +kernel
theorem d_X12_moveOf_30 : decode mt_X12_moveOf.2.1 30 = .ok (.iload_n 3, 1) := by decide +kernel
theorem d_X12_moveOf_31 : decode mt_X12_moveOf.2.1 31 = .ok (.iconst 0, 1) := by decide +kernel
theorem d_X12_moveOf_32 : decode mt_X12_moveOf.2.1 32 = .ok (.iconst 0, 1) := by decide +kernel
theorem d_X12_moveOf_33 : decode mt_X12_moveOf.2.1 33 = .ok (.invokevirtual 443, 3) := by decide +kernel
theorem d_X12_moveOf_36 : decode mt_X12_moveOf.2.1 36 = .ok (.pop, 1) := by decide +kernel
theorem d_X12_moveOf_37 : decode mt_X12_moveOf.2.1 37 = .ok (.aload_n 0, 1) := by decide +kernel
theorem d_X12_moveOf_38 : decode mt_X12_moveOf.2.1 38 = .ok (.getfield 447, 3) := by decide +kernel
theorem d_X12_moveOf_41 : decode mt_X12_moveOf.2.1 41 = .ok (.aload_n 0, 1) := by decide +kernel
theorem d_X12_moveOf_42 : decode mt_X12_moveOf.2.1 42 = .ok (.getfield 35, 3) := by decide +kernel
theorem d_X12_moveOf_45 : decode mt_X12_moveOf.2.1 45 = .ok (.iconst 0, 1) := by decide +kernel
theorem d_X12_moveOf_46 : decode mt_X12_moveOf.2.1 46 = .ok (.iaload, 1) := by decide +kernel
theorem d_X12_moveOf_47 : decode mt_X12_moveOf.2.1 47 = .ok (.if_icmp .ne 12, 3) := by decide +kernel
theorem d_X12_moveOf_50 : decode mt_X12_moveOf.2.1 50 = .ok (.aload_n 0, 1) := by decide +kernel
theorem d_X12_moveOf_51 : decode mt_X12_moveOf.2.1 51 = .ok (.bipush 8, 2) := by decide +kernel
theorem d_X12_moveOf_53 : decode mt_X12_moveOf.2.1 53 = .ok (.invokevirtual 318, 3) := by decide +kernel
theorem d_X12_moveOf_56 : decode mt_X12_moveOf.2.1 56 = .ok (.goto 7, 3) := by decide +kernel
theorem d_X12_moveOf_59 : decode mt_X12_moveOf.2.1 59 = .ok (.aload_n 0, 1) := by decide +kernel
theorem d_X12_moveOf_60 : decode mt_X12_moveOf.2.1 60 = .ok (.getfield 447, 3) := by decide +kernel
theorem d_X12_moveOf_63 : decode mt_X12_moveOf.2.1 63 = .ok (.ireturn, 1) := by decide +kernel
noncomputable def f_X12_moveOf_b0 (v0 v1 v2 v3 : Int) (σ : Mem) : Option (Int × Mem) :=
  (pf Sh σ 12 v0 1 0).bind fun σ1 =>
  (f_X12_whyNoGame v0 v1 v2 v3 1 σ1).bind fun r2 =>
  (pf Sh σ1 12 v0 0 r2).bind fun σ4 =>
  (gf Sh σ4 12 v0 0).bind fun x5 =>
  if x5 ≤ 0 then
    (f_X12_plays FR v0 v1 v2 0 v3 0 0 σ4).bind fun r6 =>
    (gf Sh r6.2 12 v0 33).bind fun x8 =>
    (gf Sh r6.2 12 v0 20).bind fun x9 =>
    (al Sh r6.2 20 x9 0).bind fun x10 =>
    if x8 = x10 then
      (f_X12_refuse v0 8 r6.2).bind fun r11 =>
      some (r11.1, r11.2)
    else
      (gf Sh r6.2 12 v0 33).bind fun x13 =>
      some (x13, r6.2)
  else
    some ((-1), σ4)
theorem L_X12_moveOf_b0 {sc : Nat × (Nat → Int32)} {o : Int × Mem} {v0 v1 v2 v3 : Int} {σ : Mem} (h : f_X12_moveOf_b0 v0 v1 v2 v3 σ = some o) : E sc (Fm Sh (some (0, o.1)) Sh o.2) mt_X12_moveOf 201 Sh Sh 0 [(2, v0), (0, v1), (0, v2), (0, v3)] [] Sh σ := by
  unfold f_X12_moveOf_b0 at h
  refine E_aload_n d_X12_moveOf_0 rfl (by decide) ?_
  refine E_iconst d_X12_moveOf_1 (c32 rfl) ?_
  refine E_put d_X12_moveOf_2 okX12 fl_X12_70 ⟨by decide, rfl⟩ (Or.inl ⟨rfl, rfl⟩) (Or.inl rfl) h (fun σ1 h => ?_)
  refine E_aload_n d_X12_moveOf_5 rfl (by decide) ?_
  refine E_aload_n d_X12_moveOf_6 rfl (by decide) ?_
  refine E_iload_n d_X12_moveOf_7 rfl ?_
  refine E_iload_n d_X12_moveOf_8 rfl ?_
  refine E_iload_n d_X12_moveOf_9 rfl ?_
  refine E_iconst d_X12_moveOf_10 (c32 rfl) ?_
  refine bd h (fun r2 q3 h => ?_)
  refine E_cV (as := [(0, v1), (0, v2), (0, v3), (0, 1)]) (st := [(2, v0)]) (a := v0) d_X12_moveOf_11 mk_X12_whyNoGame nl_X12_450 (by omega) ⟨rfl, rfl, Nat.le_of_ble_eq_true rfl⟩ okX12 rfl (L_X12_whyNoGame q3) ?_
  refine E_put d_X12_moveOf_14 okX12 fl_X12_73 ⟨by decide, rfl⟩ (Or.inl ⟨rfl, rfl⟩) (Or.inl rfl) h (fun σ4 h => ?_)
  refine E_aload_n d_X12_moveOf_17 rfl (by decide) ?_
  refine E_get d_X12_moveOf_18 okX12 fl_X12_73 ⟨by decide, rfl⟩ h (fun x5 h => ?_)
  refine E_if_le (tgt := 26) d_X12_moveOf_21 (by decide) h (fun _ h => ?_) (fun _ h => ?_)
  · refine E_aload_n d_X12_moveOf_26 rfl (by decide) ?_
    refine E_iload_n d_X12_moveOf_27 rfl ?_
    refine E_iload_n d_X12_moveOf_28 rfl ?_
    refine E_iconst d_X12_moveOf_29 (c32 rfl) ?_
    refine E_iload_n d_X12_moveOf_30 rfl ?_
    refine E_iconst d_X12_moveOf_31 (c32 rfl) ?_
    refine E_iconst d_X12_moveOf_32 (c32 rfl) ?_
    refine bd h (fun r6 q7 h => ?_)
    refine E_cV (as := [(0, v1), (0, v2), (0, 0), (0, v3), (0, 0), (0, 0)]) (st := []) (a := v0) d_X12_moveOf_33 mk_X12_plays nl_X12_443 (by decide) ⟨rfl, rfl, Nat.le_of_ble_eq_true rfl⟩ okX12 rfl (L_X12_plays FR q7) ?_
    refine E_popT d_X12_moveOf_36 (by decide) ?_
    refine E_aload_n d_X12_moveOf_37 rfl (by decide) ?_
    refine E_get d_X12_moveOf_38 okX12 fl_X12_447 ⟨by decide, rfl⟩ h (fun x8 h => ?_)
    refine E_aload_n d_X12_moveOf_41 rfl (by decide) ?_
    refine E_get d_X12_moveOf_42 okX12 fl_X12_35 ⟨by decide, rfl⟩ h (fun x9 h => ?_)
    refine E_iconst d_X12_moveOf_45 (c32 rfl) ?_
    refine E_iaload d_X12_moveOf_46 h (fun x10 h => ?_)
    refine E_icmp_ne (tgt := 59) d_X12_moveOf_47 (by decide) h (fun _ h => ?_) (fun _ h => ?_)
    · refine E_aload_n d_X12_moveOf_50 rfl (by decide) ?_
      refine E_bipush d_X12_moveOf_51 (c8 rfl) ?_
      refine bd h (fun r11 q12 h => ?_)
      refine E_cV (as := [(0, 8)]) (st := []) (a := v0) d_X12_moveOf_53 mk_X12_refuse nl_X12_318 (by omega) ⟨rfl, rfl, Nat.le_of_ble_eq_true rfl⟩ okX12 rfl (L_X12_refuse q12) ?_
      refine E_goto (tgt := 63) d_X12_moveOf_56 (by decide) ?_
      cases h
      exact E_iret d_X12_moveOf_63 rfl
    · refine E_aload_n d_X12_moveOf_59 rfl (by decide) ?_
      refine E_get d_X12_moveOf_60 okX12 fl_X12_447 ⟨by decide, rfl⟩ h (fun x13 h => ?_)
      cases h
      exact E_iret d_X12_moveOf_63 rfl
  · refine E_iconst d_X12_moveOf_24 (c32 rfl) ?_
    cases h
    exact E_iret d_X12_moveOf_25 rfl
noncomputable def f_X12_moveOf (v0 v1 v2 v3 : Int) (σ : Mem) : Option (Int × Mem) := if isO Sh 12 v0 = true then f_X12_moveOf_b0 v0 v1 v2 v3 σ else none
theorem L_X12_moveOf {o : Int × Mem} {v0 v1 v2 v3 : Int} {σ : Mem} (h : f_X12_moveOf v0 v1 v2 v3 σ = some o) : (isO Sh 12 v0 = true ∧ Cn mt_X12_moveOf 201 [(2, v0), (0, v1), (0, v2), (0, v3)] Sh σ (some (0, o.1)) Sh o.2) := ⟨(ite_ok h).1, Cn_of mk_X12_moveOf.1.2.2.1 (Nat.le_of_ble_eq_true rfl) (fun sc => L_X12_moveOf_b0 (ite_ok h).2)⟩
theorem d_X12_fraction_0 : decode mt_X12_fraction.2.1 0 = .ok (.lload_n 1, 1) := by decide +kernel
theorem d_X12_fraction_1 : decode mt_X12_fraction.2.1 1 = .ok (.invokestatic 79, 3) := by decide +kernel
theorem d_X12_fraction_4 : decode mt_X12_fraction.2.1 4 = .ok (.lstore 5, 2) := by decide +kernel
theorem d_X12_fraction_6 : decode mt_X12_fraction.2.1 6 = .ok (.lload_n 3, 1) := by decide +kernel
theorem d_X12_fraction_7 : decode mt_X12_fraction.2.1 7 = .ok (.lstore 7, 2) := by decide +kernel
theorem d_X12_fraction_9 : decode mt_X12_fraction.2.1 9 = .ok (.lload 7, 2) := by decide +kernel
theorem d_X12_fraction_11 : decode mt_X12_fraction.2.1 11 = .ok (.lconst 0, 1) := by decide +kernel
theorem d_X12_fraction_12 : decode mt_X12_fraction.2.1 12 = .ok (.lcmp, 1) := by decide +kernel
theorem d_X12_fraction_13 : decode mt_X12_fraction.2.1 13 = .ok (.ifCond .eq 21, 3) := by decide +kernel
theorem d_X12_fraction_16 : decode mt_X12_fraction.2.1 16 = .ok (.lload 5, 2) := by decide +kernel
theorem d_X12_fraction_18 : decode mt_X12_fraction.2.1 18 = .ok (.lload 7, 2) := by decide +kernel
theorem d_X12_fraction_20 : decode mt_X12_fraction.2.1 20 = .ok (.lrem, 1) := by decide +kernel
theorem d_X12_fraction_21 : decode mt_X12_fraction.2.1 21 = .ok (.lstore 9, 2) := by decide +kernel
theorem d_X12_fraction_23 : decode mt_X12_fraction.2.1 23 = .ok (.lload 7, 2) := by decide +kernel
theorem d_X12_fraction_25 : decode mt_X12_fraction.2.1 25 = .ok (.lstore 5, 2) := by decide +kernel
theorem d_X12_fraction_27 : decode mt_X12_fraction.2.1 27 = .ok (.lload 9, 2) := by decide +kernel
theorem d_X12_fraction_29 : decode mt_X12_fraction.2.1 29 = .ok (.lstore 7, 2) := by decide +kernel
theorem d_X12_fraction_31 : decode mt_X12_fraction.2.1 31 = .ok (.goto (-22), 3) := by decide +kernel
theorem d_X12_fraction_34 : decode mt_X12_fraction.2.1 34 = .ok (.aload_n 0, 1) := by decide +kernel
theorem d_X12_fraction_35 : decode mt_X12_fraction.2.1 35 = .ok (.lload_n 1, 1) := by decide +kernel
theorem d_X12_fraction_36 : decode mt_X12_fraction.2.1 36 = .ok (.lload 5, 2) := by decide +kernel
theorem d_X12_fraction_38 : decode mt_X12_fraction.2.1 38 = .ok (.ldiv, 1) := by decide +kernel
theorem d_X12_fraction_39 : decode mt_X12_fraction.2.1 39 = .ok (.putfield 76, 3) := by decide +kernel
theorem d_X12_fraction_42 : decode mt_X12_fraction.2.1 42 = .ok (.aload_n 0, 1) := by decide +kernel
theorem d_X12_fraction_43 : decode mt_X12_fraction.2.1 43 = .ok (.lload_n 3, 1) := by decide +kernel
theorem d_X12_fraction_44 : decode mt_X12_fraction.2.1 44 = .ok (.lload 5, 2) := by decide +kernel
theorem d_X12_fraction_46 : decode mt_X12_fraction.2.1 46 = .ok (.ldiv, 1) := by decide +kernel
theorem d_X12_fraction_47 : decode mt_X12_fraction.2.1 47 = .ok (.putfield 7, 3) := by decide +kernel
theorem d_X12_fraction_50 : decode mt_X12_fraction.2.1 50 = .ok (.iconst 1, 1) := by decide +kernel
theorem d_X12_fraction_51 : decode mt_X12_fraction.2.1 51 = .ok (.ireturn, 1) := by decide +kernel
noncomputable def f_X12_fraction_b9 (k9 : (Int → Int → Int → Int → Int → Mem → Option (Int × Mem))) (v0 v1 v3 v5 v7 : Int) (σ : Mem) : Option (Int × Mem) :=
  if lcmp v7 0 = 0 then
    (nz v5).bind fun _ =>
    (pf Sh σ 12 v0 2 (w64 (Int.tdiv v1 v5))).bind fun σ2 =>
    (nz v5).bind fun _ =>
    (pf Sh σ2 12 v0 3 (w64 (Int.tdiv v3 v5))).bind fun σ4 =>
    some (1, σ4)
  else
    (nz v7).bind fun _ =>
    k9 v0 v1 v3 v7 (w64 (Int.tmod v5 v7)) σ
theorem L_X12_fraction_b9 {sc : Nat × (Nat → Int32)} {o : Int × Mem} {k9 : (Int → Int → Int → Int → Int → Mem → Option (Int × Mem))} (hk9 : ∀ {v0 v1 v3 v5 v7 : Int} {σ : Mem}, k9 v0 v1 v3 v5 v7 σ = some o → E sc (Fm Sh (some (0, o.1)) Sh o.2) mt_X12_fraction 2 Sh Sh 9 [(2, v0), (1, v1), (9, 0), (1, v3), (9, 0), (1, v5), (9, 0), (1, v7), (9, 0), (9, 0), (9, 0)] [] Sh σ) {v0 v1 v3 v5 v7 : Int} {σ : Mem} (h : f_X12_fraction_b9 k9 v0 v1 v3 v5 v7 σ = some o) : E sc (Fm Sh (some (0, o.1)) Sh o.2) mt_X12_fraction 2 Sh Sh 9 [(2, v0), (1, v1), (9, 0), (1, v3), (9, 0), (1, v5), (9, 0), (1, v7), (9, 0), (9, 0), (9, 0)] [] Sh σ := by
  unfold f_X12_fraction_b9 at h
  refine E_lload d_X12_fraction_9 rfl ?_
  refine E_lconst d_X12_fraction_11 cl0 ?_
  refine E_lcmp d_X12_fraction_12 ?_
  refine E_if_eq (tgt := 34) d_X12_fraction_13 (by decide) h (fun _ h => ?_) (fun _ h => ?_)
  · refine E_aload_n d_X12_fraction_34 rfl (by decide) ?_
    refine E_lload_n d_X12_fraction_35 rfl ?_
    refine E_lload d_X12_fraction_36 rfl ?_
    refine bd_nz h (fun q1 h => ?_)
    refine E_ldiv d_X12_fraction_38 q1 ?_
    refine E_put d_X12_fraction_39 okX12 fl_X12_76 ⟨by decide, rfl⟩ (Or.inr (Or.inl ⟨rfl, rfl⟩)) (Or.inl rfl) h (fun σ2 h => ?_)
    refine E_aload_n d_X12_fraction_42 rfl (by decide) ?_
    refine E_lload_n d_X12_fraction_43 rfl ?_
    refine E_lload d_X12_fraction_44 rfl ?_
    refine bd_nz h (fun q3 h => ?_)
    refine E_ldiv d_X12_fraction_46 q3 ?_
    refine E_put d_X12_fraction_47 okX12 fl_X12_7 ⟨by decide, rfl⟩ (Or.inr (Or.inl ⟨rfl, rfl⟩)) (Or.inl rfl) h (fun σ4 h => ?_)
    refine E_iconst d_X12_fraction_50 (c32 rfl) ?_
    cases h
    exact E_zret d_X12_fraction_51 rfl (Or.inr rfl)
  · refine E_lload d_X12_fraction_16 rfl ?_
    refine E_lload d_X12_fraction_18 rfl ?_
    refine bd_nz h (fun q5 h => ?_)
    refine E_lrem d_X12_fraction_20 q5 ?_
    refine E_lstore d_X12_fraction_21 (ls' := [(2, v0), (1, v1), (9, 0), (1, v3), (9, 0), (1, v5), (9, 0), (1, v7), (9, 0), (1, w64 (Int.tmod v5 v7)), (9, 0)]) ⟨by decide, rfl⟩ ?_
    refine E_lload d_X12_fraction_23 rfl ?_
    refine E_lstore d_X12_fraction_25 (ls' := [(2, v0), (1, v1), (9, 0), (1, v3), (9, 0), (1, v7), (9, 0), (1, v7), (9, 0), (1, w64 (Int.tmod v5 v7)), (9, 0)]) ⟨by decide, rfl⟩ ?_
    refine E_lload d_X12_fraction_27 rfl ?_
    refine E_lstore d_X12_fraction_29 (ls' := [(2, v0), (1, v1), (9, 0), (1, v3), (9, 0), (1, v7), (9, 0), (1, w64 (Int.tmod v5 v7)), (9, 0), (1, w64 (Int.tmod v5 v7)), (9, 0)]) ⟨by decide, rfl⟩ ?_
    refine E_goto (tgt := 9) d_X12_fraction_31 (by decide) ?_
    exact E_weak (ls' := [(2, v0), (1, v1), (9, 0), (1, v3), (9, 0), (1, v7), (9, 0), (1, w64 (Int.tmod v5 v7)), (9, 0), (9, 0), (9, 0)]) ⟨Or.inr rfl, Or.inr rfl, Or.inl rfl, Or.inr rfl, Or.inl rfl, Or.inr rfl, Or.inl rfl, Or.inr rfl, Or.inl rfl, Or.inl rfl, Or.inl rfl, trivial⟩ (hk9 h)
noncomputable def f_X12_fraction_h9 (n : Nat) : Int → Int → Int → Int → Int → Mem → Option (Int × Mem) := Nat.rec (motive := fun _ => Int → Int → Int → Int → Int → Mem → Option (Int × Mem)) (fun _ _ _ _ _ _ => none) (fun _ ih => f_X12_fraction_b9 (ih)) n
theorem L_X12_fraction_h9 {sc : Nat × (Nat → Int32)} {o : Int × Mem} : ∀ (n : Nat) {v0 v1 v3 v5 v7 : Int} {σ : Mem}, f_X12_fraction_h9 n v0 v1 v3 v5 v7 σ = some o → E sc (Fm Sh (some (0, o.1)) Sh o.2) mt_X12_fraction 2 Sh Sh 9 [(2, v0), (1, v1), (9, 0), (1, v3), (9, 0), (1, v5), (9, 0), (1, v7), (9, 0), (9, 0), (9, 0)] [] Sh σ := by
  intro n
  induction n with
  | zero => intro v0 v1 v3 v5 v7 σ h; cases h
  | succ n ih => intro v0 v1 v3 v5 v7 σ h; exact L_X12_fraction_b9 (@ih) h
noncomputable def f_X12_fraction_b0 (v0 v1 v3 : Int) (σ : Mem) : Option (Int × Mem) :=
  f_X12_fraction_h9 FU v0 v1 v3 (labs v1) v3 σ
theorem L_X12_fraction_b0 {sc : Nat × (Nat → Int32)} {o : Int × Mem} {v0 v1 v3 : Int} {σ : Mem} (h : f_X12_fraction_b0 v0 v1 v3 σ = some o) : E sc (Fm Sh (some (0, o.1)) Sh o.2) mt_X12_fraction 2 Sh Sh 0 [(2, v0), (1, v1), (9, 0), (1, v3), (9, 0), (9, 0), (9, 0), (9, 0), (9, 0), (9, 0), (9, 0)] [] Sh σ := by
  unfold f_X12_fraction_b0 at h
  refine E_lload_n d_X12_fraction_0 rfl ?_
  refine E_labs d_X12_fraction_1 nl_X12_79 (by omega) (Nat.le_of_ble_eq_true rfl) ?_
  refine E_lstore d_X12_fraction_4 (ls' := [(2, v0), (1, v1), (9, 0), (1, v3), (9, 0), (1, labs v1), (9, 0), (9, 0), (9, 0), (9, 0), (9, 0)]) ⟨by decide, rfl⟩ ?_
  refine E_lload_n d_X12_fraction_6 rfl ?_
  refine E_lstore d_X12_fraction_7 (ls' := [(2, v0), (1, v1), (9, 0), (1, v3), (9, 0), (1, labs v1), (9, 0), (1, v3), (9, 0), (9, 0), (9, 0)]) ⟨by decide, rfl⟩ ?_
  exact (L_X12_fraction_h9 FU h)
noncomputable def f_X12_fraction (v0 v1 v3 : Int) (σ : Mem) : Option (Int × Mem) := if isO Sh 12 v0 = true then f_X12_fraction_b0 v0 v1 v3 σ else none
theorem L_X12_fraction {o : Int × Mem} {v0 v1 v3 : Int} {σ : Mem} (h : f_X12_fraction v0 v1 v3 σ = some o) : (isO Sh 12 v0 = true ∧ Cn mt_X12_fraction 2 [(2, v0), (1, v1), (1, v3)] Sh σ (some (0, o.1)) Sh o.2) := ⟨(ite_ok h).1, Cn_of mk_X12_fraction.1.2.2.1 (Nat.le_of_ble_eq_true rfl) (fun sc => L_X12_fraction_b0 (ite_ok h).2)⟩
theorem d_X12_lot_0 : decode mt_X12_lot.2.1 0 = .ok (.aload_n 0, 1) := by decide +kernel
theorem d_X12_lot_1 : decode mt_X12_lot.2.1 1 = .ok (.iconst 0, 1) := by decide +kernel
theorem d_X12_lot_2 : decode mt_X12_lot.2.1 2 = .ok (.putfield 70, 3) := by decide +kernel
theorem d_X12_lot_5 : decode mt_X12_lot.2.1 5 = .ok (.aload_n 0, 1) := by decide +kernel
theorem d_X12_lot_6 : decode mt_X12_lot.2.1 6 = .ok (.iconst 0, 1) := by decide +kernel
theorem d_X12_lot_7 : decode mt_X12_lot.2.1 7 = .ok (.putfield 73, 3) := by decide +kernel
theorem d_X12_lot_10 : decode mt_X12_lot.2.1 10 = .ok (.iload_n 1, 1) := by decide +kernel
theorem d_X12_lot_11 : decode mt_X12_lot.2.1 11 = .ok (.i2l, 1) := by decide +kernel
theorem d_X12_lot_12 : decode mt_X12_lot.2.1 12 = .ok (.lconst 0, 1) := by decide +kernel
theorem d_X12_lot_13 : decode mt_X12_lot.2.1 13 = .ok (.ldc2_w 370, 3) := by decide +kernel
theorem d_X12_lot_16 : decode mt_X12_lot.2.1 16 = .ok (.invokestatic 104, 3) := by decide +kernel
theorem d_X12_lot_19 : decode mt_X12_lot.2.1 19 = .ok (.ifCond .eq 13, 3) := by decide +kernel
theorem d_X12_lot_22 : decode mt_X12_lot.2.1 22 = .ok (.iload_n 2, 1) := by decide +kernel
theorem d_X12_lot_23 : decode mt_X12_lot.2.1 23 = .ok (.i2l, 1) := by decide +kernel
theorem d_X12_lot_24 : decode mt_X12_lot.2.1 24 = .ok (.lconst 0, 1) := by decide +kernel
theorem d_X12_lot_25 : decode mt_X12_lot.2.1 25 = .ok (.lconst 1, 1) := by decide +kernel
theorem d_X12_lot_26 : decode mt_X12_lot.2.1 26 = .ok (.invokestatic 104, 3) := by decide +kernel
theorem d_X12_lot_29 : decode mt_X12_lot.2.1 29 = .ok (.ifCond .ne 9, 3) := by decide +kernel
theorem d_X12_lot_32 : decode mt_X12_lot.2.1 32 = .ok (.aload_n 0, 1) := by decide +kernel
theorem d_X12_lot_33 : decode mt_X12_lot.2.1 33 = .ok (.iconst 5, 1) := by decide +kernel
theorem d_X12_lot_34 : decode mt_X12_lot.2.1 34 = .ok (.invokevirtual 85, 3) := by decide +kernel
theorem d_X12_lot_37 : decode mt_X12_lot.2.1 37 = .ok (.ireturn, 1) := by decide +kernel
theorem d_X12_lot_38 : decode mt_X12_lot.2.1 38 = .ok (.aload_n 0, 1) := by decide +kernel
theorem d_X12_lot_39 : decode mt_X12_lot.2.1 39 = .ok (.invokevirtual 321, 3) := by decide +kernel
theorem d_X12_lot_42 : decode mt_X12_lot.2.1 42 = .ok (.invokestatic 324, 3) := by decide +kernel
theorem d_X12_lot_45 : decode mt_X12_lot.2.1 45 = .ok (.istore_n 3, 1) := by decide +kernel
theorem d_X12_lot_46 : decode mt_X12_lot.2.1 46 = .ok (.iload_n 3, 1) := by decide +kernel
theorem d_X12_lot_47 : decode mt_X12_lot.2.1 47 = .ok (.ifCond .ne 10, 3) := by decide +kernel
theorem d_X12_lot_50 : decode mt_X12_lot.2.1 50 = .ok (.aload_n 0, 1) := by decide +kernel
theorem d_X12_lot_51 : decode mt_X12_lot.2.1 51 = .ok (.bipush 8, 2) := by decide +kernel
theorem d_X12_lot_53 : decode mt_X12_lot.2.1 53 = .ok (.invokevirtual 85, 3) := by decide +kernel
theorem d_X12_lot_56 : decode mt_X12_lot.2.1 56 = .ok (.ireturn, 1) := by decide +kernel
theorem d_X12_lot_57 : decode mt_X12_lot.2.1 57 = .ok (.iconst 0, 1) := by decide +kernel
theorem d_X12_lot_58 : decode mt_X12_lot.2.1 58 = .ok (.istore 4, 2) := by decide +kernel
theorem d_X12_lot_60 : decode mt_X12_lot.2.1 60 = .ok (.iconst 0, 1) := by decide +kernel
theorem d_X12_lot_61 : decode mt_X12_lot.2.1 61 = .ok (.istore 5, 2) := by decide +kernel
theorem d_X12_lot_63 : decode mt_X12_lot.2.1 63 = .ok (.iload 5, 2) := by decide +kernel
theorem d_X12_lot_65 : decode mt_X12_lot.2.1 65 = .ok (.aload_n 0, 1) := by decide +kernel
theorem d_X12_lot_66 : decode mt_X12_lot.2.1 66 = .ok (.getfield 35, 3) := by decide +kernel
theorem d_X12_lot_69 : decode mt_X12_lot.2.1 69 = .ok (.iconst 0, 1) := by decide +kernel
theorem d_X12_lot_70 : decode mt_X12_lot.2.1 70 = .ok (.iaload, 1) := by decide +kernel
theorem d_X12_lot_71 : decode mt_X12_lot.2.1 71 = .ok (.if_icmp .ge 56, 3) := by decide +kernel
theorem d_X12_lot_74 : decode mt_X12_lot.2.1 74 = .ok (.aload_n 0, 1) := by decide +kernel
theorem d_X12_lot_75 : decode mt_X12_lot.2.1 75 = .ok (.iload 5, 2) := by decide +kernel
theorem d_X12_lot_77 : decode mt_X12_lot.2.1 77 = .ok (.invokevirtual 305, 3) := by decide +kernel
theorem d_X12_lot_80 : decode mt_X12_lot.2.1 80 = .ok (.ifCond .eq 41, 3) := by decide +kernel
theorem d_X12_lot_83 : decode mt_X12_lot.2.1 83 = .ok (.iload 4, 2) := by decide +kernel
theorem d_X12_lot_85 : decode mt_X12_lot.2.1 85 = .ok (.iload_n 2, 1) := by decide +kernel
theorem d_X12_lot_86 : decode mt_X12_lot.2.1 86 = .ok (.iconst 1, 1) := by decide +kernel
theorem d_X12_lot_87 : decode mt_X12_lot.2.1 87 = .ok (.if_icmp .ne 16, 3) := by decide +kernel
theorem d_X12_lot_90 : decode mt_X12_lot.2.1 90 = .ok (.aload_n 0, 1) := by decide +kernel
theorem d_X12_lot_91 : decode mt_X12_lot.2.1 91 = .ok (.iload_n 1, 1) := by decide +kernel
theorem d_X12_lot_92 : decode mt_X12_lot.2.1 92 = .ok (.iload 5, 2) := by decide +kernel
theorem d_X12_lot_94 : decode mt_X12_lot.2.1 94 = .ok (.invokevirtual 351, 3) := by decide +kernel
theorem d_X12_lot_97 : decode mt_X12_lot.2.1 97 = .ok (.invokestatic 324, 3) := by decide +kernel
theorem d_X12_lot_100 : decode mt_X12_lot.2.1 100 = .ok (.goto 18, 3) := by decide +kernel
theorem d_X12_lot_103 : decode mt_X12_lot.2.1 103 = .ok (.aload_n 0, 1) := by decide +kernel
theorem d_X12_lot_104 : decode mt_X12_lot.2.1 104 = .ok (.iload_n 1, 1) := by decide +kernel
theorem d_X12_lot_105 : decode mt_X12_lot.2.1 105 = .ok (.iload 5, 2) := by decide +kernel
theorem d_X12_lot_107 : decode mt_X12_lot.2.1 107 = .ok (.invokevirtual 357, 3) := by decide +kernel
theorem d_X12_lot_110 : decode mt_X12_lot.2.1 110 = .ok (.ifCond .eq 7, 3) := by decide +kernel
theorem d_X12_lot_113 : decode mt_X12_lot.2.1 113 = .ok (.iconst 1, 1) := by decide +kernel
theorem d_X12_lot_114 : decode mt_X12_lot.2.1 114 = .ok (.goto 4, 3) := by decide +kernel
theorem d_X12_lot_117 : decode mt_X12_lot.2.1 117 = .ok (.iconst 0, 1) := by decide +kernel
theorem d_X12_lot_118 : decode mt_X12_lot.2.1 118 = .ok (.iadd, 1) := by decide +kernel
theorem d_X12_lot_119 : decode mt_X12_lot.2.1 119 = .ok (.istore 4, 2) := by decide +kernel
theorem d_X12_lot_121 : decode mt_X12_lot.2.1 121 = .ok (.iinc 5 1, 3) := by decide +kernel
theorem d_X12_lot_124 : decode mt_X12_lot.2.1 124 = .ok (.goto (-61), 3) := by decide +kernel
theorem d_X12_lot_127 : decode mt_X12_lot.2.1 127 = .ok (.aload_n 0, 1) := by decide +kernel
theorem d_X12_lot_128 : decode mt_X12_lot.2.1 128 = .ok (.iload 4, 2) := by decide +kernel
theorem d_X12_lot_130 : decode mt_X12_lot.2.1 130 = .ok (.i2l, 1) := by decide +kernel
theorem d_X12_lot_131 : decode mt_X12_lot.2.1 131 = .ok (.iload_n 3, 1) := by decide +kernel
theorem d_X12_lot_132 : decode mt_X12_lot.2.1 132 = .ok (.i2l, 1) := by decide +kernel
theorem d_X12_lot_133 : decode mt_X12_lot.2.1 133 = .ok (.invokevirtual 453, 3) := by decide +kernel
theorem d_X12_lot_136 : decode mt_X12_lot.2.1 136 = .ok (.ireturn, 1) := by decide +kernel
noncomputable def f_X12_lot_b32 (v0 : Int) (σ : Mem) : Option (Int × Mem) :=
  (f_X12_no v0 5 σ).bind fun r27 =>
  (bz r27.1).bind fun _ =>
  some (r27.1, r27.2)
theorem L_X12_lot_b32 {sc : Nat × (Nat → Int32)} {o : Int × Mem} {v0 : Int} {σ : Mem} (h : f_X12_lot_b32 v0 σ = some o) : E sc (Fm Sh (some (0, o.1)) Sh o.2) mt_X12_lot 6 Sh Sh 32 [(2, v0), (9, 0), (9, 0), (9, 0), (9, 0), (9, 0)] [] Sh σ := by
  unfold f_X12_lot_b32 at h
  refine E_aload_n d_X12_lot_32 rfl (by decide) ?_
  refine E_iconst d_X12_lot_33 (c32 rfl) ?_
  refine bd h (fun r27 q28 h => ?_)
  refine E_cV (as := [(0, 5)]) (st := []) (a := v0) d_X12_lot_34 mk_X12_no nl_X12_85 (by omega) ⟨rfl, rfl, Nat.le_of_ble_eq_true rfl⟩ okX12 rfl (L_X12_no q28) ?_
  refine bd_bz h (fun q29 h => ?_)
  cases h
  exact E_zret d_X12_lot_37 rfl q29
noncomputable def f_X12_lot_b121 (k63 : (Int → Int → Int → Int → Int → Int → Mem → Option (Int × Mem))) (v0 v1 v2 v3 v4 v5 : Int) (σ : Mem) : Option (Int × Mem) :=
  k63 v0 v1 v2 v3 v4 (w32 (v5 + 1)) σ
theorem L_X12_lot_b121 {sc : Nat × (Nat → Int32)} {o : Int × Mem} {k63 : (Int → Int → Int → Int → Int → Int → Mem → Option (Int × Mem))} (hk63 : ∀ {v0 v1 v2 v3 v4 v5 : Int} {σ : Mem}, k63 v0 v1 v2 v3 v4 v5 σ = some o → E sc (Fm Sh (some (0, o.1)) Sh o.2) mt_X12_lot 6 Sh Sh 63 [(2, v0), (0, v1), (0, v2), (0, v3), (0, v4), (0, v5)] [] Sh σ) {v0 v1 v2 v3 v4 v5 : Int} {σ : Mem} (h : f_X12_lot_b121 k63 v0 v1 v2 v3 v4 v5 σ = some o) : E sc (Fm Sh (some (0, o.1)) Sh o.2) mt_X12_lot 6 Sh Sh 121 [(2, v0), (0, v1), (0, v2), (0, v3), (0, v4), (0, v5)] [] Sh σ := by
  unfold f_X12_lot_b121 at h
  refine E_iinc d_X12_lot_121 (ls' := [(2, v0), (0, v1), (0, v2), (0, v3), (0, v4), (0, w32 (v5 + 1))]) rfl ⟨by decide, rfl⟩ ?_
  refine E_goto (tgt := 63) d_X12_lot_124 (by decide) ?_
  exact (hk63 h)
noncomputable def f_X12_lot_b118 (k63 : (Int → Int → Int → Int → Int → Int → Mem → Option (Int × Mem))) (v0 v1 v2 v3 v5 s0 s1 : Int) (σ : Mem) : Option (Int × Mem) :=
  f_X12_lot_b121 k63 v0 v1 v2 v3 (w32 (s1 + s0)) v5 σ
theorem L_X12_lot_b118 {sc : Nat × (Nat → Int32)} {o : Int × Mem} {k63 : (Int → Int → Int → Int → Int → Int → Mem → Option (Int × Mem))} (hk63 : ∀ {v0 v1 v2 v3 v4 v5 : Int} {σ : Mem}, k63 v0 v1 v2 v3 v4 v5 σ = some o → E sc (Fm Sh (some (0, o.1)) Sh o.2) mt_X12_lot 6 Sh Sh 63 [(2, v0), (0, v1), (0, v2), (0, v3), (0, v4), (0, v5)] [] Sh σ) {v0 v1 v2 v3 v5 s0 s1 : Int} {σ : Mem} (h : f_X12_lot_b118 k63 v0 v1 v2 v3 v5 s0 s1 σ = some o) : E sc (Fm Sh (some (0, o.1)) Sh o.2) mt_X12_lot 6 Sh Sh 118 [(2, v0), (0, v1), (0, v2), (0, v3), (9, 0), (0, v5)] [(0, s0), (0, s1)] Sh σ := by
  unfold f_X12_lot_b118 at h
  refine E_iadd d_X12_lot_118 ?_
  refine E_istore d_X12_lot_119 (ls' := [(2, v0), (0, v1), (0, v2), (0, v3), (0, w32 (s1 + s0)), (0, v5)]) ⟨by decide, rfl⟩ ?_
  exact (L_X12_lot_b121 hk63 h)
noncomputable def f_X12_lot_b63 (k63 : (Int → Int → Int → Int → Int → Int → Mem → Option (Int × Mem))) (v0 v1 v2 v3 v4 v5 : Int) (σ : Mem) : Option (Int × Mem) :=
  (gf Sh σ 12 v0 20).bind fun x14 =>
  (al Sh σ 20 x14 0).bind fun x15 =>
  if x15 ≤ v5 then
    (f_X12_fraction v0 v4 v3 σ).bind fun r16 =>
    (bz r16.1).bind fun _ =>
    some (r16.1, r16.2)
  else
    (f_X12_isStoneAt v0 v5 σ).bind fun r19 =>
    if r19 = 0 then
      f_X12_lot_b121 k63 v0 v1 v2 v3 v4 v5 σ
    else
      if v2 = 1 then
        (f_X12_turnedFrom v0 v1 v5 σ).bind fun r21 =>
        (f_X12_sizeOf r21 σ).bind fun r23 =>
        f_X12_lot_b118 k63 v0 v1 v2 v3 v5 r23 v4 σ
      else
        (f_X12_isCondemned v0 v1 v5 σ).bind fun r25 =>
        if r25 = 0 then
          f_X12_lot_b118 k63 v0 v1 v2 v3 v5 0 v4 σ
        else
          f_X12_lot_b118 k63 v0 v1 v2 v3 v5 1 v4 σ
theorem L_X12_lot_b63 {sc : Nat × (Nat → Int32)} {o : Int × Mem} {k63 : (Int → Int → Int → Int → Int → Int → Mem → Option (Int × Mem))} (hk63 : ∀ {v0 v1 v2 v3 v4 v5 : Int} {σ : Mem}, k63 v0 v1 v2 v3 v4 v5 σ = some o → E sc (Fm Sh (some (0, o.1)) Sh o.2) mt_X12_lot 6 Sh Sh 63 [(2, v0), (0, v1), (0, v2), (0, v3), (0, v4), (0, v5)] [] Sh σ) {v0 v1 v2 v3 v4 v5 : Int} {σ : Mem} (h : f_X12_lot_b63 k63 v0 v1 v2 v3 v4 v5 σ = some o) : E sc (Fm Sh (some (0, o.1)) Sh o.2) mt_X12_lot 6 Sh Sh 63 [(2, v0), (0, v1), (0, v2), (0, v3), (0, v4), (0, v5)] [] Sh σ := by
  unfold f_X12_lot_b63 at h
  refine E_iload d_X12_lot_63 rfl ?_
  refine E_aload_n d_X12_lot_65 rfl (by decide) ?_
  refine E_get d_X12_lot_66 okX12 fl_X12_35 ⟨by decide, rfl⟩ h (fun x14 h => ?_)
  refine E_iconst d_X12_lot_69 (c32 rfl) ?_
  refine E_iaload d_X12_lot_70 h (fun x15 h => ?_)
  refine E_icmp_ge (tgt := 127) d_X12_lot_71 (by decide) h (fun _ h => ?_) (fun _ h => ?_)
  · refine E_aload_n d_X12_lot_127 rfl (by decide) ?_
    refine E_iload d_X12_lot_128 rfl ?_
    refine E_i2l d_X12_lot_130 ?_
    refine E_iload_n d_X12_lot_131 rfl ?_
    refine E_i2l d_X12_lot_132 ?_
    refine bd h (fun r16 q17 h => ?_)
    refine E_cV (as := [(1, v4), (1, v3)]) (st := []) (a := v0) d_X12_lot_133 mk_X12_fraction nl_X12_453 (by omega) ⟨rfl, rfl, Nat.le_of_ble_eq_true rfl⟩ okX12 rfl (L_X12_fraction q17) ?_
    refine bd_bz h (fun q18 h => ?_)
    cases h
    exact E_zret d_X12_lot_136 rfl q18
  · refine E_aload_n d_X12_lot_74 rfl (by decide) ?_
    refine E_iload d_X12_lot_75 rfl ?_
    refine bd h (fun r19 q20 h => ?_)
    refine E_cV (as := [(0, v5)]) (st := []) (a := v0) d_X12_lot_77 mk_X12_isStoneAt nl_X12_305 (by omega) ⟨rfl, rfl, Nat.le_of_ble_eq_true rfl⟩ okX12 rfl (L_X12_isStoneAt q20) ?_
    refine E_if_eq (tgt := 121) d_X12_lot_80 (by decide) h (fun _ h => ?_) (fun _ h => ?_)
    · exact (L_X12_lot_b121 hk63 h)
    · refine E_iload d_X12_lot_83 rfl ?_
      refine E_iload_n d_X12_lot_85 rfl ?_
      refine E_iconst d_X12_lot_86 (c32 rfl) ?_
      refine E_icmp_ne (tgt := 103) d_X12_lot_87 (by decide) h (fun _ h => ?_) (fun _ h => ?_)
      · refine E_aload_n d_X12_lot_90 rfl (by decide) ?_
        refine E_iload_n d_X12_lot_91 rfl ?_
        refine E_iload d_X12_lot_92 rfl ?_
        refine bd h (fun r21 q22 h => ?_)
        refine E_cV (as := [(0, v1), (0, v5)]) (st := [(0, v4)]) (a := v0) d_X12_lot_94 mk_X12_turnedFrom nl_X12_351 (by omega) ⟨rfl, rfl, Nat.le_of_ble_eq_true rfl⟩ okX12 rfl (L_X12_turnedFrom q22) ?_
        refine bd h (fun r23 q24 h => ?_)
        refine E_cS (as := [(0, r21)]) (st := [(0, v4)]) d_X12_lot_97 mk_X12_sizeOf nl_X12_324 (by omega) ⟨rfl, rfl, Nat.le_of_ble_eq_true rfl⟩ (L_X12_sizeOf q24) ?_
        refine E_goto (tgt := 118) d_X12_lot_100 (by decide) ?_
        exact E_weak (ls' := [(2, v0), (0, v1), (0, v2), (0, v3), (9, 0), (0, v5)]) ⟨Or.inr rfl, Or.inr rfl, Or.inr rfl, Or.inr rfl, Or.inl rfl, Or.inr rfl, trivial⟩ (L_X12_lot_b118 hk63 h)
      · refine E_aload_n d_X12_lot_103 rfl (by decide) ?_
        refine E_iload_n d_X12_lot_104 rfl ?_
        refine E_iload d_X12_lot_105 rfl ?_
        refine bd h (fun r25 q26 h => ?_)
        refine E_cV (as := [(0, v1), (0, v5)]) (st := [(0, v4)]) (a := v0) d_X12_lot_107 mk_X12_isCondemned nl_X12_357 (by omega) ⟨rfl, rfl, Nat.le_of_ble_eq_true rfl⟩ okX12 rfl (L_X12_isCondemned q26) ?_
        refine E_if_eq (tgt := 117) d_X12_lot_110 (by decide) h (fun _ h => ?_) (fun _ h => ?_)
        · refine E_iconst d_X12_lot_117 (c32 rfl) ?_
          exact E_weak (ls' := [(2, v0), (0, v1), (0, v2), (0, v3), (9, 0), (0, v5)]) ⟨Or.inr rfl, Or.inr rfl, Or.inr rfl, Or.inr rfl, Or.inl rfl, Or.inr rfl, trivial⟩ (L_X12_lot_b118 hk63 h)
        · refine E_iconst d_X12_lot_113 (c32 rfl) ?_
          refine E_goto (tgt := 118) d_X12_lot_114 (by decide) ?_
          exact E_weak (ls' := [(2, v0), (0, v1), (0, v2), (0, v3), (9, 0), (0, v5)]) ⟨Or.inr rfl, Or.inr rfl, Or.inr rfl, Or.inr rfl, Or.inl rfl, Or.inr rfl, trivial⟩ (L_X12_lot_b118 hk63 h)
noncomputable def f_X12_lot_h63 (n : Nat) : Int → Int → Int → Int → Int → Int → Mem → Option (Int × Mem) := Nat.rec (motive := fun _ => Int → Int → Int → Int → Int → Int → Mem → Option (Int × Mem)) (fun _ _ _ _ _ _ _ => none) (fun _ ih => f_X12_lot_b63 (ih)) n
theorem L_X12_lot_h63 {sc : Nat × (Nat → Int32)} {o : Int × Mem} : ∀ (n : Nat) {v0 v1 v2 v3 v4 v5 : Int} {σ : Mem}, f_X12_lot_h63 n v0 v1 v2 v3 v4 v5 σ = some o → E sc (Fm Sh (some (0, o.1)) Sh o.2) mt_X12_lot 6 Sh Sh 63 [(2, v0), (0, v1), (0, v2), (0, v3), (0, v4), (0, v5)] [] Sh σ := by
  intro n
  induction n with
  | zero => intro v0 v1 v2 v3 v4 v5 σ h; cases h
  | succ n ih => intro v0 v1 v2 v3 v4 v5 σ h; exact L_X12_lot_b63 (@ih) h
noncomputable def f_X12_lot_b0 (v0 v1 v2 : Int) (σ : Mem) : Option (Int × Mem) :=
  (pf Sh σ 12 v0 1 0).bind fun σ1 =>
  (pf Sh σ1 12 v0 0 0).bind fun σ2 =>
  (f_X12_isIn v1 0 99 σ2).bind fun r3 =>
  if r3 = 0 then
    f_X12_lot_b32 v0 σ2
  else
    (f_X12_isIn v2 0 1 σ2).bind fun r5 =>
    if r5 = 0 then
      f_X12_lot_b32 v0 σ2
    else
      (f_X12_stones v0 σ2).bind fun r7 =>
      (f_X12_sizeOf r7 σ2).bind fun r9 =>
      if r9 = 0 then
        (f_X12_no v0 8 σ2).bind fun r11 =>
        (bz r11.1).bind fun _ =>
        some (r11.1, r11.2)
      else
        f_X12_lot_h63 FU v0 v1 v2 r9 0 0 σ2
theorem L_X12_lot_b0 {sc : Nat × (Nat → Int32)} {o : Int × Mem} {v0 v1 v2 : Int} {σ : Mem} (h : f_X12_lot_b0 v0 v1 v2 σ = some o) : E sc (Fm Sh (some (0, o.1)) Sh o.2) mt_X12_lot 6 Sh Sh 0 [(2, v0), (0, v1), (0, v2), (9, 0), (9, 0), (9, 0)] [] Sh σ := by
  unfold f_X12_lot_b0 at h
  refine E_aload_n d_X12_lot_0 rfl (by decide) ?_
  refine E_iconst d_X12_lot_1 (c32 rfl) ?_
  refine E_put d_X12_lot_2 okX12 fl_X12_70 ⟨by decide, rfl⟩ (Or.inl ⟨rfl, rfl⟩) (Or.inl rfl) h (fun σ1 h => ?_)
  refine E_aload_n d_X12_lot_5 rfl (by decide) ?_
  refine E_iconst d_X12_lot_6 (c32 rfl) ?_
  refine E_put d_X12_lot_7 okX12 fl_X12_73 ⟨by decide, rfl⟩ (Or.inl ⟨rfl, rfl⟩) (Or.inl rfl) h (fun σ2 h => ?_)
  refine E_iload_n d_X12_lot_10 rfl ?_
  refine E_i2l d_X12_lot_11 ?_
  refine E_lconst d_X12_lot_12 cl0 ?_
  refine E_ldc2 d_X12_lot_13 kw_X12_370 ?_
  refine bd h (fun r3 q4 h => ?_)
  refine E_cS (as := [(1, v1), (1, 0), (1, 99)]) (st := []) d_X12_lot_16 mk_X12_isIn nl_X12_104 (by omega) ⟨rfl, rfl, Nat.le_of_ble_eq_true rfl⟩ (L_X12_isIn q4) ?_
  refine E_if_eq (tgt := 32) d_X12_lot_19 (by decide) h (fun _ h => ?_) (fun _ h => ?_)
  · exact E_weak (ls' := [(2, v0), (9, 0), (9, 0), (9, 0), (9, 0), (9, 0)]) ⟨Or.inr rfl, Or.inl rfl, Or.inl rfl, Or.inl rfl, Or.inl rfl, Or.inl rfl, trivial⟩ (L_X12_lot_b32 h)
  · refine E_iload_n d_X12_lot_22 rfl ?_
    refine E_i2l d_X12_lot_23 ?_
    refine E_lconst d_X12_lot_24 cl0 ?_
    refine E_lconst d_X12_lot_25 cl1 ?_
    refine bd h (fun r5 q6 h => ?_)
    refine E_cS (as := [(1, v2), (1, 0), (1, 1)]) (st := []) d_X12_lot_26 mk_X12_isIn nl_X12_104 (by omega) ⟨rfl, rfl, Nat.le_of_ble_eq_true rfl⟩ (L_X12_isIn q6) ?_
    refine E_if_ne (tgt := 38) d_X12_lot_29 (by decide) h (fun _ h => ?_) (fun _ h => ?_)
    · exact E_weak (ls' := [(2, v0), (9, 0), (9, 0), (9, 0), (9, 0), (9, 0)]) ⟨Or.inr rfl, Or.inl rfl, Or.inl rfl, Or.inl rfl, Or.inl rfl, Or.inl rfl, trivial⟩ (L_X12_lot_b32 h)
    · refine E_aload_n d_X12_lot_38 rfl (by decide) ?_
      refine bd h (fun r7 q8 h => ?_)
      refine E_cV (as := []) (st := []) (a := v0) d_X12_lot_39 mk_X12_stones nl_X12_321 (by omega) ⟨rfl, rfl, Nat.le_of_ble_eq_true rfl⟩ okX12 rfl (L_X12_stones q8) ?_
      refine bd h (fun r9 q10 h => ?_)
      refine E_cS (as := [(0, r7)]) (st := []) d_X12_lot_42 mk_X12_sizeOf nl_X12_324 (by omega) ⟨rfl, rfl, Nat.le_of_ble_eq_true rfl⟩ (L_X12_sizeOf q10) ?_
      refine E_istore_n d_X12_lot_45 (ls' := [(2, v0), (0, v1), (0, v2), (0, r9), (9, 0), (9, 0)]) ⟨by decide, rfl⟩ ?_
      refine E_iload_n d_X12_lot_46 rfl ?_
      refine E_if_ne (tgt := 57) d_X12_lot_47 (by decide) h (fun _ h => ?_) (fun _ h => ?_)
      · refine E_aload_n d_X12_lot_50 rfl (by decide) ?_
        refine E_bipush d_X12_lot_51 (c8 rfl) ?_
        refine bd h (fun r11 q12 h => ?_)
        refine E_cV (as := [(0, 8)]) (st := []) (a := v0) d_X12_lot_53 mk_X12_no nl_X12_85 (by omega) ⟨rfl, rfl, Nat.le_of_ble_eq_true rfl⟩ okX12 rfl (L_X12_no q12) ?_
        refine bd_bz h (fun q13 h => ?_)
        cases h
        exact E_zret d_X12_lot_56 rfl q13
      · refine E_iconst d_X12_lot_57 (c32 rfl) ?_
        refine E_istore d_X12_lot_58 (ls' := [(2, v0), (0, v1), (0, v2), (0, r9), (0, 0), (9, 0)]) ⟨by decide, rfl⟩ ?_
        refine E_iconst d_X12_lot_60 (c32 rfl) ?_
        refine E_istore d_X12_lot_61 (ls' := [(2, v0), (0, v1), (0, v2), (0, r9), (0, 0), (0, 0)]) ⟨by decide, rfl⟩ ?_
        exact (L_X12_lot_h63 FU h)
noncomputable def f_X12_lot (v0 v1 v2 : Int) (σ : Mem) : Option (Int × Mem) := if isO Sh 12 v0 = true then f_X12_lot_b0 v0 v1 v2 σ else none
theorem L_X12_lot {o : Int × Mem} {v0 v1 v2 : Int} {σ : Mem} (h : f_X12_lot v0 v1 v2 σ = some o) : (isO Sh 12 v0 = true ∧ Cn mt_X12_lot 6 [(2, v0), (0, v1), (0, v2)] Sh σ (some (0, o.1)) Sh o.2) := ⟨(ite_ok h).1, Cn_of mk_X12_lot.1.2.2.1 (Nat.le_of_ble_eq_true rfl) (fun sc => L_X12_lot_b0 (ite_ok h).2)⟩
theorem d_X12_couples_0 : decode mt_X12_couples.2.1 0 = .ok (.aload_n 0, 1) := by decide +kernel
theorem d_X12_couples_1 : decode mt_X12_couples.2.1 1 = .ok (.iconst 0, 1) := by decide +kernel
theorem d_X12_couples_2 : decode mt_X12_couples.2.1 2 = .ok (.putfield 70, 3) := by decide +kernel
theorem d_X12_couples_5 : decode mt_X12_couples.2.1 5 = .ok (.aload_n 0, 1) := by decide +kernel
theorem d_X12_couples_6 : decode mt_X12_couples.2.1 6 = .ok (.iconst 0, 1) := by decide +kernel
theorem d_X12_couples_7 : decode mt_X12_couples.2.1 7 = .ok (.putfield 73, 3) := by decide +kernel
theorem d_X12_couples_10 : decode mt_X12_couples.2.1 10 = .ok (.iload_n 1, 1) := by decide +kernel
theorem d_X12_couples_11 : decode mt_X12_couples.2.1 11 = .ok (.i2l, 1) := by decide +kernel
theorem d_X12_couples_12 : decode mt_X12_couples.2.1 12 = .ok (.lconst 0, 1) := by decide +kernel
theorem d_X12_couples_13 : decode mt_X12_couples.2.1 13 = .ok (.ldc2_w 457, 3) := by decide +kernel
theorem d_X12_couples_16 : decode mt_X12_couples.2.1 16 = .ok (.invokestatic 104, 3) := by decide +kernel
theorem d_X12_couples_19 : decode mt_X12_couples.2.1 19 = .ok (.ifCond .ne 9, 3) := by decide +kernel
theorem d_X12_couples_22 : decode mt_X12_couples.2.1 22 = .ok (.aload_n 0, 1) := by decide +kernel
theorem d_X12_couples_23 : decode mt_X12_couples.2.1 23 = .ok (.iconst 5, 1) := by decide +kernel
theorem d_X12_couples_24 : decode mt_X12_couples.2.1 24 = .ok (.invokevirtual 85, 3) := by decide +kernel
theorem d_X12_couples_27 : decode mt_X12_couples.2.1 27 = .ok (.ireturn, 1) := by decide +kernel
theorem d_X12_couples_28 : decode mt_X12_couples.2.1 28 = .ok (.lconst 1, 1) := by decide +kernel
theorem d_X12_couples_29 : decode mt_X12_couples.2.1 29 = .ok (.lstore_n 2, 1) := by decide +kernel
theorem d_X12_couples_30 : decode mt_X12_couples.2.1 30 = .ok (.iconst 0, 1) := by decide +kernel
theorem d_X12_couples_31 : decode mt_X12_couples.2.1 31 = .ok (.istore 4, 2) := by decide +kernel
theorem d_X12_couples_33 : decode mt_X12_couples.2.1 33 = .ok (.iload 4, 2) := by decide +kernel
theorem d_X12_couples_35 : decode mt_X12_couples.2.1 35 = .ok (.bipush 10, 2) := by decide +kernel
theorem d_X12_couples_37 : decode mt_X12_couples.2.1 37 = .ok (.if_icmp .gt 26, 3) := by decide +kernel
theorem d_X12_couples_40 : decode mt_X12_couples.2.1 40 = .ok (.aload_n 0, 1) := by decide +kernel
theorem d_X12_couples_41 : decode mt_X12_couples.2.1 41 = .ok (.getfield 60, 3) := by decide +kernel
theorem d_X12_couples_44 : decode mt_X12_couples.2.1 44 = .ok (.iload 4, 2) := by decide +kernel
theorem d_X12_couples_46 : decode mt_X12_couples.2.1 46 = .ok (.iload 4, 2) := by decide +kernel
theorem d_X12_couples_48 : decode mt_X12_couples.2.1 48 = .ok (.ifCond .ne 7, 3) := by decide +kernel
theorem d_X12_couples_51 : decode mt_X12_couples.2.1 51 = .ok (.lconst 1, 1) := by decide +kernel
theorem d_X12_couples_52 : decode mt_X12_couples.2.1 52 = .ok (.goto 4, 3) := by decide +kernel
theorem d_X12_couples_55 : decode mt_X12_couples.2.1 55 = .ok (.lconst 0, 1) := by decide +kernel
theorem d_X12_couples_56 : decode mt_X12_couples.2.1 56 = .ok (.lastore, 1) := by decide +kernel
theorem d_X12_couples_57 : decode mt_X12_couples.2.1 57 = .ok (.iinc 4 1, 3) := by decide +kernel
theorem d_X12_couples_60 : decode mt_X12_couples.2.1 60 = .ok (.goto (-27), 3) := by decide +kernel
theorem d_X12_couples_63 : decode mt_X12_couples.2.1 63 = .ok (.aload_n 0, 1) := by decide +kernel
theorem d_X12_couples_64 : decode mt_X12_couples.2.1 64 = .ok (.invokevirtual 321, 3) := by decide +kernel
theorem d_X12_couples_67 : decode mt_X12_couples.2.1 67 = .ok (.invokestatic 324, 3) := by decide +kernel
theorem d_X12_couples_70 : decode mt_X12_couples.2.1 70 = .ok (.istore 4, 2) := by decide +kernel
theorem d_X12_couples_72 : decode mt_X12_couples.2.1 72 = .ok (.iload 4, 2) := by decide +kernel
theorem d_X12_couples_74 : decode mt_X12_couples.2.1 74 = .ok (.ifCond .le 92, 3) := by decide +kernel
theorem d_X12_couples_77 : decode mt_X12_couples.2.1 77 = .ok (.bipush 10, 2) := by decide +kernel
theorem d_X12_couples_79 : decode mt_X12_couples.2.1 79 = .ok (.istore 5, 2) := by decide +kernel
theorem d_X12_couples_81 : decode mt_X12_couples.2.1 81 = .ok (.iload 5, 2) := by decide +kernel
theorem d_X12_couples_83 : decode mt_X12_couples.2.1 83 = .ok (.ifCond .le 52, 3) := by decide +kernel
theorem d_X12_couples_86 : decode mt_X12_couples.2.1 86 = .ok (.aload_n 0, 1) := by decide +kernel
theorem d_X12_couples_87 : decode mt_X12_couples.2.1 87 = .ok (.getfield 60, 3) := by decide +kernel
theorem d_X12_couples_90 : decode mt_X12_couples.2.1 90 = .ok (.iload 5, 2) := by decide +kernel
theorem d_X12_couples_92 : decode mt_X12_couples.2.1 92 = .ok (.aload_n 0, 1) := by decide +kernel
theorem d_X12_couples_93 : decode mt_X12_couples.2.1 93 = .ok (.getfield 60, 3) := by decide +kernel
theorem d_X12_couples_96 : decode mt_X12_couples.2.1 96 = .ok (.iload 5, 2) := by decide +kernel
theorem d_X12_couples_98 : decode mt_X12_couples.2.1 98 = .ok (.laload, 1) := by decide +kernel
theorem d_X12_couples_99 : decode mt_X12_couples.2.1 99 = .ok (.bipush 16, 2) := by decide +kernel
theorem d_X12_couples_101 : decode mt_X12_couples.2.1 101 = .ok (.aload_n 0, 1) := by decide +kernel
theorem d_X12_couples_102 : decode mt_X12_couples.2.1 102 = .ok (.getfield 35, 3) := by decide +kernel
theorem d_X12_couples_105 : decode mt_X12_couples.2.1 105 = .ok (.iconst 2, 1) := by decide +kernel
theorem d_X12_couples_106 : decode mt_X12_couples.2.1 106 = .ok (.iaload, 1) := by decide +kernel
theorem d_X12_couples_107 : decode mt_X12_couples.2.1 107 = .ok (.isub, 1) := by decide +kernel
theorem d_X12_couples_108 : decode mt_X12_couples.2.1 108 = .ok (.i2l, 1) := by decide +kernel
theorem d_X12_couples_109 : decode mt_X12_couples.2.1 109 = .ok (.lmul, 1) := by decide +kernel
theorem d_X12_couples_110 : decode mt_X12_couples.2.1 110 = .ok (.aload_n 0, 1) := by decide +kernel
theorem d_X12_couples_111 : decode mt_X12_couples.2.1 111 = .ok (.getfield 60, 3) := by decide +kernel
theorem d_X12_couples_114 : decode mt_X12_couples.2.1 114 = .ok (.iload 5, 2) := by decide +kernel
theorem d_X12_couples_116 : decode mt_X12_couples.2.1 116 = .ok (.iconst 1, 1) := by decide +kernel
theorem d_X12_couples_117 : decode mt_X12_couples.2.1 117 = .ok (.isub, 1) := by decide +kernel
theorem d_X12_couples_118 : decode mt_X12_couples.2.1 118 = .ok (.laload, 1) := by decide +kernel
theorem d_X12_couples_119 : decode mt_X12_couples.2.1 119 = .ok (.aload_n 0, 1) := by decide +kernel
theorem d_X12_couples_120 : decode mt_X12_couples.2.1 120 = .ok (.getfield 35, 3) := by decide +kernel
theorem d_X12_couples_123 : decode mt_X12_couples.2.1 123 = .ok (.iconst 2, 1) := by decide +kernel
theorem d_X12_couples_124 : decode mt_X12_couples.2.1 124 = .ok (.iaload, 1) := by decide +kernel
theorem d_X12_couples_125 : decode mt_X12_couples.2.1 125 = .ok (.i2l, 1) := by decide +kernel
theorem d_X12_couples_126 : decode mt_X12_couples.2.1 126 = .ok (.lmul, 1) := by decide +kernel
theorem d_X12_couples_127 : decode mt_X12_couples.2.1 127 = .ok (.ladd, 1) := by decide +kernel
theorem d_X12_couples_128 : decode mt_X12_couples.2.1 128 = .ok (.lastore, 1) := by decide +kernel
theorem d_X12_couples_129 : decode mt_X12_couples.2.1 129 = .ok (.iinc 5 (-1), 3) := by decide +kernel
theorem d_X12_couples_132 : decode mt_X12_couples.2.1 132 = .ok (.goto (-51), 3) := by decide +kernel
theorem d_X12_couples_135 : decode mt_X12_couples.2.1 135 = .ok (.aload_n 0, 1) := by decide +kernel
theorem d_X12_couples_136 : decode mt_X12_couples.2.1 136 = .ok (.getfield 60, 3) := by decide +kernel
theorem d_X12_couples_139 : decode mt_X12_couples.2.1 139 = .ok (.iconst 0, 1) := by decide +kernel
theorem d_X12_couples_140 : decode mt_X12_couples.2.1 140 = .ok (.dup2, 1) := by decide +kernel
theorem d_X12_couples_141 : decode mt_X12_couples.2.1 141 = .ok (.laload, 1) := by decide +kernel
theorem d_X12_couples_142 : decode mt_X12_couples.2.1 142 = .ok (.bipush 16, 2) := by decide +kernel
theorem d_X12_couples_144 : decode mt_X12_couples.2.1 144 = .ok (.aload_n 0, 1) := by decide +kernel
theorem d_X12_couples_145 : decode mt_X12_couples.2.1 145 = .ok (.getfield 35, 3) := by decide +kernel
theorem d_X12_couples_148 : decode mt_X12_couples.2.1 148 = .ok (.iconst 2, 1) := by decide +kernel
theorem d_X12_couples_149 : decode mt_X12_couples.2.1 149 = .ok (.iaload, 1) := by decide +kernel
theorem d_X12_couples_150 : decode mt_X12_couples.2.1 150 = .ok (.isub, 1) := by decide +kernel
theorem d_X12_couples_151 : decode mt_X12_couples.2.1 151 = .ok (.i2l, 1) := by decide +kernel
theorem d_X12_couples_152 : decode mt_X12_couples.2.1 152 = .ok (.lmul, 1) := by decide +kernel
theorem d_X12_couples_153 : decode mt_X12_couples.2.1 153 = .ok (.lastore, 1) := by decide +kernel
theorem d_X12_couples_154 : decode mt_X12_couples.2.1 154 = .ok (.lload_n 2, 1) := by decide +kernel
theorem d_X12_couples_155 : decode mt_X12_couples.2.1 155 = .ok (.ldc2_w 383, 3) := by decide +kernel
theorem d_X12_couples_158 : decode mt_X12_couples.2.1 158 = .ok (.lmul, 1) := by decide +kernel
theorem d_X12_couples_159 : decode mt_X12_couples.2.1 159 = .ok (.lstore_n 2, 1) := by decide +kernel
theorem d_X12_couples_160 : decode mt_X12_couples.2.1 160 = .ok (.iinc 4 (-1), 3) := by decide +kernel
theorem d_X12_couples_163 : decode mt_X12_couples.2.1 163 = .ok (.goto (-91), 3) := by decide +kernel
theorem d_X12_couples_166 : decode mt_X12_couples.2.1 166 = .ok (.lconst 0, 1) := by decide +kernel
theorem d_X12_couples_167 : decode mt_X12_couples.2.1 167 = .ok (.lstore 4, 2) := by decide +kernel
theorem d_X12_couples_169 : decode mt_X12_couples.2.1 169 = .ok (.iload_n 1, 1) := by decide +kernel
theorem d_X12_couples_170 : decode mt_X12_couples.2.1 170 = .ok (.istore 6, 2) := by decide +kernel
theorem d_X12_couples_172 : decode mt_X12_couples.2.1 172 = .ok (.iload 6, 2) := by decide +kernel
theorem d_X12_couples_174 : decode mt_X12_couples.2.1 174 = .ok (.bipush 10, 2) := by decide +kernel
theorem d_X12_couples_176 : decode mt_X12_couples.2.1 176 = .ok (.if_icmp .gt 21, 3) := by decide +kernel
theorem d_X12_couples_179 : decode mt_X12_couples.2.1 179 = .ok (.lload 4, 2) := by decide +kernel
theorem d_X12_couples_181 : decode mt_X12_couples.2.1 181 = .ok (.aload_n 0, 1) := by decide +kernel
theorem d_X12_couples_182 : decode mt_X12_couples.2.1 182 = .ok (.getfield 60, 3) := by decide +kernel
theorem d_X12_couples_185 : decode mt_X12_couples.2.1 185 = .ok (.iload 6, 2) := by decide +kernel
theorem d_X12_couples_187 : decode mt_X12_couples.2.1 187 = .ok (.laload, 1) := by decide +kernel
theorem d_X12_couples_188 : decode mt_X12_couples.2.1 188 = .ok (.ladd, 1) := by decide +kernel
theorem d_X12_couples_189 : decode mt_X12_couples.2.1 189 = .ok (.lstore 4, 2) := by decide +kernel
theorem d_X12_couples_191 : decode mt_X12_couples.2.1 191 = .ok (.iinc 6 1, 3) := by decide +kernel
theorem d_X12_couples_194 : decode mt_X12_couples.2.1 194 = .ok (.goto (-22), 3) := by decide +kernel
theorem d_X12_couples_197 : decode mt_X12_couples.2.1 197 = .ok (.aload_n 0, 1) := by decide +kernel
theorem d_X12_couples_198 : decode mt_X12_couples.2.1 198 = .ok (.lload 4, 2) := by decide +kernel
theorem d_X12_couples_200 : decode mt_X12_couples.2.1 200 = .ok (.lload_n 2, 1) := by decide +kernel
theorem d_X12_couples_201 : decode mt_X12_couples.2.1 201 = .ok (.invokevirtual 453, 3) := by decide +kernel
theorem d_X12_couples_204 : decode mt_X12_couples.2.1 204 = .ok (.ireturn, 1) := by decide +kernel
noncomputable def f_X12_couples_b56 (k33 : (Int → Int → Int → Int → Mem → Option (Int × Mem))) (v0 v1 v2 v4 s0 s1 s2 : Int) (σ : Mem) : Option (Int × Mem) :=
  (st_ Sh σ 21 s2 s1 s0).bind fun σ13 =>
  k33 v0 v1 v2 (w32 (v4 + 1)) σ13
theorem L_X12_couples_b56 {sc : Nat × (Nat → Int32)} {o : Int × Mem} {k33 : (Int → Int → Int → Int → Mem → Option (Int × Mem))} (hk33 : ∀ {v0 v1 v2 v4 : Int} {σ : Mem}, k33 v0 v1 v2 v4 σ = some o → E sc (Fm Sh (some (0, o.1)) Sh o.2) mt_X12_couples 3 Sh Sh 33 [(2, v0), (0, v1), (1, v2), (9, 0), (0, v4), (9, 0), (9, 0)] [] Sh σ) {v0 v1 v2 v4 s0 s1 s2 : Int} {σ : Mem} (h : f_X12_couples_b56 k33 v0 v1 v2 v4 s0 s1 s2 σ = some o) : E sc (Fm Sh (some (0, o.1)) Sh o.2) mt_X12_couples 3 Sh Sh 56 [(2, v0), (0, v1), (1, v2), (9, 0), (0, v4), (9, 0), (9, 0)] [(1, s0), (0, s1), (2, s2)] Sh σ := by
  unfold f_X12_couples_b56 at h
  refine E_lastore d_X12_couples_56 h (fun σ13 h => ?_)
  refine E_iinc d_X12_couples_57 (ls' := [(2, v0), (0, v1), (1, v2), (9, 0), (0, w32 (v4 + 1)), (9, 0), (9, 0)]) rfl ⟨by decide, rfl⟩ ?_
  refine E_goto (tgt := 33) d_X12_couples_60 (by decide) ?_
  exact (hk33 h)
noncomputable def f_X12_couples_b81 (k72 : (Int → Int → Int → Int → Mem → Option (Int × Mem))) (k81 : (Int → Int → Int → Int → Int → Mem → Option (Int × Mem))) (v0 v1 v2 v4 v5 : Int) (σ : Mem) : Option (Int × Mem) :=
  if v5 ≤ 0 then
    (gf Sh σ 12 v0 34).bind fun x14 =>
    (al Sh σ 21 x14 0).bind fun x15 =>
    (gf Sh σ 12 v0 20).bind fun x16 =>
    (al Sh σ 20 x16 2).bind fun x17 =>
    (st_ Sh σ 21 x14 0 (w64 (x15 * (w32 (16 - x17))))).bind fun σ18 =>
    k72 v0 v1 (w64 (v2 * 16)) (w32 (v4 + (-1))) σ18
  else
    (gf Sh σ 12 v0 34).bind fun x19 =>
    (gf Sh σ 12 v0 34).bind fun x20 =>
    (al Sh σ 21 x20 v5).bind fun x21 =>
    (gf Sh σ 12 v0 20).bind fun x22 =>
    (al Sh σ 20 x22 2).bind fun x23 =>
    (gf Sh σ 12 v0 34).bind fun x24 =>
    (al Sh σ 21 x24 (w32 (v5 - 1))).bind fun x25 =>
    (gf Sh σ 12 v0 20).bind fun x26 =>
    (al Sh σ 20 x26 2).bind fun x27 =>
    (st_ Sh σ 21 x19 v5 (w64 (w64 (x21 * (w32 (16 - x23))) + (w64 (x25 * x27))))).bind fun σ28 =>
    k81 v0 v1 v2 v4 (w32 (v5 + (-1))) σ28
theorem L_X12_couples_b81 {sc : Nat × (Nat → Int32)} {o : Int × Mem} {k72 : (Int → Int → Int → Int → Mem → Option (Int × Mem))} {k81 : (Int → Int → Int → Int → Int → Mem → Option (Int × Mem))} (hk72 : ∀ {v0 v1 v2 v4 : Int} {σ : Mem}, k72 v0 v1 v2 v4 σ = some o → E sc (Fm Sh (some (0, o.1)) Sh o.2) mt_X12_couples 3 Sh Sh 72 [(2, v0), (0, v1), (1, v2), (9, 0), (0, v4), (9, 0), (9, 0)] [] Sh σ) (hk81 : ∀ {v0 v1 v2 v4 v5 : Int} {σ : Mem}, k81 v0 v1 v2 v4 v5 σ = some o → E sc (Fm Sh (some (0, o.1)) Sh o.2) mt_X12_couples 3 Sh Sh 81 [(2, v0), (0, v1), (1, v2), (9, 0), (0, v4), (0, v5), (9, 0)] [] Sh σ) {v0 v1 v2 v4 v5 : Int} {σ : Mem} (h : f_X12_couples_b81 k72 k81 v0 v1 v2 v4 v5 σ = some o) : E sc (Fm Sh (some (0, o.1)) Sh o.2) mt_X12_couples 3 Sh Sh 81 [(2, v0), (0, v1), (1, v2), (9, 0), (0, v4), (0, v5), (9, 0)] [] Sh σ := by
  unfold f_X12_couples_b81 at h
  refine E_iload d_X12_couples_81 rfl ?_
  refine E_if_le (tgt := 135) d_X12_couples_83 (by decide) h (fun _ h => ?_) (fun _ h => ?_)
  · refine E_aload_n d_X12_couples_135 rfl (by decide) ?_
    refine E_get d_X12_couples_136 okX12 fl_X12_60 ⟨by decide, rfl⟩ h (fun x14 h => ?_)
    refine E_iconst d_X12_couples_139 (c32 rfl) ?_
    refine E_dup2T d_X12_couples_140 (by decide) ?_
    refine E_laload d_X12_couples_141 h (fun x15 h => ?_)
    refine E_bipush d_X12_couples_142 (c8 rfl) ?_
    refine E_aload_n d_X12_couples_144 rfl (by decide) ?_
    refine E_get d_X12_couples_145 okX12 fl_X12_35 ⟨by decide, rfl⟩ h (fun x16 h => ?_)
    refine E_iconst d_X12_couples_148 (c32 rfl) ?_
    refine E_iaload d_X12_couples_149 h (fun x17 h => ?_)
    refine E_isub d_X12_couples_150 ?_
    refine E_i2l d_X12_couples_151 ?_
    refine E_lmul d_X12_couples_152 ?_
    refine E_lastore d_X12_couples_153 h (fun σ18 h => ?_)
    refine E_lload_n d_X12_couples_154 rfl ?_
    refine E_ldc2 d_X12_couples_155 kw_X12_383 ?_
    refine E_lmul d_X12_couples_158 ?_
    refine E_lstore_n d_X12_couples_159 (ls' := [(2, v0), (0, v1), (1, w64 (v2 * 16)), (9, 0), (0, v4), (0, v5), (9, 0)]) ⟨by decide, rfl⟩ ?_
    refine E_iinc d_X12_couples_160 (ls' := [(2, v0), (0, v1), (1, w64 (v2 * 16)), (9, 0), (0, w32 (v4 + (-1))), (0, v5), (9, 0)]) rfl ⟨by decide, rfl⟩ ?_
    refine E_goto (tgt := 72) d_X12_couples_163 (by decide) ?_
    exact E_weak (ls' := [(2, v0), (0, v1), (1, w64 (v2 * 16)), (9, 0), (0, w32 (v4 + (-1))), (9, 0), (9, 0)]) ⟨Or.inr rfl, Or.inr rfl, Or.inr rfl, Or.inl rfl, Or.inr rfl, Or.inl rfl, Or.inl rfl, trivial⟩ (hk72 h)
  · refine E_aload_n d_X12_couples_86 rfl (by decide) ?_
    refine E_get d_X12_couples_87 okX12 fl_X12_60 ⟨by decide, rfl⟩ h (fun x19 h => ?_)
    refine E_iload d_X12_couples_90 rfl ?_
    refine E_aload_n d_X12_couples_92 rfl (by decide) ?_
    refine E_get d_X12_couples_93 okX12 fl_X12_60 ⟨by decide, rfl⟩ h (fun x20 h => ?_)
    refine E_iload d_X12_couples_96 rfl ?_
    refine E_laload d_X12_couples_98 h (fun x21 h => ?_)
    refine E_bipush d_X12_couples_99 (c8 rfl) ?_
    refine E_aload_n d_X12_couples_101 rfl (by decide) ?_
    refine E_get d_X12_couples_102 okX12 fl_X12_35 ⟨by decide, rfl⟩ h (fun x22 h => ?_)
    refine E_iconst d_X12_couples_105 (c32 rfl) ?_
    refine E_iaload d_X12_couples_106 h (fun x23 h => ?_)
    refine E_isub d_X12_couples_107 ?_
    refine E_i2l d_X12_couples_108 ?_
    refine E_lmul d_X12_couples_109 ?_
    refine E_aload_n d_X12_couples_110 rfl (by decide) ?_
    refine E_get d_X12_couples_111 okX12 fl_X12_60 ⟨by decide, rfl⟩ h (fun x24 h => ?_)
    refine E_iload d_X12_couples_114 rfl ?_
    refine E_iconst d_X12_couples_116 (c32 rfl) ?_
    refine E_isub d_X12_couples_117 ?_
    refine E_laload d_X12_couples_118 h (fun x25 h => ?_)
    refine E_aload_n d_X12_couples_119 rfl (by decide) ?_
    refine E_get d_X12_couples_120 okX12 fl_X12_35 ⟨by decide, rfl⟩ h (fun x26 h => ?_)
    refine E_iconst d_X12_couples_123 (c32 rfl) ?_
    refine E_iaload d_X12_couples_124 h (fun x27 h => ?_)
    refine E_i2l d_X12_couples_125 ?_
    refine E_lmul d_X12_couples_126 ?_
    refine E_ladd d_X12_couples_127 ?_
    refine E_lastore d_X12_couples_128 h (fun σ28 h => ?_)
    refine E_iinc d_X12_couples_129 (ls' := [(2, v0), (0, v1), (1, v2), (9, 0), (0, v4), (0, w32 (v5 + (-1))), (9, 0)]) rfl ⟨by decide, rfl⟩ ?_
    refine E_goto (tgt := 81) d_X12_couples_132 (by decide) ?_
    exact (hk81 h)
noncomputable def f_X12_couples_h81 (k72 : (Int → Int → Int → Int → Mem → Option (Int × Mem))) (n : Nat) : Int → Int → Int → Int → Int → Mem → Option (Int × Mem) := Nat.rec (motive := fun _ => Int → Int → Int → Int → Int → Mem → Option (Int × Mem)) (fun _ _ _ _ _ _ => none) (fun _ ih => f_X12_couples_b81 k72 (ih)) n
theorem L_X12_couples_h81 {sc : Nat × (Nat → Int32)} {o : Int × Mem} {k72 : (Int → Int → Int → Int → Mem → Option (Int × Mem))} (hk72 : ∀ {v0 v1 v2 v4 : Int} {σ : Mem}, k72 v0 v1 v2 v4 σ = some o → E sc (Fm Sh (some (0, o.1)) Sh o.2) mt_X12_couples 3 Sh Sh 72 [(2, v0), (0, v1), (1, v2), (9, 0), (0, v4), (9, 0), (9, 0)] [] Sh σ) : ∀ (n : Nat) {v0 v1 v2 v4 v5 : Int} {σ : Mem}, f_X12_couples_h81 k72 n v0 v1 v2 v4 v5 σ = some o → E sc (Fm Sh (some (0, o.1)) Sh o.2) mt_X12_couples 3 Sh Sh 81 [(2, v0), (0, v1), (1, v2), (9, 0), (0, v4), (0, v5), (9, 0)] [] Sh σ := by
  intro n
  induction n with
  | zero => intro v0 v1 v2 v4 v5 σ h; cases h
  | succ n ih => intro v0 v1 v2 v4 v5 σ h; exact L_X12_couples_b81 hk72 (@ih) h
noncomputable def f_X12_couples_b172 (k172 : (Int → Int → Int → Int → Mem → Option (Int × Mem))) (v0 v2 v4 v6 : Int) (σ : Mem) : Option (Int × Mem) :=
  if 10 < v6 then
    (f_X12_fraction v0 v4 v2 σ).bind fun r29 =>
    (bz r29.1).bind fun _ =>
    some (r29.1, r29.2)
  else
    (gf Sh σ 12 v0 34).bind fun x32 =>
    (al Sh σ 21 x32 v6).bind fun x33 =>
    k172 v0 v2 (w64 (v4 + x33)) (w32 (v6 + 1)) σ
theorem L_X12_couples_b172 {sc : Nat × (Nat → Int32)} {o : Int × Mem} {k172 : (Int → Int → Int → Int → Mem → Option (Int × Mem))} (hk172 : ∀ {v0 v2 v4 v6 : Int} {σ : Mem}, k172 v0 v2 v4 v6 σ = some o → E sc (Fm Sh (some (0, o.1)) Sh o.2) mt_X12_couples 3 Sh Sh 172 [(2, v0), (9, 0), (1, v2), (9, 0), (1, v4), (9, 0), (0, v6)] [] Sh σ) {v0 v2 v4 v6 : Int} {σ : Mem} (h : f_X12_couples_b172 k172 v0 v2 v4 v6 σ = some o) : E sc (Fm Sh (some (0, o.1)) Sh o.2) mt_X12_couples 3 Sh Sh 172 [(2, v0), (9, 0), (1, v2), (9, 0), (1, v4), (9, 0), (0, v6)] [] Sh σ := by
  unfold f_X12_couples_b172 at h
  refine E_iload d_X12_couples_172 rfl ?_
  refine E_bipush d_X12_couples_174 (c8 rfl) ?_
  refine E_icmp_gt (tgt := 197) d_X12_couples_176 (by decide) h (fun _ h => ?_) (fun _ h => ?_)
  · refine E_aload_n d_X12_couples_197 rfl (by decide) ?_
    refine E_lload d_X12_couples_198 rfl ?_
    refine E_lload_n d_X12_couples_200 rfl ?_
    refine bd h (fun r29 q30 h => ?_)
    refine E_cV (as := [(1, v4), (1, v2)]) (st := []) (a := v0) d_X12_couples_201 mk_X12_fraction nl_X12_453 (by omega) ⟨rfl, rfl, Nat.le_of_ble_eq_true rfl⟩ okX12 rfl (L_X12_fraction q30) ?_
    refine bd_bz h (fun q31 h => ?_)
    cases h
    exact E_zret d_X12_couples_204 rfl q31
  · refine E_lload d_X12_couples_179 rfl ?_
    refine E_aload_n d_X12_couples_181 rfl (by decide) ?_
    refine E_get d_X12_couples_182 okX12 fl_X12_60 ⟨by decide, rfl⟩ h (fun x32 h => ?_)
    refine E_iload d_X12_couples_185 rfl ?_
    refine E_laload d_X12_couples_187 h (fun x33 h => ?_)
    refine E_ladd d_X12_couples_188 ?_
    refine E_lstore d_X12_couples_189 (ls' := [(2, v0), (9, 0), (1, v2), (9, 0), (1, w64 (v4 + x33)), (9, 0), (0, v6)]) ⟨by decide, rfl⟩ ?_
    refine E_iinc d_X12_couples_191 (ls' := [(2, v0), (9, 0), (1, v2), (9, 0), (1, w64 (v4 + x33)), (9, 0), (0, w32 (v6 + 1))]) rfl ⟨by decide, rfl⟩ ?_
    refine E_goto (tgt := 172) d_X12_couples_194 (by decide) ?_
    exact (hk172 h)
noncomputable def f_X12_couples_h172 (n : Nat) : Int → Int → Int → Int → Mem → Option (Int × Mem) := Nat.rec (motive := fun _ => Int → Int → Int → Int → Mem → Option (Int × Mem)) (fun _ _ _ _ _ => none) (fun _ ih => f_X12_couples_b172 (ih)) n
theorem L_X12_couples_h172 {sc : Nat × (Nat → Int32)} {o : Int × Mem} : ∀ (n : Nat) {v0 v2 v4 v6 : Int} {σ : Mem}, f_X12_couples_h172 n v0 v2 v4 v6 σ = some o → E sc (Fm Sh (some (0, o.1)) Sh o.2) mt_X12_couples 3 Sh Sh 172 [(2, v0), (9, 0), (1, v2), (9, 0), (1, v4), (9, 0), (0, v6)] [] Sh σ := by
  intro n
  induction n with
  | zero => intro v0 v2 v4 v6 σ h; cases h
  | succ n ih => intro v0 v2 v4 v6 σ h; exact L_X12_couples_b172 (@ih) h
noncomputable def f_X12_couples_b72 (k72 : (Int → Int → Int → Int → Mem → Option (Int × Mem))) (v0 v1 v2 v4 : Int) (σ : Mem) : Option (Int × Mem) :=
  if v4 ≤ 0 then
    f_X12_couples_h172 FU v0 v2 0 v1 σ
  else
    f_X12_couples_h81 k72 FU v0 v1 v2 v4 10 σ
theorem L_X12_couples_b72 {sc : Nat × (Nat → Int32)} {o : Int × Mem} {k72 : (Int → Int → Int → Int → Mem → Option (Int × Mem))} (hk72 : ∀ {v0 v1 v2 v4 : Int} {σ : Mem}, k72 v0 v1 v2 v4 σ = some o → E sc (Fm Sh (some (0, o.1)) Sh o.2) mt_X12_couples 3 Sh Sh 72 [(2, v0), (0, v1), (1, v2), (9, 0), (0, v4), (9, 0), (9, 0)] [] Sh σ) {v0 v1 v2 v4 : Int} {σ : Mem} (h : f_X12_couples_b72 k72 v0 v1 v2 v4 σ = some o) : E sc (Fm Sh (some (0, o.1)) Sh o.2) mt_X12_couples 3 Sh Sh 72 [(2, v0), (0, v1), (1, v2), (9, 0), (0, v4), (9, 0), (9, 0)] [] Sh σ := by
  unfold f_X12_couples_b72 at h
  refine E_iload d_X12_couples_72 rfl ?_
  refine E_if_le (tgt := 166) d_X12_couples_74 (by decide) h (fun _ h => ?_) (fun _ h => ?_)
  · refine E_lconst d_X12_couples_166 cl0 ?_
    refine E_lstore d_X12_couples_167 (ls' := [(2, v0), (0, v1), (1, v2), (9, 0), (1, 0), (9, 0), (9, 0)]) ⟨by decide, rfl⟩ ?_
    refine E_iload_n d_X12_couples_169 rfl ?_
    refine E_istore d_X12_couples_170 (ls' := [(2, v0), (0, v1), (1, v2), (9, 0), (1, 0), (9, 0), (0, v1)]) ⟨by decide, rfl⟩ ?_
    exact E_weak (ls' := [(2, v0), (9, 0), (1, v2), (9, 0), (1, 0), (9, 0), (0, v1)]) ⟨Or.inr rfl, Or.inl rfl, Or.inr rfl, Or.inl rfl, Or.inr rfl, Or.inl rfl, Or.inr rfl, trivial⟩ (L_X12_couples_h172 FU h)
  · refine E_bipush d_X12_couples_77 (c8 rfl) ?_
    refine E_istore d_X12_couples_79 (ls' := [(2, v0), (0, v1), (1, v2), (9, 0), (0, v4), (0, 10), (9, 0)]) ⟨by decide, rfl⟩ ?_
    exact (L_X12_couples_h81 hk72 FU h)
noncomputable def f_X12_couples_h72 (n : Nat) : Int → Int → Int → Int → Mem → Option (Int × Mem) := Nat.rec (motive := fun _ => Int → Int → Int → Int → Mem → Option (Int × Mem)) (fun _ _ _ _ _ => none) (fun _ ih => f_X12_couples_b72 (ih)) n
theorem L_X12_couples_h72 {sc : Nat × (Nat → Int32)} {o : Int × Mem} : ∀ (n : Nat) {v0 v1 v2 v4 : Int} {σ : Mem}, f_X12_couples_h72 n v0 v1 v2 v4 σ = some o → E sc (Fm Sh (some (0, o.1)) Sh o.2) mt_X12_couples 3 Sh Sh 72 [(2, v0), (0, v1), (1, v2), (9, 0), (0, v4), (9, 0), (9, 0)] [] Sh σ := by
  intro n
  induction n with
  | zero => intro v0 v1 v2 v4 σ h; cases h
  | succ n ih => intro v0 v1 v2 v4 σ h; exact L_X12_couples_b72 (@ih) h
noncomputable def f_X12_couples_b33 (k33 : (Int → Int → Int → Int → Mem → Option (Int × Mem))) (v0 v1 v2 v4 : Int) (σ : Mem) : Option (Int × Mem) :=
  if 10 < v4 then
    (f_X12_stones v0 σ).bind fun r8 =>
    (f_X12_sizeOf r8 σ).bind fun r10 =>
    f_X12_couples_h72 FU v0 v1 v2 r10 σ
  else
    (gf Sh σ 12 v0 34).bind fun x12 =>
    if v4 = 0 then
      f_X12_couples_b56 k33 v0 v1 v2 v4 1 v4 x12 σ
    else
      f_X12_couples_b56 k33 v0 v1 v2 v4 0 v4 x12 σ
theorem L_X12_couples_b33 {sc : Nat × (Nat → Int32)} {o : Int × Mem} {k33 : (Int → Int → Int → Int → Mem → Option (Int × Mem))} (hk33 : ∀ {v0 v1 v2 v4 : Int} {σ : Mem}, k33 v0 v1 v2 v4 σ = some o → E sc (Fm Sh (some (0, o.1)) Sh o.2) mt_X12_couples 3 Sh Sh 33 [(2, v0), (0, v1), (1, v2), (9, 0), (0, v4), (9, 0), (9, 0)] [] Sh σ) {v0 v1 v2 v4 : Int} {σ : Mem} (h : f_X12_couples_b33 k33 v0 v1 v2 v4 σ = some o) : E sc (Fm Sh (some (0, o.1)) Sh o.2) mt_X12_couples 3 Sh Sh 33 [(2, v0), (0, v1), (1, v2), (9, 0), (0, v4), (9, 0), (9, 0)] [] Sh σ := by
  unfold f_X12_couples_b33 at h
  refine E_iload d_X12_couples_33 rfl ?_
  refine E_bipush d_X12_couples_35 (c8 rfl) ?_
  refine E_icmp_gt (tgt := 63) d_X12_couples_37 (by decide) h (fun _ h => ?_) (fun _ h => ?_)
  · refine E_aload_n d_X12_couples_63 rfl (by decide) ?_
    refine bd h (fun r8 q9 h => ?_)
    refine E_cV (as := []) (st := []) (a := v0) d_X12_couples_64 mk_X12_stones nl_X12_321 (by omega) ⟨rfl, rfl, Nat.le_of_ble_eq_true rfl⟩ okX12 rfl (L_X12_stones q9) ?_
    refine bd h (fun r10 q11 h => ?_)
    refine E_cS (as := [(0, r8)]) (st := []) d_X12_couples_67 mk_X12_sizeOf nl_X12_324 (by omega) ⟨rfl, rfl, Nat.le_of_ble_eq_true rfl⟩ (L_X12_sizeOf q11) ?_
    refine E_istore d_X12_couples_70 (ls' := [(2, v0), (0, v1), (1, v2), (9, 0), (0, r10), (9, 0), (9, 0)]) ⟨by decide, rfl⟩ ?_
    exact (L_X12_couples_h72 FU h)
  · refine E_aload_n d_X12_couples_40 rfl (by decide) ?_
    refine E_get d_X12_couples_41 okX12 fl_X12_60 ⟨by decide, rfl⟩ h (fun x12 h => ?_)
    refine E_iload d_X12_couples_44 rfl ?_
    refine E_iload d_X12_couples_46 rfl ?_
    refine E_if_ne (tgt := 55) d_X12_couples_48 (by decide) h (fun _ h => ?_) (fun _ h => ?_)
    · refine E_lconst d_X12_couples_51 cl1 ?_
      refine E_goto (tgt := 56) d_X12_couples_52 (by decide) ?_
      exact (L_X12_couples_b56 hk33 h)
    · refine E_lconst d_X12_couples_55 cl0 ?_
      exact (L_X12_couples_b56 hk33 h)
noncomputable def f_X12_couples_h33 (n : Nat) : Int → Int → Int → Int → Mem → Option (Int × Mem) := Nat.rec (motive := fun _ => Int → Int → Int → Int → Mem → Option (Int × Mem)) (fun _ _ _ _ _ => none) (fun _ ih => f_X12_couples_b33 (ih)) n
theorem L_X12_couples_h33 {sc : Nat × (Nat → Int32)} {o : Int × Mem} : ∀ (n : Nat) {v0 v1 v2 v4 : Int} {σ : Mem}, f_X12_couples_h33 n v0 v1 v2 v4 σ = some o → E sc (Fm Sh (some (0, o.1)) Sh o.2) mt_X12_couples 3 Sh Sh 33 [(2, v0), (0, v1), (1, v2), (9, 0), (0, v4), (9, 0), (9, 0)] [] Sh σ := by
  intro n
  induction n with
  | zero => intro v0 v1 v2 v4 σ h; cases h
  | succ n ih => intro v0 v1 v2 v4 σ h; exact L_X12_couples_b33 (@ih) h
noncomputable def f_X12_couples_b0 (v0 v1 : Int) (σ : Mem) : Option (Int × Mem) :=
  (pf Sh σ 12 v0 1 0).bind fun σ1 =>
  (pf Sh σ1 12 v0 0 0).bind fun σ2 =>
  (f_X12_isIn v1 0 10 σ2).bind fun r3 =>
  if r3 = 0 then
    (f_X12_no v0 5 σ2).bind fun r5 =>
    (bz r5.1).bind fun _ =>
    some (r5.1, r5.2)
  else
    f_X12_couples_h33 FU v0 v1 1 0 σ2
theorem L_X12_couples_b0 {sc : Nat × (Nat → Int32)} {o : Int × Mem} {v0 v1 : Int} {σ : Mem} (h : f_X12_couples_b0 v0 v1 σ = some o) : E sc (Fm Sh (some (0, o.1)) Sh o.2) mt_X12_couples 3 Sh Sh 0 [(2, v0), (0, v1), (9, 0), (9, 0), (9, 0), (9, 0), (9, 0)] [] Sh σ := by
  unfold f_X12_couples_b0 at h
  refine E_aload_n d_X12_couples_0 rfl (by decide) ?_
  refine E_iconst d_X12_couples_1 (c32 rfl) ?_
  refine E_put d_X12_couples_2 okX12 fl_X12_70 ⟨by decide, rfl⟩ (Or.inl ⟨rfl, rfl⟩) (Or.inl rfl) h (fun σ1 h => ?_)
  refine E_aload_n d_X12_couples_5 rfl (by decide) ?_
  refine E_iconst d_X12_couples_6 (c32 rfl) ?_
  refine E_put d_X12_couples_7 okX12 fl_X12_73 ⟨by decide, rfl⟩ (Or.inl ⟨rfl, rfl⟩) (Or.inl rfl) h (fun σ2 h => ?_)
  refine E_iload_n d_X12_couples_10 rfl ?_
  refine E_i2l d_X12_couples_11 ?_
  refine E_lconst d_X12_couples_12 cl0 ?_
  refine E_ldc2 d_X12_couples_13 kw_X12_457 ?_
  refine bd h (fun r3 q4 h => ?_)
  refine E_cS (as := [(1, v1), (1, 0), (1, 10)]) (st := []) d_X12_couples_16 mk_X12_isIn nl_X12_104 (by omega) ⟨rfl, rfl, Nat.le_of_ble_eq_true rfl⟩ (L_X12_isIn q4) ?_
  refine E_if_ne (tgt := 28) d_X12_couples_19 (by decide) h (fun _ h => ?_) (fun _ h => ?_)
  · refine E_aload_n d_X12_couples_22 rfl (by decide) ?_
    refine E_iconst d_X12_couples_23 (c32 rfl) ?_
    refine bd h (fun r5 q6 h => ?_)
    refine E_cV (as := [(0, 5)]) (st := []) (a := v0) d_X12_couples_24 mk_X12_no nl_X12_85 (by omega) ⟨rfl, rfl, Nat.le_of_ble_eq_true rfl⟩ okX12 rfl (L_X12_no q6) ?_
    refine bd_bz h (fun q7 h => ?_)
    cases h
    exact E_zret d_X12_couples_27 rfl q7
  · refine E_lconst d_X12_couples_28 cl1 ?_
    refine E_lstore_n d_X12_couples_29 (ls' := [(2, v0), (0, v1), (1, 1), (9, 0), (9, 0), (9, 0), (9, 0)]) ⟨by decide, rfl⟩ ?_
    refine E_iconst d_X12_couples_30 (c32 rfl) ?_
    refine E_istore d_X12_couples_31 (ls' := [(2, v0), (0, v1), (1, 1), (9, 0), (0, 0), (9, 0), (9, 0)]) ⟨by decide, rfl⟩ ?_
    exact (L_X12_couples_h33 FU h)
noncomputable def f_X12_couples (v0 v1 : Int) (σ : Mem) : Option (Int × Mem) := if isO Sh 12 v0 = true then f_X12_couples_b0 v0 v1 σ else none
theorem L_X12_couples {o : Int × Mem} {v0 v1 : Int} {σ : Mem} (h : f_X12_couples v0 v1 σ = some o) : (isO Sh 12 v0 = true ∧ Cn mt_X12_couples 3 [(2, v0), (0, v1)] Sh σ (some (0, o.1)) Sh o.2) := ⟨(ite_ok h).1, Cn_of mk_X12_couples.1.2.2.1 (Nat.le_of_ble_eq_true rfl) (fun sc => L_X12_couples_b0 (ite_ok h).2)⟩
theorem d_X12_anyYears_0 : decode mt_X12_anyYears.2.1 0 = .ok (.aload_n 0, 1) := by decide +kernel
theorem d_X12_anyYears_1 : decode mt_X12_anyYears.2.1 1 = .ok (.getfield 35, 3) := by decide +kernel
theorem d_X12_anyYears_4 : decode mt_X12_anyYears.2.1 4 = .ok (.iconst 3, 1) := by decide +kernel
theorem d_X12_anyYears_5 : decode mt_X12_anyYears.2.1 5 = .ok (.iaload, 1) := by decide +kernel
theorem d_X12_anyYears_6 : decode mt_X12_anyYears.2.1 6 = .ok (.iload_n 1, 1) := by decide +kernel
theorem d_X12_anyYears_7 : decode mt_X12_anyYears.2.1 7 = .ok (.iadd, 1) := by decide +kernel
theorem d_X12_anyYears_8 : decode mt_X12_anyYears.2.1 8 = .ok (.sipush 9999, 3) := by decide +kernel
theorem d_X12_anyYears_11 : decode mt_X12_anyYears.2.1 11 = .ok (.if_icmp .le 5, 3) := by decide +kernel
theorem d_X12_anyYears_14 : decode mt_X12_anyYears.2.1 14 = .ok (.iconst 0, 1) := by decide +kernel
theorem d_X12_anyYears_15 : decode mt_X12_anyYears.2.1 15 = .ok (.ireturn, 1) := by decide +kernel
theorem d_X12_anyYears_16 : decode mt_X12_anyYears.2.1 16 = .ok (.iconst 0, 1) := by decide +kernel
theorem d_X12_anyYears_17 : decode mt_X12_anyYears.2.1 17 = .ok (.istore_n 2, 1) := by decide +kernel
theorem d_X12_anyYears_18 : decode mt_X12_anyYears.2.1 18 = .ok (.iload_n 2, 1) := by decide +kernel
theorem d_X12_anyYears_19 : decode mt_X12_anyYears.2.1 19 = .ok (.iload_n 1, 1) := by decide +kernel
theorem d_X12_anyYears_20 : decode mt_X12_anyYears.2.1 20 = .ok (.if_icmp .ge 13, 3) := by decide +kernel
theorem d_X12_anyYears_23 : decode mt_X12_anyYears.2.1 23 = .ok (.aload_n 0, 1) := by decide +kernel
theorem d_X12_anyYears_24 : decode mt_X12_anyYears.2.1 24 = .ok (.invokevirtual 372, 3) := by decide +kernel
theorem d_X12_anyYears_27 : decode mt_X12_anyYears.2.1 27 = .ok (.iinc 2 1, 3) := by decide +kernel
theorem d_X12_anyYears_30 : decode mt_X12_anyYears.2.1 30 = .ok (.goto (-12), 3) := by decide +kernel
theorem d_X12_anyYears_33 : decode mt_X12_anyYears.2.1 33 = .ok (.aload_n 0, 1) := by decide +kernel
theorem d_X12_anyYears_34 : decode mt_X12_anyYears.2.1 34 = .ok (.dup, 1) := by decide +kernel
theorem d_X12_anyYears_35 : decode mt_X12_anyYears.2.1 35 = .ok (.getfield 463, 3) := by decide +kernel
theorem d_X12_anyYears_38 : decode mt_X12_anyYears.2.1 38 = .ok (.iload_n 1, 1) := by decide +kernel
theorem d_X12_anyYears_39 : decode mt_X12_anyYears.2.1 39 = .ok (.iadd, 1) := by decide +kernel
theorem d_X12_anyYears_40 : decode mt_X12_anyYears.2.1 40 = .ok (.putfield 463, 3) := by decide +kernel
theorem d_X12_anyYears_43 : decode mt_X12_anyYears.2.1 43 = .ok (.iconst 1, 1) := by decide +kernel
theorem d_X12_anyYears_44 : decode mt_X12_anyYears.2.1 44 = .ok (.ireturn, 1) := by decide +kernel
noncomputable def f_X12_anyYears_b18 (k18 : (Int → Int → Int → Mem → Option (Int × Mem))) (v0 v1 v2 : Int) (σ : Mem) : Option (Int × Mem) :=
  if v1 ≤ v2 then
    (gf Sh σ 12 v0 41).bind fun x3 =>
    (pf Sh σ 12 v0 41 (w32 (x3 + v1))).bind fun σ4 =>
    some (1, σ4)
  else
    (f_X12_ages v0 σ).bind fun r5 =>
    k18 v0 v1 (w32 (v2 + 1)) r5
theorem L_X12_anyYears_b18 {sc : Nat × (Nat → Int32)} {o : Int × Mem} {k18 : (Int → Int → Int → Mem → Option (Int × Mem))} (hk18 : ∀ {v0 v1 v2 : Int} {σ : Mem}, k18 v0 v1 v2 σ = some o → E sc (Fm Sh (some (0, o.1)) Sh o.2) mt_X12_anyYears 3 Sh Sh 18 [(2, v0), (0, v1), (0, v2)] [] Sh σ) {v0 v1 v2 : Int} {σ : Mem} (h : f_X12_anyYears_b18 k18 v0 v1 v2 σ = some o) : E sc (Fm Sh (some (0, o.1)) Sh o.2) mt_X12_anyYears 3 Sh Sh 18 [(2, v0), (0, v1), (0, v2)] [] Sh σ := by
  unfold f_X12_anyYears_b18 at h
  refine E_iload_n d_X12_anyYears_18 rfl ?_
  refine E_iload_n d_X12_anyYears_19 rfl ?_
  refine E_icmp_ge (tgt := 33) d_X12_anyYears_20 (by decide) h (fun _ h => ?_) (fun _ h => ?_)
  · refine E_aload_n d_X12_anyYears_33 rfl (by decide) ?_
    refine E_dupT d_X12_anyYears_34 (by decide) ?_
    refine E_get d_X12_anyYears_35 okX12 fl_X12_463 ⟨by decide, rfl⟩ h (fun x3 h => ?_)
    refine E_iload_n d_X12_anyYears_38 rfl ?_
    refine E_iadd d_X12_anyYears_39 ?_
    refine E_put d_X12_anyYears_40 okX12 fl_X12_463 ⟨by decide, rfl⟩ (Or.inl ⟨rfl, rfl⟩) (Or.inl rfl) h (fun σ4 h => ?_)
    refine E_iconst d_X12_anyYears_43 (c32 rfl) ?_
    cases h
    exact E_zret d_X12_anyYears_44 rfl (Or.inr rfl)
  · refine E_aload_n d_X12_anyYears_23 rfl (by decide) ?_
    refine bd h (fun r5 q6 h => ?_)
    refine E_cVv (as := []) (st := []) (a := v0) d_X12_anyYears_24 mk_X12_ages nl_X12_372 (by omega) ⟨rfl, rfl, Nat.le_of_ble_eq_true rfl⟩ okX12 rfl (L_X12_ages q6) ?_
    refine E_iinc d_X12_anyYears_27 (ls' := [(2, v0), (0, v1), (0, w32 (v2 + 1))]) rfl ⟨by decide, rfl⟩ ?_
    refine E_goto (tgt := 18) d_X12_anyYears_30 (by decide) ?_
    exact (hk18 h)
noncomputable def f_X12_anyYears_h18 (n : Nat) : Int → Int → Int → Mem → Option (Int × Mem) := Nat.rec (motive := fun _ => Int → Int → Int → Mem → Option (Int × Mem)) (fun _ _ _ _ => none) (fun _ ih => f_X12_anyYears_b18 (ih)) n
theorem L_X12_anyYears_h18 {sc : Nat × (Nat → Int32)} {o : Int × Mem} : ∀ (n : Nat) {v0 v1 v2 : Int} {σ : Mem}, f_X12_anyYears_h18 n v0 v1 v2 σ = some o → E sc (Fm Sh (some (0, o.1)) Sh o.2) mt_X12_anyYears 3 Sh Sh 18 [(2, v0), (0, v1), (0, v2)] [] Sh σ := by
  intro n
  induction n with
  | zero => intro v0 v1 v2 σ h; cases h
  | succ n ih => intro v0 v1 v2 σ h; exact L_X12_anyYears_b18 (@ih) h
noncomputable def f_X12_anyYears_b0 (v0 v1 : Int) (σ : Mem) : Option (Int × Mem) :=
  (gf Sh σ 12 v0 20).bind fun x1 =>
  (al Sh σ 20 x1 3).bind fun x2 =>
  if w32 (x2 + v1) ≤ 9999 then
    f_X12_anyYears_h18 FU v0 v1 0 σ
  else
    some (0, σ)
theorem L_X12_anyYears_b0 {sc : Nat × (Nat → Int32)} {o : Int × Mem} {v0 v1 : Int} {σ : Mem} (h : f_X12_anyYears_b0 v0 v1 σ = some o) : E sc (Fm Sh (some (0, o.1)) Sh o.2) mt_X12_anyYears 3 Sh Sh 0 [(2, v0), (0, v1), (9, 0)] [] Sh σ := by
  unfold f_X12_anyYears_b0 at h
  refine E_aload_n d_X12_anyYears_0 rfl (by decide) ?_
  refine E_get d_X12_anyYears_1 okX12 fl_X12_35 ⟨by decide, rfl⟩ h (fun x1 h => ?_)
  refine E_iconst d_X12_anyYears_4 (c32 rfl) ?_
  refine E_iaload d_X12_anyYears_5 h (fun x2 h => ?_)
  refine E_iload_n d_X12_anyYears_6 rfl ?_
  refine E_iadd d_X12_anyYears_7 ?_
  refine E_sipush d_X12_anyYears_8 (c16 rfl) ?_
  refine E_icmp_le (tgt := 16) d_X12_anyYears_11 (by decide) h (fun _ h => ?_) (fun _ h => ?_)
  · refine E_iconst d_X12_anyYears_16 (c32 rfl) ?_
    refine E_istore_n d_X12_anyYears_17 (ls' := [(2, v0), (0, v1), (0, 0)]) ⟨by decide, rfl⟩ ?_
    exact (L_X12_anyYears_h18 FU h)
  · refine E_iconst d_X12_anyYears_14 (c32 rfl) ?_
    cases h
    exact E_zret d_X12_anyYears_15 rfl (Or.inl rfl)
noncomputable def f_X12_anyYears (v0 v1 : Int) (σ : Mem) : Option (Int × Mem) := if isO Sh 12 v0 = true then f_X12_anyYears_b0 v0 v1 σ else none
theorem L_X12_anyYears {o : Int × Mem} {v0 v1 : Int} {σ : Mem} (h : f_X12_anyYears v0 v1 σ = some o) : (isO Sh 12 v0 = true ∧ Cn mt_X12_anyYears 3 [(2, v0), (0, v1)] Sh σ (some (0, o.1)) Sh o.2) := ⟨(ite_ok h).1, Cn_of mk_X12_anyYears.1.2.2.1 (Nat.le_of_ble_eq_true rfl) (fun sc => L_X12_anyYears_b0 (ite_ok h).2)⟩
theorem d_X12_isCut_0 : decode mt_X12_isCut.2.1 0 = .ok (.aload_n 0, 1) := by decide +kernel
theorem d_X12_isCut_1 : decode mt_X12_isCut.2.1 1 = .ok (.iload_n 1, 1) := by decide +kernel
theorem d_X12_isCut_2 : decode mt_X12_isCut.2.1 2 = .ok (.invokevirtual 305, 3) := by decide +kernel
theorem d_X12_isCut_5 : decode mt_X12_isCut.2.1 5 = .ok (.ifCond .ne 5, 3) := by decide +kernel
theorem d_X12_isCut_8 : decode mt_X12_isCut.2.1 8 = .ok (.iconst 0, 1) := by decide +kernel
theorem d_X12_isCut_9 : decode mt_X12_isCut.2.1 9 = .ok (.ireturn, 1) := by decide +kernel
theorem d_X12_isCut_10 : decode mt_X12_isCut.2.1 10 = .ok (.aload_n 0, 1) := by decide +kernel
theorem d_X12_isCut_11 : decode mt_X12_isCut.2.1 11 = .ok (.getfield 35, 3) := by decide +kernel
theorem d_X12_isCut_14 : decode mt_X12_isCut.2.1 14 = .ok (.bipush 17, 2) := by decide +kernel
theorem d_X12_isCut_16 : decode mt_X12_isCut.2.1 16 = .ok (.iload_n 1, 1) := by decide +kernel
theorem d_X12_isCut_17 : decode mt_X12_isCut.2.1 17 = .ok (.iadd, 1) := by decide +kernel
theorem d_X12_isCut_18 : decode mt_X12_isCut.2.1 18 = .ok (.iload_n 2, 1) := by decide +kernel
theorem d_X12_isCut_19 : decode mt_X12_isCut.2.1 19 = .ok (.iastore, 1) := by decide +kernel
theorem d_X12_isCut_20 : decode mt_X12_isCut.2.1 20 = .ok (.aload_n 0, 1) := by decide +kernel
theorem d_X12_isCut_21 : decode mt_X12_isCut.2.1 21 = .ok (.getfield 35, 3) := by decide +kernel
theorem d_X12_isCut_24 : decode mt_X12_isCut.2.1 24 = .ok (.bipush 27, 2) := by decide +kernel
theorem d_X12_isCut_26 : decode mt_X12_isCut.2.1 26 = .ok (.iload_n 1, 1) := by decide +kernel
theorem d_X12_isCut_27 : decode mt_X12_isCut.2.1 27 = .ok (.iadd, 1) := by decide +kernel
theorem d_X12_isCut_28 : decode mt_X12_isCut.2.1 28 = .ok (.iconst 0, 1) := by decide +kernel
theorem d_X12_isCut_29 : decode mt_X12_isCut.2.1 29 = .ok (.iastore, 1) := by decide +kernel
theorem d_X12_isCut_30 : decode mt_X12_isCut.2.1 30 = .ok (.iconst 1, 1) := by decide +kernel
theorem d_X12_isCut_31 : decode mt_X12_isCut.2.1 31 = .ok (.ireturn, 1) := by decide +kernel
noncomputable def f_X12_isCut_b0 (v0 v1 v2 : Int) (σ : Mem) : Option (Int × Mem) :=
  (f_X12_isStoneAt v0 v1 σ).bind fun r1 =>
  if r1 = 0 then
    some (0, σ)
  else
    (gf Sh σ 12 v0 20).bind fun x3 =>
    (st_ Sh σ 20 x3 (w32 (17 + v1)) v2).bind fun σ4 =>
    (gf Sh σ4 12 v0 20).bind fun x5 =>
    (st_ Sh σ4 20 x5 (w32 (27 + v1)) 0).bind fun σ6 =>
    some (1, σ6)
theorem L_X12_isCut_b0 {sc : Nat × (Nat → Int32)} {o : Int × Mem} {v0 v1 v2 : Int} {σ : Mem} (h : f_X12_isCut_b0 v0 v1 v2 σ = some o) : E sc (Fm Sh (some (0, o.1)) Sh o.2) mt_X12_isCut 2 Sh Sh 0 [(2, v0), (0, v1), (0, v2)] [] Sh σ := by
  unfold f_X12_isCut_b0 at h
  refine E_aload_n d_X12_isCut_0 rfl (by decide) ?_
  refine E_iload_n d_X12_isCut_1 rfl ?_
  refine bd h (fun r1 q2 h => ?_)
  refine E_cV (as := [(0, v1)]) (st := []) (a := v0) d_X12_isCut_2 mk_X12_isStoneAt nl_X12_305 (by omega) ⟨rfl, rfl, Nat.le_of_ble_eq_true rfl⟩ okX12 rfl (L_X12_isStoneAt q2) ?_
  refine E_if_ne (tgt := 10) d_X12_isCut_5 (by decide) h (fun _ h => ?_) (fun _ h => ?_)
  · refine E_iconst d_X12_isCut_8 (c32 rfl) ?_
    cases h
    exact E_zret d_X12_isCut_9 rfl (Or.inl rfl)
  · refine E_aload_n d_X12_isCut_10 rfl (by decide) ?_
    refine E_get d_X12_isCut_11 okX12 fl_X12_35 ⟨by decide, rfl⟩ h (fun x3 h => ?_)
    refine E_bipush d_X12_isCut_14 (c8 rfl) ?_
    refine E_iload_n d_X12_isCut_16 rfl ?_
    refine E_iadd d_X12_isCut_17 ?_
    refine E_iload_n d_X12_isCut_18 rfl ?_
    refine E_iastore d_X12_isCut_19 h (fun σ4 h => ?_)
    refine E_aload_n d_X12_isCut_20 rfl (by decide) ?_
    refine E_get d_X12_isCut_21 okX12 fl_X12_35 ⟨by decide, rfl⟩ h (fun x5 h => ?_)
    refine E_bipush d_X12_isCut_24 (c8 rfl) ?_
    refine E_iload_n d_X12_isCut_26 rfl ?_
    refine E_iadd d_X12_isCut_27 ?_
    refine E_iconst d_X12_isCut_28 (c32 rfl) ?_
    refine E_iastore d_X12_isCut_29 h (fun σ6 h => ?_)
    refine E_iconst d_X12_isCut_30 (c32 rfl) ?_
    cases h
    exact E_zret d_X12_isCut_31 rfl (Or.inr rfl)
noncomputable def f_X12_isCut (v0 v1 v2 : Int) (σ : Mem) : Option (Int × Mem) := if isO Sh 12 v0 = true then f_X12_isCut_b0 v0 v1 v2 σ else none
theorem L_X12_isCut {o : Int × Mem} {v0 v1 v2 : Int} {σ : Mem} (h : f_X12_isCut v0 v1 v2 σ = some o) : (isO Sh 12 v0 = true ∧ Cn mt_X12_isCut 2 [(2, v0), (0, v1), (0, v2)] Sh σ (some (0, o.1)) Sh o.2) := ⟨(ite_ok h).1, Cn_of mk_X12_isCut.1.2.2.1 (Nat.le_of_ble_eq_true rfl) (fun sc => L_X12_isCut_b0 (ite_ok h).2)⟩
theorem d_X12_draw_0 : decode mt_X12_draw.2.1 0 = .ok (.aload_n 0, 1) := by decide +kernel
theorem d_X12_draw_1 : decode mt_X12_draw.2.1 1 = .ok (.aload_n 0, 1) := by decide +kernel
theorem d_X12_draw_2 : decode mt_X12_draw.2.1 2 = .ok (.getfield 459, 3) := by decide +kernel
theorem d_X12_draw_5 : decode mt_X12_draw.2.1 5 = .ok (.sipush 2971, 3) := by decide +kernel
theorem d_X12_draw_8 : decode mt_X12_draw.2.1 8 = .ok (.imul, 1) := by decide +kernel
theorem d_X12_draw_9 : decode mt_X12_draw.2.1 9 = .ok (.sipush 10903, 3) := by decide +kernel
theorem d_X12_draw_12 : decode mt_X12_draw.2.1 12 = .ok (.iadd, 1) := by decide +kernel
theorem d_X12_draw_13 : decode mt_X12_draw.2.1 13 = .ok (.ldc_w 462, 3) := by decide +kernel
theorem d_X12_draw_16 : decode mt_X12_draw.2.1 16 = .ok (.irem, 1) := by decide +kernel
theorem d_X12_draw_17 : decode mt_X12_draw.2.1 17 = .ok (.putfield 459, 3) := by decide +kernel
theorem d_X12_draw_20 : decode mt_X12_draw.2.1 20 = .ok (.aload_n 0, 1) := by decide +kernel
theorem d_X12_draw_21 : decode mt_X12_draw.2.1 21 = .ok (.getfield 459, 3) := by decide +kernel
theorem d_X12_draw_24 : decode mt_X12_draw.2.1 24 = .ok (.bipush 8, 2) := by decide +kernel
theorem d_X12_draw_26 : decode mt_X12_draw.2.1 26 = .ok (.idiv, 1) := by decide +kernel
theorem d_X12_draw_27 : decode mt_X12_draw.2.1 27 = .ok (.iload_n 1, 1) := by decide +kernel
theorem d_X12_draw_28 : decode mt_X12_draw.2.1 28 = .ok (.irem, 1) := by decide +kernel
theorem d_X12_draw_29 : decode mt_X12_draw.2.1 29 = .ok (.ireturn, 1) := by decide +kernel
noncomputable def f_X12_draw_b0 (v0 v1 : Int) (σ : Mem) : Option (Int × Mem) :=
  (gf Sh σ 12 v0 38).bind fun x1 =>
  (pf Sh σ 12 v0 38 (w32 (Int.tmod (w32 (w32 (x1 * 2971) + 10903)) 65536))).bind fun σ2 =>
  (gf Sh σ2 12 v0 38).bind fun x3 =>
  (nz v1).bind fun _ =>
  some (w32 (Int.tmod (w32 (Int.tdiv x3 8)) v1), σ2)
theorem L_X12_draw_b0 {sc : Nat × (Nat → Int32)} {o : Int × Mem} {v0 v1 : Int} {σ : Mem} (h : f_X12_draw_b0 v0 v1 σ = some o) : E sc (Fm Sh (some (0, o.1)) Sh o.2) mt_X12_draw 1 Sh Sh 0 [(2, v0), (0, v1)] [] Sh σ := by
  unfold f_X12_draw_b0 at h
  refine E_aload_n d_X12_draw_0 rfl (by decide) ?_
  refine E_aload_n d_X12_draw_1 rfl (by decide) ?_
  refine E_get d_X12_draw_2 okX12 fl_X12_459 ⟨by decide, rfl⟩ h (fun x1 h => ?_)
  refine E_sipush d_X12_draw_5 (c16 rfl) ?_
  refine E_imul d_X12_draw_8 ?_
  refine E_sipush d_X12_draw_9 (c16 rfl) ?_
  refine E_iadd d_X12_draw_12 ?_
  refine E_ldc_w d_X12_draw_13 kw_X12_462 ?_
  refine E_irem d_X12_draw_16 (by decide) ?_
  refine E_put d_X12_draw_17 okX12 fl_X12_459 ⟨by decide, rfl⟩ (Or.inl ⟨rfl, rfl⟩) (Or.inl rfl) h (fun σ2 h => ?_)
  refine E_aload_n d_X12_draw_20 rfl (by decide) ?_
  refine E_get d_X12_draw_21 okX12 fl_X12_459 ⟨by decide, rfl⟩ h (fun x3 h => ?_)
  refine E_bipush d_X12_draw_24 (c8 rfl) ?_
  refine E_idiv d_X12_draw_26 (by decide) ?_
  refine E_iload_n d_X12_draw_27 rfl ?_
  refine bd_nz h (fun q4 h => ?_)
  refine E_irem d_X12_draw_28 q4 ?_
  cases h
  exact E_iret d_X12_draw_29 rfl
noncomputable def f_X12_draw (v0 v1 : Int) (σ : Mem) : Option (Int × Mem) := if isO Sh 12 v0 = true then f_X12_draw_b0 v0 v1 σ else none
theorem L_X12_draw {o : Int × Mem} {v0 v1 : Int} {σ : Mem} (h : f_X12_draw v0 v1 σ = some o) : (isO Sh 12 v0 = true ∧ Cn mt_X12_draw 1 [(2, v0), (0, v1)] Sh σ (some (0, o.1)) Sh o.2) := ⟨(ite_ok h).1, Cn_of mk_X12_draw.1.2.2.1 (Nat.le_of_ble_eq_true rfl) (fun sc => L_X12_draw_b0 (ite_ok h).2)⟩
theorem d_X12_isAny_0 : decode mt_X12_isAny.2.1 0 = .ok (.aload_n 0, 1) := by decide +kernel
theorem d_X12_isAny_1 : decode mt_X12_isAny.2.1 1 = .ok (.getfield 35, 3) := by decide +kernel
theorem d_X12_isAny_4 : decode mt_X12_isAny.2.1 4 = .ok (.iconst 0, 1) := by decide +kernel
theorem d_X12_isAny_5 : decode mt_X12_isAny.2.1 5 = .ok (.iaload, 1) := by decide +kernel
theorem d_X12_isAny_6 : decode mt_X12_isAny.2.1 6 = .ok (.ifCond .ne 5, 3) := by decide +kernel
theorem d_X12_isAny_9 : decode mt_X12_isAny.2.1 9 = .ok (.iconst 0, 1) := by decide +kernel
theorem d_X12_isAny_10 : decode mt_X12_isAny.2.1 10 = .ok (.ireturn, 1) := by decide +kernel
theorem d_X12_isAny_11 : decode mt_X12_isAny.2.1 11 = .ok (.aload_n 0, 1) := by decide +kernel
theorem d_X12_isAny_12 : decode mt_X12_isAny.2.1 12 = .ok (.bipush 16, 2) := by decide +kernel
theorem d_X12_isAny_14 : decode mt_X12_isAny.2.1 14 = .ok (.invokevirtual 466, 3) := by decide +kernel
theorem d_X12_isAny_17 : decode mt_X12_isAny.2.1 17 = .ok (.aload_n 0, 1) := by decide +kernel
theorem d_X12_isAny_18 : decode mt_X12_isAny.2.1 18 = .ok (.getfield 35, 3) := by decide +kernel
theorem d_X12_isAny_21 : decode mt_X12_isAny.2.1 21 = .ok (.iconst 2, 1) := by decide +kernel
theorem d_X12_isAny_22 : decode mt_X12_isAny.2.1 22 = .ok (.iaload, 1) := by decide +kernel
theorem d_X12_isAny_23 : decode mt_X12_isAny.2.1 23 = .ok (.if_icmp .ge 7, 3) := by decide +kernel
theorem d_X12_isAny_26 : decode mt_X12_isAny.2.1 26 = .ok (.iconst 1, 1) := by decide +kernel
theorem d_X12_isAny_27 : decode mt_X12_isAny.2.1 27 = .ok (.goto 4, 3) := by decide +kernel
theorem d_X12_isAny_30 : decode mt_X12_isAny.2.1 30 = .ok (.iconst 0, 1) := by decide +kernel
theorem d_X12_isAny_31 : decode mt_X12_isAny.2.1 31 = .ok (.istore_n 1, 1) := by decide +kernel
theorem d_X12_isAny_32 : decode mt_X12_isAny.2.1 32 = .ok (.aload_n 0, 1) := by decide +kernel
theorem d_X12_isAny_33 : decode mt_X12_isAny.2.1 33 = .ok (.bipush 40, 2) := by decide +kernel
theorem d_X12_isAny_35 : decode mt_X12_isAny.2.1 35 = .ok (.invokevirtual 466, 3) := by decide +kernel
theorem d_X12_isAny_38 : decode mt_X12_isAny.2.1 38 = .ok (.istore_n 2, 1) := by decide +kernel
theorem d_X12_isAny_39 : decode mt_X12_isAny.2.1 39 = .ok (.aload_n 0, 1) := by decide +kernel
theorem d_X12_isAny_40 : decode mt_X12_isAny.2.1 40 = .ok (.iload_n 2, 1) := by decide +kernel
theorem d_X12_isAny_41 : decode mt_X12_isAny.2.1 41 = .ok (.aload_n 0, 1) := by decide +kernel
theorem d_X12_isAny_42 : decode mt_X12_isAny.2.1 42 = .ok (.aload_n 0, 1) := by decide +kernel
theorem d_X12_isAny_43 : decode mt_X12_isAny.2.1 43 = .ok (.getfield 35, 3) := by decide +kernel
theorem d_X12_isAny_46 : decode mt_X12_isAny.2.1 46 = .ok (.iconst 0, 1) := by decide +kernel
theorem d_X12_isAny_47 : decode mt_X12_isAny.2.1 47 = .ok (.iaload, 1) := by decide +kernel
theorem d_X12_isAny_48 : decode mt_X12_isAny.2.1 48 = .ok (.invokevirtual 466, 3) := by decide +kernel
theorem d_X12_isAny_51 : decode mt_X12_isAny.2.1 51 = .ok (.iload_n 1, 1) := by decide +kernel
theorem d_X12_isAny_52 : decode mt_X12_isAny.2.1 52 = .ok (.invokevirtual 366, 3) := by decide +kernel
theorem d_X12_isAny_55 : decode mt_X12_isAny.2.1 55 = .ok (.ireturn, 1) := by decide +kernel
noncomputable def f_X12_isAny_b31 (v0 s0 : Int) (σ : Mem) : Option (Int × Mem) :=
  (f_X12_draw v0 40 σ).bind fun r7 =>
  (gf Sh r7.2 12 v0 20).bind fun x9 =>
  (al Sh r7.2 20 x9 0).bind fun x10 =>
  (f_X12_draw v0 x10 r7.2).bind fun r11 =>
  (f_X12_tries v0 r7.1 r11.1 s0 r11.2).bind fun r13 =>
  (bz r13.1).bind fun _ =>
  some (r13.1, r13.2)
theorem L_X12_isAny_b31 {sc : Nat × (Nat → Int32)} {o : Int × Mem} {v0 s0 : Int} {σ : Mem} (h : f_X12_isAny_b31 v0 s0 σ = some o) : E sc (Fm Sh (some (0, o.1)) Sh o.2) mt_X12_isAny 7 Sh Sh 31 [(2, v0), (9, 0), (9, 0)] [(0, s0)] Sh σ := by
  unfold f_X12_isAny_b31 at h
  refine E_istore_n d_X12_isAny_31 (ls' := [(2, v0), (0, s0), (9, 0)]) ⟨by decide, rfl⟩ ?_
  refine E_aload_n d_X12_isAny_32 rfl (by decide) ?_
  refine E_bipush d_X12_isAny_33 (c8 rfl) ?_
  refine bd h (fun r7 q8 h => ?_)
  refine E_cV (as := [(0, 40)]) (st := []) (a := v0) d_X12_isAny_35 mk_X12_draw nl_X12_466 (by omega) ⟨rfl, rfl, Nat.le_of_ble_eq_true rfl⟩ okX12 rfl (L_X12_draw q8) ?_
  refine E_istore_n d_X12_isAny_38 (ls' := [(2, v0), (0, s0), (0, r7.1)]) ⟨by decide, rfl⟩ ?_
  refine E_aload_n d_X12_isAny_39 rfl (by decide) ?_
  refine E_iload_n d_X12_isAny_40 rfl ?_
  refine E_aload_n d_X12_isAny_41 rfl (by decide) ?_
  refine E_aload_n d_X12_isAny_42 rfl (by decide) ?_
  refine E_get d_X12_isAny_43 okX12 fl_X12_35 ⟨by decide, rfl⟩ h (fun x9 h => ?_)
  refine E_iconst d_X12_isAny_46 (c32 rfl) ?_
  refine E_iaload d_X12_isAny_47 h (fun x10 h => ?_)
  refine bd h (fun r11 q12 h => ?_)
  refine E_cV (as := [(0, x10)]) (st := [(0, r7.1), (2, v0)]) (a := v0) d_X12_isAny_48 mk_X12_draw nl_X12_466 (by omega) ⟨rfl, rfl, Nat.le_of_ble_eq_true rfl⟩ okX12 rfl (L_X12_draw q12) ?_
  refine E_iload_n d_X12_isAny_51 rfl ?_
  refine bd h (fun r13 q14 h => ?_)
  refine E_cV (as := [(0, r7.1), (0, r11.1), (0, s0)]) (st := []) (a := v0) d_X12_isAny_52 mk_X12_tries nl_X12_366 (by omega) ⟨rfl, rfl, Nat.le_of_ble_eq_true rfl⟩ okX12 rfl (L_X12_tries q14) ?_
  refine bd_bz h (fun q15 h => ?_)
  cases h
  exact E_zret d_X12_isAny_55 rfl q15
noncomputable def f_X12_isAny_b0 (v0 : Int) (σ : Mem) : Option (Int × Mem) :=
  (gf Sh σ 12 v0 20).bind fun x1 =>
  (al Sh σ 20 x1 0).bind fun x2 =>
  if x2 = 0 then
    some (0, σ)
  else
    (f_X12_draw v0 16 σ).bind fun r3 =>
    (gf Sh r3.2 12 v0 20).bind fun x5 =>
    (al Sh r3.2 20 x5 2).bind fun x6 =>
    if x6 ≤ r3.1 then
      f_X12_isAny_b31 v0 0 r3.2
    else
      f_X12_isAny_b31 v0 1 r3.2
theorem L_X12_isAny_b0 {sc : Nat × (Nat → Int32)} {o : Int × Mem} {v0 : Int} {σ : Mem} (h : f_X12_isAny_b0 v0 σ = some o) : E sc (Fm Sh (some (0, o.1)) Sh o.2) mt_X12_isAny 7 Sh Sh 0 [(2, v0), (9, 0), (9, 0)] [] Sh σ := by
  unfold f_X12_isAny_b0 at h
  refine E_aload_n d_X12_isAny_0 rfl (by decide) ?_
  refine E_get d_X12_isAny_1 okX12 fl_X12_35 ⟨by decide, rfl⟩ h (fun x1 h => ?_)
  refine E_iconst d_X12_isAny_4 (c32 rfl) ?_
  refine E_iaload d_X12_isAny_5 h (fun x2 h => ?_)
  refine E_if_ne (tgt := 11) d_X12_isAny_6 (by decide) h (fun _ h => ?_) (fun _ h => ?_)
  · refine E_iconst d_X12_isAny_9 (c32 rfl) ?_
    cases h
    exact E_zret d_X12_isAny_10 rfl (Or.inl rfl)
  · refine E_aload_n d_X12_isAny_11 rfl (by decide) ?_
    refine E_bipush d_X12_isAny_12 (c8 rfl) ?_
    refine bd h (fun r3 q4 h => ?_)
    refine E_cV (as := [(0, 16)]) (st := []) (a := v0) d_X12_isAny_14 mk_X12_draw nl_X12_466 (by omega) ⟨rfl, rfl, Nat.le_of_ble_eq_true rfl⟩ okX12 rfl (L_X12_draw q4) ?_
    refine E_aload_n d_X12_isAny_17 rfl (by decide) ?_
    refine E_get d_X12_isAny_18 okX12 fl_X12_35 ⟨by decide, rfl⟩ h (fun x5 h => ?_)
    refine E_iconst d_X12_isAny_21 (c32 rfl) ?_
    refine E_iaload d_X12_isAny_22 h (fun x6 h => ?_)
    refine E_icmp_ge (tgt := 30) d_X12_isAny_23 (by decide) h (fun _ h => ?_) (fun _ h => ?_)
    · refine E_iconst d_X12_isAny_30 (c32 rfl) ?_
      exact (L_X12_isAny_b31 h)
    · refine E_iconst d_X12_isAny_26 (c32 rfl) ?_
      refine E_goto (tgt := 31) d_X12_isAny_27 (by decide) ?_
      exact (L_X12_isAny_b31 h)
noncomputable def f_X12_isAny (v0 : Int) (σ : Mem) : Option (Int × Mem) := if isO Sh 12 v0 = true then f_X12_isAny_b0 v0 σ else none
theorem L_X12_isAny {o : Int × Mem} {v0 : Int} {σ : Mem} (h : f_X12_isAny v0 σ = some o) : (isO Sh 12 v0 = true ∧ Cn mt_X12_isAny 7 [(2, v0)] Sh σ (some (0, o.1)) Sh o.2) := ⟨(ite_ok h).1, Cn_of mk_X12_isAny.1.2.2.1 (Nat.le_of_ble_eq_true rfl) (fun sc => L_X12_isAny_b0 (ite_ok h).2)⟩
theorem d_X12_does_0 : decode mt_X12_does.2.1 0 = .ok (.aload_n 0, 1) := by decide +kernel
theorem d_X12_does_1 : decode mt_X12_does.2.1 1 = .ok (.getfield 35, 3) := by decide +kernel
theorem d_X12_does_4 : decode mt_X12_does.2.1 4 = .ok (.iload_n 1, 1) := by decide +kernel
theorem d_X12_does_5 : decode mt_X12_does.2.1 5 = .ok (.iaload, 1) := by decide +kernel
theorem d_X12_does_6 : decode mt_X12_does.2.1 6 = .ok (.istore_n 2, 1) := by decide +kernel
theorem d_X12_does_7 : decode mt_X12_does.2.1 7 = .ok (.aload_n 0, 1) := by decide +kernel
theorem d_X12_does_8 : decode mt_X12_does.2.1 8 = .ok (.getfield 35, 3) := by decide +kernel
theorem d_X12_does_11 : decode mt_X12_does.2.1 11 = .ok (.iload_n 1, 1) := by decide +kernel
theorem d_X12_does_12 : decode mt_X12_does.2.1 12 = .ok (.iconst 1, 1) := by decide +kernel
theorem d_X12_does_13 : decode mt_X12_does.2.1 13 = .ok (.iadd, 1) := by decide +kernel
theorem d_X12_does_14 : decode mt_X12_does.2.1 14 = .ok (.iaload, 1) := by decide +kernel
theorem d_X12_does_15 : decode mt_X12_does.2.1 15 = .ok (.istore_n 3, 1) := by decide +kernel
theorem d_X12_does_16 : decode mt_X12_does.2.1 16 = .ok (.iload_n 2, 1) := by decide +kernel
theorem d_X12_does_17 : decode mt_X12_does.2.1 17 = .ok (.ifCond .ne 9, 3) := by decide +kernel
theorem d_X12_does_20 : decode mt_X12_does.2.1 20 = .ok (.aload_n 0, 1) := by decide +kernel
theorem d_X12_does_21 : decode mt_X12_does.2.1 21 = .ok (.iload_n 3, 1) := by decide +kernel
theorem d_X12_does_22 : decode mt_X12_does.2.1 22 = .ok (.invokevirtual 469, 3) := by decide +kernel
theorem d_X12_does_25 : decode mt_X12_does.2.1 25 = .ok (.ireturn, 1) := by decide +kernel
theorem d_X12_does_26 : decode mt_X12_does.2.1 26 = .ok (.iload_n 2, 1) := by decide +kernel
theorem d_X12_does_27 : decode mt_X12_does.2.1 27 = .ok (.iconst 1, 1) := by decide +kernel
theorem d_X12_does_28 : decode mt_X12_does.2.1 28 = .ok (.if_icmp .ne 34, 3) := by decide +kernel
theorem d_X12_does_31 : decode mt_X12_does.2.1 31 = .ok (.aload_n 0, 1) := by decide +kernel
theorem d_X12_does_32 : decode mt_X12_does.2.1 32 = .ok (.iload_n 3, 1) := by decide +kernel
theorem d_X12_does_33 : decode mt_X12_does.2.1 33 = .ok (.aload_n 0, 1) := by decide +kernel
theorem d_X12_does_34 : decode mt_X12_does.2.1 34 = .ok (.getfield 35, 3) := by decide +kernel
theorem d_X12_does_37 : decode mt_X12_does.2.1 37 = .ok (.iload_n 1, 1) := by decide +kernel
theorem d_X12_does_38 : decode mt_X12_does.2.1 38 = .ok (.iconst 2, 1) := by decide +kernel
theorem d_X12_does_39 : decode mt_X12_does.2.1 39 = .ok (.iadd, 1) := by decide +kernel
theorem d_X12_does_40 : decode mt_X12_does.2.1 40 = .ok (.iaload, 1) := by decide +kernel
theorem d_X12_does_41 : decode mt_X12_does.2.1 41 = .ok (.aload_n 0, 1) := by decide +kernel
theorem d_X12_does_42 : decode mt_X12_does.2.1 42 = .ok (.getfield 35, 3) := by decide +kernel
theorem d_X12_does_45 : decode mt_X12_does.2.1 45 = .ok (.iload_n 1, 1) := by decide +kernel
theorem d_X12_does_46 : decode mt_X12_does.2.1 46 = .ok (.iconst 3, 1) := by decide +kernel
theorem d_X12_does_47 : decode mt_X12_does.2.1 47 = .ok (.iadd, 1) := by decide +kernel
theorem d_X12_does_48 : decode mt_X12_does.2.1 48 = .ok (.iaload, 1) := by decide +kernel
theorem d_X12_does_49 : decode mt_X12_does.2.1 49 = .ok (.iconst 1, 1) := by decide +kernel
theorem d_X12_does_50 : decode mt_X12_does.2.1 50 = .ok (.if_icmp .ne 7, 3) := by decide +kernel
theorem d_X12_does_53 : decode mt_X12_does.2.1 53 = .ok (.iconst 1, 1) := by decide +kernel
theorem d_X12_does_54 : decode mt_X12_does.2.1 54 = .ok (.goto 4, 3) := by decide +kernel
theorem d_X12_does_57 : decode mt_X12_does.2.1 57 = .ok (.iconst 0, 1) := by decide +kernel
theorem d_X12_does_58 : decode mt_X12_does.2.1 58 = .ok (.invokevirtual 366, 3) := by decide +kernel
theorem d_X12_does_61 : decode mt_X12_does.2.1 61 = .ok (.ireturn, 1) := by decide +kernel
theorem d_X12_does_62 : decode mt_X12_does.2.1 62 = .ok (.iload_n 2, 1) := by decide +kernel
theorem d_X12_does_63 : decode mt_X12_does.2.1 63 = .ok (.iconst 2, 1) := by decide +kernel
theorem d_X12_does_64 : decode mt_X12_does.2.1 64 = .ok (.if_icmp .eq 8, 3) := by decide +kernel
theorem d_X12_does_67 : decode mt_X12_does.2.1 67 = .ok (.iload_n 2, 1) := by decide +kernel
theorem d_X12_does_68 : decode mt_X12_does.2.1 68 = .ok (.iconst 3, 1) := by decide +kernel
theorem d_X12_does_69 : decode mt_X12_does.2.1 69 = .ok (.if_icmp .ne 20, 3) := by decide +kernel
theorem d_X12_does_72 : decode mt_X12_does.2.1 72 = .ok (.aload_n 0, 1) := by decide +kernel
theorem d_X12_does_73 : decode mt_X12_does.2.1 73 = .ok (.iload_n 3, 1) := by decide +kernel
theorem d_X12_does_74 : decode mt_X12_does.2.1 74 = .ok (.iload_n 2, 1) := by decide +kernel
theorem d_X12_does_75 : decode mt_X12_does.2.1 75 = .ok (.iconst 2, 1) := by decide +kernel
theorem d_X12_does_76 : decode mt_X12_does.2.1 76 = .ok (.if_icmp .ne 8, 3) := by decide +kernel
theorem d_X12_does_79 : decode mt_X12_does.2.1 79 = .ok (.bipush 30, 2) := by decide +kernel
theorem d_X12_does_81 : decode mt_X12_does.2.1 81 = .ok (.goto 4, 3) := by decide +kernel
theorem d_X12_does_84 : decode mt_X12_does.2.1 84 = .ok (.iconst 0, 1) := by decide +kernel
theorem d_X12_does_85 : decode mt_X12_does.2.1 85 = .ok (.invokevirtual 472, 3) := by decide +kernel
theorem d_X12_does_88 : decode mt_X12_does.2.1 88 = .ok (.ireturn, 1) := by decide +kernel
theorem d_X12_does_89 : decode mt_X12_does.2.1 89 = .ok (.iload_n 2, 1) := by decide +kernel
theorem d_X12_does_90 : decode mt_X12_does.2.1 90 = .ok (.iconst 4, 1) := by decide +kernel
theorem d_X12_does_91 : decode mt_X12_does.2.1 91 = .ok (.if_icmp .ne 9, 3) := by decide +kernel
theorem d_X12_does_94 : decode mt_X12_does.2.1 94 = .ok (.aload_n 0, 1) := by decide +kernel
theorem d_X12_does_95 : decode mt_X12_does.2.1 95 = .ok (.iload_n 3, 1) := by decide +kernel
theorem d_X12_does_96 : decode mt_X12_does.2.1 96 = .ok (.invokevirtual 377, 3) := by decide +kernel
theorem d_X12_does_99 : decode mt_X12_does.2.1 99 = .ok (.ireturn, 1) := by decide +kernel
theorem d_X12_does_100 : decode mt_X12_does.2.1 100 = .ok (.iload_n 2, 1) := by decide +kernel
theorem d_X12_does_101 : decode mt_X12_does.2.1 101 = .ok (.iconst 5, 1) := by decide +kernel
theorem d_X12_does_102 : decode mt_X12_does.2.1 102 = .ok (.if_icmp .ne 19, 3) := by decide +kernel
theorem d_X12_does_105 : decode mt_X12_does.2.1 105 = .ok (.aload_n 0, 1) := by decide +kernel
theorem d_X12_does_106 : decode mt_X12_does.2.1 106 = .ok (.iload_n 3, 1) := by decide +kernel
theorem d_X12_does_107 : decode mt_X12_does.2.1 107 = .ok (.aload_n 0, 1) := by decide +kernel
theorem d_X12_does_108 : decode mt_X12_does.2.1 108 = .ok (.getfield 35, 3) := by decide +kernel
theorem d_X12_does_111 : decode mt_X12_does.2.1 111 = .ok (.iload_n 1, 1) := by decide +kernel
theorem d_X12_does_112 : decode mt_X12_does.2.1 112 = .ok (.iconst 2, 1) := by decide +kernel
theorem d_X12_does_113 : decode mt_X12_does.2.1 113 = .ok (.iadd, 1) := by decide +kernel
theorem d_X12_does_114 : decode mt_X12_does.2.1 114 = .ok (.iaload, 1) := by decide +kernel
theorem d_X12_does_115 : decode mt_X12_does.2.1 115 = .ok (.invokevirtual 380, 3) := by decide +kernel
theorem d_X12_does_118 : decode mt_X12_does.2.1 118 = .ok (.goto 7, 3) := by decide +kernel
theorem d_X12_does_121 : decode mt_X12_does.2.1 121 = .ok (.aload_n 0, 1) := by decide +kernel
theorem d_X12_does_122 : decode mt_X12_does.2.1 122 = .ok (.invokevirtual 475, 3) := by decide +kernel
theorem d_X12_does_125 : decode mt_X12_does.2.1 125 = .ok (.ireturn, 1) := by decide +kernel
noncomputable def f_X12_does_b58 (s0 s1 s2 s3 : Int) (σ : Mem) : Option (Int × Mem) :=
  (f_X12_tries s3 s2 s1 s0 σ).bind fun r26 =>
  (bz r26.1).bind fun _ =>
  some (r26.1, r26.2)
theorem L_X12_does_b58 {sc : Nat × (Nat → Int32)} {o : Int × Mem} {s0 s1 s2 s3 : Int} {σ : Mem} (h : f_X12_does_b58 s0 s1 s2 s3 σ = some o) : E sc (Fm Sh (some (0, o.1)) Sh o.2) mt_X12_does 8 Sh Sh 58 [(9, 0), (9, 0), (9, 0), (9, 0)] [(0, s0), (0, s1), (0, s2), (2, s3)] Sh σ := by
  unfold f_X12_does_b58 at h
  refine bd h (fun r26 q27 h => ?_)
  refine E_cV (as := [(0, s2), (0, s1), (0, s0)]) (st := []) (a := s3) d_X12_does_58 mk_X12_tries nl_X12_366 (by omega) ⟨rfl, rfl, Nat.le_of_ble_eq_true rfl⟩ okX12 rfl (L_X12_tries q27) ?_
  refine bd_bz h (fun q28 h => ?_)
  cases h
  exact E_zret d_X12_does_61 rfl q28
noncomputable def f_X12_does_b85 (s0 s1 s2 : Int) (σ : Mem) : Option (Int × Mem) :=
  (f_X12_isCut s2 s1 s0 σ).bind fun r23 =>
  (bz r23.1).bind fun _ =>
  some (r23.1, r23.2)
theorem L_X12_does_b85 {sc : Nat × (Nat → Int32)} {o : Int × Mem} {s0 s1 s2 : Int} {σ : Mem} (h : f_X12_does_b85 s0 s1 s2 σ = some o) : E sc (Fm Sh (some (0, o.1)) Sh o.2) mt_X12_does 8 Sh Sh 85 [(9, 0), (9, 0), (9, 0), (9, 0)] [(0, s0), (0, s1), (2, s2)] Sh σ := by
  unfold f_X12_does_b85 at h
  refine bd h (fun r23 q24 h => ?_)
  refine E_cV (as := [(0, s1), (0, s0)]) (st := []) (a := s2) d_X12_does_85 mk_X12_isCut nl_X12_472 (by omega) ⟨rfl, rfl, Nat.le_of_ble_eq_true rfl⟩ okX12 rfl (L_X12_isCut q24) ?_
  refine bd_bz h (fun q25 h => ?_)
  cases h
  exact E_zret d_X12_does_88 rfl q25
noncomputable def f_X12_does_b72 (v0 v2 v3 : Int) (σ : Mem) : Option (Int × Mem) :=
  if v2 = 2 then
    f_X12_does_b85 30 v3 v0 σ
  else
    f_X12_does_b85 0 v3 v0 σ
theorem L_X12_does_b72 {sc : Nat × (Nat → Int32)} {o : Int × Mem} {v0 v2 v3 : Int} {σ : Mem} (h : f_X12_does_b72 v0 v2 v3 σ = some o) : E sc (Fm Sh (some (0, o.1)) Sh o.2) mt_X12_does 8 Sh Sh 72 [(2, v0), (9, 0), (0, v2), (0, v3)] [] Sh σ := by
  unfold f_X12_does_b72 at h
  refine E_aload_n d_X12_does_72 rfl (by decide) ?_
  refine E_iload_n d_X12_does_73 rfl ?_
  refine E_iload_n d_X12_does_74 rfl ?_
  refine E_iconst d_X12_does_75 (c32 rfl) ?_
  refine E_icmp_ne (tgt := 84) d_X12_does_76 (by decide) h (fun _ h => ?_) (fun _ h => ?_)
  · refine E_bipush d_X12_does_79 (c8 rfl) ?_
    refine E_goto (tgt := 85) d_X12_does_81 (by decide) ?_
    exact E_weak (ls' := [(9, 0), (9, 0), (9, 0), (9, 0)]) ⟨Or.inl rfl, Or.inl rfl, Or.inl rfl, Or.inl rfl, trivial⟩ (L_X12_does_b85 h)
  · refine E_iconst d_X12_does_84 (c32 rfl) ?_
    exact E_weak (ls' := [(9, 0), (9, 0), (9, 0), (9, 0)]) ⟨Or.inl rfl, Or.inl rfl, Or.inl rfl, Or.inl rfl, trivial⟩ (L_X12_does_b85 h)
noncomputable def f_X12_does_b0 (v0 v1 : Int) (σ : Mem) : Option (Int × Mem) :=
  (gf Sh σ 12 v0 20).bind fun x1 =>
  (al Sh σ 20 x1 v1).bind fun x2 =>
  (gf Sh σ 12 v0 20).bind fun x3 =>
  (al Sh σ 20 x3 (w32 (v1 + 1))).bind fun x4 =>
  if x2 = 0 then
    (f_X12_anyYears v0 x4 σ).bind fun r5 =>
    (bz r5.1).bind fun _ =>
    some (r5.1, r5.2)
  else
    if x2 = 1 then
      (gf Sh σ 12 v0 20).bind fun x8 =>
      (al Sh σ 20 x8 (w32 (v1 + 2))).bind fun x9 =>
      (gf Sh σ 12 v0 20).bind fun x10 =>
      (al Sh σ 20 x10 (w32 (v1 + 3))).bind fun x11 =>
      if x11 = 1 then
        f_X12_does_b58 1 x9 x4 v0 σ
      else
        f_X12_does_b58 0 x9 x4 v0 σ
    else
      if x2 = 2 then
        f_X12_does_b72 v0 x2 x4 σ
      else
        if x2 = 3 then
          f_X12_does_b72 v0 x2 x4 σ
        else
          if x2 = 4 then
            (f_X12_clears v0 x4 σ).bind fun r12 =>
            (bz r12.1).bind fun _ =>
            some (r12.1, r12.2)
          else
            if x2 = 5 then
              (gf Sh σ 12 v0 20).bind fun x15 =>
              (al Sh σ 20 x15 (w32 (v1 + 2))).bind fun x16 =>
              (f_X12_flies v0 x4 x16 σ).bind fun r17 =>
              (bz r17.1).bind fun _ =>
              some (r17.1, r17.2)
            else
              (f_X12_isAny v0 σ).bind fun r20 =>
              (bz r20.1).bind fun _ =>
              some (r20.1, r20.2)
theorem L_X12_does_b0 {sc : Nat × (Nat → Int32)} {o : Int × Mem} {v0 v1 : Int} {σ : Mem} (h : f_X12_does_b0 v0 v1 σ = some o) : E sc (Fm Sh (some (0, o.1)) Sh o.2) mt_X12_does 8 Sh Sh 0 [(2, v0), (0, v1), (9, 0), (9, 0)] [] Sh σ := by
  unfold f_X12_does_b0 at h
  refine E_aload_n d_X12_does_0 rfl (by decide) ?_
  refine E_get d_X12_does_1 okX12 fl_X12_35 ⟨by decide, rfl⟩ h (fun x1 h => ?_)
  refine E_iload_n d_X12_does_4 rfl ?_
  refine E_iaload d_X12_does_5 h (fun x2 h => ?_)
  refine E_istore_n d_X12_does_6 (ls' := [(2, v0), (0, v1), (0, x2), (9, 0)]) ⟨by decide, rfl⟩ ?_
  refine E_aload_n d_X12_does_7 rfl (by decide) ?_
  refine E_get d_X12_does_8 okX12 fl_X12_35 ⟨by decide, rfl⟩ h (fun x3 h => ?_)
  refine E_iload_n d_X12_does_11 rfl ?_
  refine E_iconst d_X12_does_12 (c32 rfl) ?_
  refine E_iadd d_X12_does_13 ?_
  refine E_iaload d_X12_does_14 h (fun x4 h => ?_)
  refine E_istore_n d_X12_does_15 (ls' := [(2, v0), (0, v1), (0, x2), (0, x4)]) ⟨by decide, rfl⟩ ?_
  refine E_iload_n d_X12_does_16 rfl ?_
  refine E_if_ne (tgt := 26) d_X12_does_17 (by decide) h (fun _ h => ?_) (fun _ h => ?_)
  · refine E_aload_n d_X12_does_20 rfl (by decide) ?_
    refine E_iload_n d_X12_does_21 rfl ?_
    refine bd h (fun r5 q6 h => ?_)
    refine E_cV (as := [(0, x4)]) (st := []) (a := v0) d_X12_does_22 mk_X12_anyYears nl_X12_469 (by omega) ⟨rfl, rfl, Nat.le_of_ble_eq_true rfl⟩ okX12 rfl (L_X12_anyYears q6) ?_
    refine bd_bz h (fun q7 h => ?_)
    cases h
    exact E_zret d_X12_does_25 rfl q7
  · refine E_iload_n d_X12_does_26 rfl ?_
    refine E_iconst d_X12_does_27 (c32 rfl) ?_
    refine E_icmp_ne (tgt := 62) d_X12_does_28 (by decide) h (fun _ h => ?_) (fun _ h => ?_)
    · refine E_aload_n d_X12_does_31 rfl (by decide) ?_
      refine E_iload_n d_X12_does_32 rfl ?_
      refine E_aload_n d_X12_does_33 rfl (by decide) ?_
      refine E_get d_X12_does_34 okX12 fl_X12_35 ⟨by decide, rfl⟩ h (fun x8 h => ?_)
      refine E_iload_n d_X12_does_37 rfl ?_
      refine E_iconst d_X12_does_38 (c32 rfl) ?_
      refine E_iadd d_X12_does_39 ?_
      refine E_iaload d_X12_does_40 h (fun x9 h => ?_)
      refine E_aload_n d_X12_does_41 rfl (by decide) ?_
      refine E_get d_X12_does_42 okX12 fl_X12_35 ⟨by decide, rfl⟩ h (fun x10 h => ?_)
      refine E_iload_n d_X12_does_45 rfl ?_
      refine E_iconst d_X12_does_46 (c32 rfl) ?_
      refine E_iadd d_X12_does_47 ?_
      refine E_iaload d_X12_does_48 h (fun x11 h => ?_)
      refine E_iconst d_X12_does_49 (c32 rfl) ?_
      refine E_icmp_ne (tgt := 57) d_X12_does_50 (by decide) h (fun _ h => ?_) (fun _ h => ?_)
      · refine E_iconst d_X12_does_53 (c32 rfl) ?_
        refine E_goto (tgt := 58) d_X12_does_54 (by decide) ?_
        exact E_weak (ls' := [(9, 0), (9, 0), (9, 0), (9, 0)]) ⟨Or.inl rfl, Or.inl rfl, Or.inl rfl, Or.inl rfl, trivial⟩ (L_X12_does_b58 h)
      · refine E_iconst d_X12_does_57 (c32 rfl) ?_
        exact E_weak (ls' := [(9, 0), (9, 0), (9, 0), (9, 0)]) ⟨Or.inl rfl, Or.inl rfl, Or.inl rfl, Or.inl rfl, trivial⟩ (L_X12_does_b58 h)
    · refine E_iload_n d_X12_does_62 rfl ?_
      refine E_iconst d_X12_does_63 (c32 rfl) ?_
      refine E_icmp_eq (tgt := 72) d_X12_does_64 (by decide) h (fun _ h => ?_) (fun _ h => ?_)
      · exact E_weak (ls' := [(2, v0), (9, 0), (0, x2), (0, x4)]) ⟨Or.inr rfl, Or.inl rfl, Or.inr rfl, Or.inr rfl, trivial⟩ (L_X12_does_b72 h)
      · refine E_iload_n d_X12_does_67 rfl ?_
        refine E_iconst d_X12_does_68 (c32 rfl) ?_
        refine E_icmp_ne (tgt := 89) d_X12_does_69 (by decide) h (fun _ h => ?_) (fun _ h => ?_)
        · exact E_weak (ls' := [(2, v0), (9, 0), (0, x2), (0, x4)]) ⟨Or.inr rfl, Or.inl rfl, Or.inr rfl, Or.inr rfl, trivial⟩ (L_X12_does_b72 h)
        · refine E_iload_n d_X12_does_89 rfl ?_
          refine E_iconst d_X12_does_90 (c32 rfl) ?_
          refine E_icmp_ne (tgt := 100) d_X12_does_91 (by decide) h (fun _ h => ?_) (fun _ h => ?_)
          · refine E_aload_n d_X12_does_94 rfl (by decide) ?_
            refine E_iload_n d_X12_does_95 rfl ?_
            refine bd h (fun r12 q13 h => ?_)
            refine E_cV (as := [(0, x4)]) (st := []) (a := v0) d_X12_does_96 mk_X12_clears nl_X12_377 (by omega) ⟨rfl, rfl, Nat.le_of_ble_eq_true rfl⟩ okX12 rfl (L_X12_clears q13) ?_
            refine bd_bz h (fun q14 h => ?_)
            cases h
            exact E_zret d_X12_does_99 rfl q14
          · refine E_iload_n d_X12_does_100 rfl ?_
            refine E_iconst d_X12_does_101 (c32 rfl) ?_
            refine E_icmp_ne (tgt := 121) d_X12_does_102 (by decide) h (fun _ h => ?_) (fun _ h => ?_)
            · refine E_aload_n d_X12_does_105 rfl (by decide) ?_
              refine E_iload_n d_X12_does_106 rfl ?_
              refine E_aload_n d_X12_does_107 rfl (by decide) ?_
              refine E_get d_X12_does_108 okX12 fl_X12_35 ⟨by decide, rfl⟩ h (fun x15 h => ?_)
              refine E_iload_n d_X12_does_111 rfl ?_
              refine E_iconst d_X12_does_112 (c32 rfl) ?_
              refine E_iadd d_X12_does_113 ?_
              refine E_iaload d_X12_does_114 h (fun x16 h => ?_)
              refine bd h (fun r17 q18 h => ?_)
              refine E_cV (as := [(0, x4), (0, x16)]) (st := []) (a := v0) d_X12_does_115 mk_X12_flies nl_X12_380 (by omega) ⟨rfl, rfl, Nat.le_of_ble_eq_true rfl⟩ okX12 rfl (L_X12_flies q18) ?_
              refine E_goto (tgt := 125) d_X12_does_118 (by decide) ?_
              refine bd_bz h (fun q19 h => ?_)
              cases h
              exact E_zret d_X12_does_125 rfl q19
            · refine E_aload_n d_X12_does_121 rfl (by decide) ?_
              refine bd h (fun r20 q21 h => ?_)
              refine E_cV (as := []) (st := []) (a := v0) d_X12_does_122 mk_X12_isAny nl_X12_475 (by omega) ⟨rfl, rfl, Nat.le_of_ble_eq_true rfl⟩ okX12 rfl (L_X12_isAny q21) ?_
              refine bd_bz h (fun q22 h => ?_)
              cases h
              exact E_zret d_X12_does_125 rfl q22
noncomputable def f_X12_does (v0 v1 : Int) (σ : Mem) : Option (Int × Mem) := if isO Sh 12 v0 = true then f_X12_does_b0 v0 v1 σ else none
theorem L_X12_does {o : Int × Mem} {v0 v1 : Int} {σ : Mem} (h : f_X12_does v0 v1 σ = some o) : (isO Sh 12 v0 = true ∧ Cn mt_X12_does 8 [(2, v0), (0, v1)] Sh σ (some (0, o.1)) Sh o.2) := ⟨(ite_ok h).1, Cn_of mk_X12_does.1.2.2.1 (Nat.le_of_ble_eq_true rfl) (fun sc => L_X12_does_b0 (ite_ok h).2)⟩
theorem d_X12_isSo_0 : decode mt_X12_isSo.2.1 0 = .ok (.aload_n 0, 1) := by decide +kernel
theorem d_X12_isSo_1 : decode mt_X12_isSo.2.1 1 = .ok (.getfield 35, 3) := by decide +kernel
theorem d_X12_isSo_4 : decode mt_X12_isSo.2.1 4 = .ok (.iload_n 1, 1) := by decide +kernel
theorem d_X12_isSo_5 : decode mt_X12_isSo.2.1 5 = .ok (.iconst 5, 1) := by decide +kernel
theorem d_X12_isSo_6 : decode mt_X12_isSo.2.1 6 = .ok (.iadd, 1) := by decide +kernel
theorem d_X12_isSo_7 : decode mt_X12_isSo.2.1 7 = .ok (.iaload, 1) := by decide +kernel
theorem d_X12_isSo_8 : decode mt_X12_isSo.2.1 8 = .ok (.istore_n 2, 1) := by decide +kernel
theorem d_X12_isSo_9 : decode mt_X12_isSo.2.1 9 = .ok (.aload_n 0, 1) := by decide +kernel
theorem d_X12_isSo_10 : decode mt_X12_isSo.2.1 10 = .ok (.getfield 35, 3) := by decide +kernel
theorem d_X12_isSo_13 : decode mt_X12_isSo.2.1 13 = .ok (.iload_n 1, 1) := by decide +kernel
theorem d_X12_isSo_14 : decode mt_X12_isSo.2.1 14 = .ok (.iconst 1, 1) := by decide +kernel
theorem d_X12_isSo_15 : decode mt_X12_isSo.2.1 15 = .ok (.iadd, 1) := by decide +kernel
theorem d_X12_isSo_16 : decode mt_X12_isSo.2.1 16 = .ok (.iaload, 1) := by decide +kernel
theorem d_X12_isSo_17 : decode mt_X12_isSo.2.1 17 = .ok (.istore_n 3, 1) := by decide +kernel
theorem d_X12_isSo_18 : decode mt_X12_isSo.2.1 18 = .ok (.iload_n 2, 1) := by decide +kernel
theorem d_X12_isSo_19 : decode mt_X12_isSo.2.1 19 = .ok (.ifCond .ne 41, 3) := by decide +kernel
theorem d_X12_isSo_22 : decode mt_X12_isSo.2.1 22 = .ok (.aload_n 0, 1) := by decide +kernel
theorem d_X12_isSo_23 : decode mt_X12_isSo.2.1 23 = .ok (.iload_n 3, 1) := by decide +kernel
theorem d_X12_isSo_24 : decode mt_X12_isSo.2.1 24 = .ok (.invokevirtual 305, 3) := by decide +kernel
theorem d_X12_isSo_27 : decode mt_X12_isSo.2.1 27 = .ok (.ifCond .eq 31, 3) := by decide +kernel
theorem d_X12_isSo_30 : decode mt_X12_isSo.2.1 30 = .ok (.aload_n 0, 1) := by decide +kernel
theorem d_X12_isSo_31 : decode mt_X12_isSo.2.1 31 = .ok (.aload_n 0, 1) := by decide +kernel
theorem d_X12_isSo_32 : decode mt_X12_isSo.2.1 32 = .ok (.getfield 35, 3) := by decide +kernel
theorem d_X12_isSo_35 : decode mt_X12_isSo.2.1 35 = .ok (.iload_n 1, 1) := by decide +kernel
theorem d_X12_isSo_36 : decode mt_X12_isSo.2.1 36 = .ok (.iconst 3, 1) := by decide +kernel
theorem d_X12_isSo_37 : decode mt_X12_isSo.2.1 37 = .ok (.iadd, 1) := by decide +kernel
theorem d_X12_isSo_38 : decode mt_X12_isSo.2.1 38 = .ok (.iaload, 1) := by decide +kernel
theorem d_X12_isSo_39 : decode mt_X12_isSo.2.1 39 = .ok (.aload_n 0, 1) := by decide +kernel
theorem d_X12_isSo_40 : decode mt_X12_isSo.2.1 40 = .ok (.getfield 35, 3) := by decide +kernel
theorem d_X12_isSo_43 : decode mt_X12_isSo.2.1 43 = .ok (.iload_n 1, 1) := by decide +kernel
theorem d_X12_isSo_44 : decode mt_X12_isSo.2.1 44 = .ok (.iconst 2, 1) := by decide +kernel
theorem d_X12_isSo_45 : decode mt_X12_isSo.2.1 45 = .ok (.iadd, 1) := by decide +kernel
theorem d_X12_isSo_46 : decode mt_X12_isSo.2.1 46 = .ok (.iaload, 1) := by decide +kernel
theorem d_X12_isSo_47 : decode mt_X12_isSo.2.1 47 = .ok (.iload_n 3, 1) := by decide +kernel
theorem d_X12_isSo_48 : decode mt_X12_isSo.2.1 48 = .ok (.invokevirtual 398, 3) := by decide +kernel
theorem d_X12_isSo_51 : decode mt_X12_isSo.2.1 51 = .ok (.ifCond .eq 7, 3) := by decide +kernel
theorem d_X12_isSo_54 : decode mt_X12_isSo.2.1 54 = .ok (.iconst 1, 1) := by decide +kernel
theorem d_X12_isSo_55 : decode mt_X12_isSo.2.1 55 = .ok (.goto 4, 3) := by decide +kernel
theorem d_X12_isSo_58 : decode mt_X12_isSo.2.1 58 = .ok (.iconst 0, 1) := by decide +kernel
theorem d_X12_isSo_59 : decode mt_X12_isSo.2.1 59 = .ok (.ireturn, 1) := by decide +kernel
theorem d_X12_isSo_60 : decode mt_X12_isSo.2.1 60 = .ok (.iload_n 2, 1) := by decide +kernel
theorem d_X12_isSo_61 : decode mt_X12_isSo.2.1 61 = .ok (.iconst 1, 1) := by decide +kernel
theorem d_X12_isSo_62 : decode mt_X12_isSo.2.1 62 = .ok (.if_icmp .ne 9, 3) := by decide +kernel
theorem d_X12_isSo_65 : decode mt_X12_isSo.2.1 65 = .ok (.aload_n 0, 1) := by decide +kernel
theorem d_X12_isSo_66 : decode mt_X12_isSo.2.1 66 = .ok (.iload_n 3, 1) := by decide +kernel
theorem d_X12_isSo_67 : decode mt_X12_isSo.2.1 67 = .ok (.invokevirtual 305, 3) := by decide +kernel
theorem d_X12_isSo_70 : decode mt_X12_isSo.2.1 70 = .ok (.ireturn, 1) := by decide +kernel
theorem d_X12_isSo_71 : decode mt_X12_isSo.2.1 71 = .ok (.aload_n 0, 1) := by decide +kernel
theorem d_X12_isSo_72 : decode mt_X12_isSo.2.1 72 = .ok (.iload_n 3, 1) := by decide +kernel
theorem d_X12_isSo_73 : decode mt_X12_isSo.2.1 73 = .ok (.invokevirtual 305, 3) := by decide +kernel
theorem d_X12_isSo_76 : decode mt_X12_isSo.2.1 76 = .ok (.ifCond .eq 15, 3) := by decide +kernel
theorem d_X12_isSo_79 : decode mt_X12_isSo.2.1 79 = .ok (.aload_n 0, 1) := by decide +kernel
theorem d_X12_isSo_80 : decode mt_X12_isSo.2.1 80 = .ok (.getfield 35, 3) := by decide +kernel
theorem d_X12_isSo_83 : decode mt_X12_isSo.2.1 83 = .ok (.bipush 27, 2) := by decide +kernel
theorem d_X12_isSo_85 : decode mt_X12_isSo.2.1 85 = .ok (.iload_n 3, 1) := by decide +kernel
theorem d_X12_isSo_86 : decode mt_X12_isSo.2.1 86 = .ok (.iadd, 1) := by decide +kernel
theorem d_X12_isSo_87 : decode mt_X12_isSo.2.1 87 = .ok (.iaload, 1) := by decide +kernel
theorem d_X12_isSo_88 : decode mt_X12_isSo.2.1 88 = .ok (.goto 4, 3) := by decide +kernel
theorem d_X12_isSo_91 : decode mt_X12_isSo.2.1 91 = .ok (.iconst 0, 1) := by decide +kernel
theorem d_X12_isSo_92 : decode mt_X12_isSo.2.1 92 = .ok (.istore 4, 2) := by decide +kernel
theorem d_X12_isSo_94 : decode mt_X12_isSo.2.1 94 = .ok (.aload_n 0, 1) := by decide +kernel
theorem d_X12_isSo_95 : decode mt_X12_isSo.2.1 95 = .ok (.getfield 35, 3) := by decide +kernel
theorem d_X12_isSo_98 : decode mt_X12_isSo.2.1 98 = .ok (.iload_n 1, 1) := by decide +kernel
theorem d_X12_isSo_99 : decode mt_X12_isSo.2.1 99 = .ok (.bipush 7, 2) := by decide +kernel
theorem d_X12_isSo_101 : decode mt_X12_isSo.2.1 101 = .ok (.iadd, 1) := by decide +kernel
theorem d_X12_isSo_102 : decode mt_X12_isSo.2.1 102 = .ok (.iaload, 1) := by decide +kernel
theorem d_X12_isSo_103 : decode mt_X12_isSo.2.1 103 = .ok (.bipush 60, 2) := by decide +kernel
theorem d_X12_isSo_105 : decode mt_X12_isSo.2.1 105 = .ok (.if_icmp .ne 25, 3) := by decide +kernel
theorem d_X12_isSo_108 : decode mt_X12_isSo.2.1 108 = .ok (.iload 4, 2) := by decide +kernel
theorem d_X12_isSo_110 : decode mt_X12_isSo.2.1 110 = .ok (.aload_n 0, 1) := by decide +kernel
theorem d_X12_isSo_111 : decode mt_X12_isSo.2.1 111 = .ok (.getfield 35, 3) := by decide +kernel
theorem d_X12_isSo_114 : decode mt_X12_isSo.2.1 114 = .ok (.iload_n 1, 1) := by decide +kernel
theorem d_X12_isSo_115 : decode mt_X12_isSo.2.1 115 = .ok (.bipush 6, 2) := by decide +kernel
theorem d_X12_isSo_117 : decode mt_X12_isSo.2.1 117 = .ok (.iadd, 1) := by decide +kernel
theorem d_X12_isSo_118 : decode mt_X12_isSo.2.1 118 = .ok (.iaload, 1) := by decide +kernel
theorem d_X12_isSo_119 : decode mt_X12_isSo.2.1 119 = .ok (.if_icmp .ge 7, 3) := by decide +kernel
theorem d_X12_isSo_122 : decode mt_X12_isSo.2.1 122 = .ok (.iconst 1, 1) := by decide +kernel
theorem d_X12_isSo_123 : decode mt_X12_isSo.2.1 123 = .ok (.goto 62, 3) := by decide +kernel
theorem d_X12_isSo_126 : decode mt_X12_isSo.2.1 126 = .ok (.iconst 0, 1) := by decide +kernel
theorem d_X12_isSo_127 : decode mt_X12_isSo.2.1 127 = .ok (.goto 58, 3) := by decide +kernel
theorem d_X12_isSo_130 : decode mt_X12_isSo.2.1 130 = .ok (.aload_n 0, 1) := by decide +kernel
theorem d_X12_isSo_131 : decode mt_X12_isSo.2.1 131 = .ok (.getfield 35, 3) := by decide +kernel
theorem d_X12_isSo_134 : decode mt_X12_isSo.2.1 134 = .ok (.iload_n 1, 1) := by decide +kernel
theorem d_X12_isSo_135 : decode mt_X12_isSo.2.1 135 = .ok (.bipush 7, 2) := by decide +kernel
theorem d_X12_isSo_137 : decode mt_X12_isSo.2.1 137 = .ok (.iadd, 1) := by decide +kernel
theorem d_X12_isSo_138 : decode mt_X12_isSo.2.1 138 = .ok (.iaload, 1) := by decide +kernel
theorem d_X12_isSo_139 : decode mt_X12_isSo.2.1 139 = .ok (.bipush 62, 2) := by decide +kernel
theorem d_X12_isSo_141 : decode mt_X12_isSo.2.1 141 = .ok (.if_icmp .ne 25, 3) := by decide +kernel
theorem d_X12_isSo_144 : decode mt_X12_isSo.2.1 144 = .ok (.iload 4, 2) := by decide +kernel
theorem d_X12_isSo_146 : decode mt_X12_isSo.2.1 146 = .ok (.aload_n 0, 1) := by decide +kernel
theorem d_X12_isSo_147 : decode mt_X12_isSo.2.1 147 = .ok (.getfield 35, 3) := by decide +kernel
theorem d_X12_isSo_150 : decode mt_X12_isSo.2.1 150 = .ok (.iload_n 1, 1) := by decide +kernel
theorem d_X12_isSo_151 : decode mt_X12_isSo.2.1 151 = .ok (.bipush 6, 2) := by decide +kernel
theorem d_X12_isSo_153 : decode mt_X12_isSo.2.1 153 = .ok (.iadd, 1) := by decide +kernel
theorem d_X12_isSo_154 : decode mt_X12_isSo.2.1 154 = .ok (.iaload, 1) := by decide +kernel
theorem d_X12_isSo_155 : decode mt_X12_isSo.2.1 155 = .ok (.if_icmp .le 7, 3) := by decide +kernel
theorem d_X12_isSo_158 : decode mt_X12_isSo.2.1 158 = .ok (.iconst 1, 1) := by decide +kernel
theorem d_X12_isSo_159 : decode mt_X12_isSo.2.1 159 = .ok (.goto 26, 3) := by decide +kernel
theorem d_X12_isSo_162 : decode mt_X12_isSo.2.1 162 = .ok (.iconst 0, 1) := by decide +kernel
theorem d_X12_isSo_163 : decode mt_X12_isSo.2.1 163 = .ok (.goto 22, 3) := by decide +kernel
theorem d_X12_isSo_166 : decode mt_X12_isSo.2.1 166 = .ok (.iload 4, 2) := by decide +kernel
theorem d_X12_isSo_168 : decode mt_X12_isSo.2.1 168 = .ok (.aload_n 0, 1) := by decide +kernel
theorem d_X12_isSo_169 : decode mt_X12_isSo.2.1 169 = .ok (.getfield 35, 3) := by decide +kernel
theorem d_X12_isSo_172 : decode mt_X12_isSo.2.1 172 = .ok (.iload_n 1, 1) := by decide +kernel
theorem d_X12_isSo_173 : decode mt_X12_isSo.2.1 173 = .ok (.bipush 6, 2) := by decide +kernel
theorem d_X12_isSo_175 : decode mt_X12_isSo.2.1 175 = .ok (.iadd, 1) := by decide +kernel
theorem d_X12_isSo_176 : decode mt_X12_isSo.2.1 176 = .ok (.iaload, 1) := by decide +kernel
theorem d_X12_isSo_177 : decode mt_X12_isSo.2.1 177 = .ok (.if_icmp .ne 7, 3) := by decide +kernel
theorem d_X12_isSo_180 : decode mt_X12_isSo.2.1 180 = .ok (.iconst 1, 1) := by decide +kernel
theorem d_X12_isSo_181 : decode mt_X12_isSo.2.1 181 = .ok (.goto 4, 3) := by decide +kernel
theorem d_X12_isSo_184 : decode mt_X12_isSo.2.1 184 = .ok (.iconst 0, 1) := by decide +kernel
theorem d_X12_isSo_185 : decode mt_X12_isSo.2.1 185 = .ok (.ireturn, 1) := by decide +kernel
noncomputable def f_X12_isSo_b92 (v0 v1 s0 : Int) (σ : Mem) : Option (Int) :=
  (gf Sh σ 12 v0 20).bind fun x20 =>
  (al Sh σ 20 x20 (w32 (v1 + 7))).bind fun x21 =>
  if x21 = 60 then
    (gf Sh σ 12 v0 20).bind fun x22 =>
    (al Sh σ 20 x22 (w32 (v1 + 6))).bind fun x23 =>
    if x23 ≤ s0 then
      some (0)
    else
      some (1)
  else
    (gf Sh σ 12 v0 20).bind fun x24 =>
    (al Sh σ 20 x24 (w32 (v1 + 7))).bind fun x25 =>
    if x25 = 62 then
      (gf Sh σ 12 v0 20).bind fun x26 =>
      (al Sh σ 20 x26 (w32 (v1 + 6))).bind fun x27 =>
      if s0 ≤ x27 then
        some (0)
      else
        some (1)
    else
      (gf Sh σ 12 v0 20).bind fun x28 =>
      (al Sh σ 20 x28 (w32 (v1 + 6))).bind fun x29 =>
      if s0 = x29 then
        some (1)
      else
        some (0)
theorem L_X12_isSo_b92 {sc : Nat × (Nat → Int32)} {o : Int} {σ : Mem} {v0 v1 s0 : Int} (h : f_X12_isSo_b92 v0 v1 s0 σ = some o) : E sc (Fm Sh (some (0, o)) Sh σ) mt_X12_isSo 5 Sh Sh 92 [(2, v0), (0, v1), (9, 0), (9, 0), (9, 0)] [(0, s0)] Sh σ := by
  unfold f_X12_isSo_b92 at h
  refine E_istore d_X12_isSo_92 (ls' := [(2, v0), (0, v1), (9, 0), (9, 0), (0, s0)]) ⟨by decide, rfl⟩ ?_
  refine E_aload_n d_X12_isSo_94 rfl (by decide) ?_
  refine E_get d_X12_isSo_95 okX12 fl_X12_35 ⟨by decide, rfl⟩ h (fun x20 h => ?_)
  refine E_iload_n d_X12_isSo_98 rfl ?_
  refine E_bipush d_X12_isSo_99 (c8 rfl) ?_
  refine E_iadd d_X12_isSo_101 ?_
  refine E_iaload d_X12_isSo_102 h (fun x21 h => ?_)
  refine E_bipush d_X12_isSo_103 (c8 rfl) ?_
  refine E_icmp_ne (tgt := 130) d_X12_isSo_105 (by decide) h (fun _ h => ?_) (fun _ h => ?_)
  · refine E_iload d_X12_isSo_108 rfl ?_
    refine E_aload_n d_X12_isSo_110 rfl (by decide) ?_
    refine E_get d_X12_isSo_111 okX12 fl_X12_35 ⟨by decide, rfl⟩ h (fun x22 h => ?_)
    refine E_iload_n d_X12_isSo_114 rfl ?_
    refine E_bipush d_X12_isSo_115 (c8 rfl) ?_
    refine E_iadd d_X12_isSo_117 ?_
    refine E_iaload d_X12_isSo_118 h (fun x23 h => ?_)
    refine E_icmp_ge (tgt := 126) d_X12_isSo_119 (by decide) h (fun _ h => ?_) (fun _ h => ?_)
    · refine E_iconst d_X12_isSo_126 (c32 rfl) ?_
      refine E_goto (tgt := 185) d_X12_isSo_127 (by decide) ?_
      cases h
      exact E_zret d_X12_isSo_185 rfl (Or.inl rfl)
    · refine E_iconst d_X12_isSo_122 (c32 rfl) ?_
      refine E_goto (tgt := 185) d_X12_isSo_123 (by decide) ?_
      cases h
      exact E_zret d_X12_isSo_185 rfl (Or.inr rfl)
  · refine E_aload_n d_X12_isSo_130 rfl (by decide) ?_
    refine E_get d_X12_isSo_131 okX12 fl_X12_35 ⟨by decide, rfl⟩ h (fun x24 h => ?_)
    refine E_iload_n d_X12_isSo_134 rfl ?_
    refine E_bipush d_X12_isSo_135 (c8 rfl) ?_
    refine E_iadd d_X12_isSo_137 ?_
    refine E_iaload d_X12_isSo_138 h (fun x25 h => ?_)
    refine E_bipush d_X12_isSo_139 (c8 rfl) ?_
    refine E_icmp_ne (tgt := 166) d_X12_isSo_141 (by decide) h (fun _ h => ?_) (fun _ h => ?_)
    · refine E_iload d_X12_isSo_144 rfl ?_
      refine E_aload_n d_X12_isSo_146 rfl (by decide) ?_
      refine E_get d_X12_isSo_147 okX12 fl_X12_35 ⟨by decide, rfl⟩ h (fun x26 h => ?_)
      refine E_iload_n d_X12_isSo_150 rfl ?_
      refine E_bipush d_X12_isSo_151 (c8 rfl) ?_
      refine E_iadd d_X12_isSo_153 ?_
      refine E_iaload d_X12_isSo_154 h (fun x27 h => ?_)
      refine E_icmp_le (tgt := 162) d_X12_isSo_155 (by decide) h (fun _ h => ?_) (fun _ h => ?_)
      · refine E_iconst d_X12_isSo_162 (c32 rfl) ?_
        refine E_goto (tgt := 185) d_X12_isSo_163 (by decide) ?_
        cases h
        exact E_zret d_X12_isSo_185 rfl (Or.inl rfl)
      · refine E_iconst d_X12_isSo_158 (c32 rfl) ?_
        refine E_goto (tgt := 185) d_X12_isSo_159 (by decide) ?_
        cases h
        exact E_zret d_X12_isSo_185 rfl (Or.inr rfl)
    · refine E_iload d_X12_isSo_166 rfl ?_
      refine E_aload_n d_X12_isSo_168 rfl (by decide) ?_
      refine E_get d_X12_isSo_169 okX12 fl_X12_35 ⟨by decide, rfl⟩ h (fun x28 h => ?_)
      refine E_iload_n d_X12_isSo_172 rfl ?_
      refine E_bipush d_X12_isSo_173 (c8 rfl) ?_
      refine E_iadd d_X12_isSo_175 ?_
      refine E_iaload d_X12_isSo_176 h (fun x29 h => ?_)
      refine E_icmp_ne (tgt := 184) d_X12_isSo_177 (by decide) h (fun _ h => ?_) (fun _ h => ?_)
      · refine E_iconst d_X12_isSo_180 (c32 rfl) ?_
        refine E_goto (tgt := 185) d_X12_isSo_181 (by decide) ?_
        cases h
        exact E_zret d_X12_isSo_185 rfl (Or.inr rfl)
      · refine E_iconst d_X12_isSo_184 (c32 rfl) ?_
        cases h
        exact E_zret d_X12_isSo_185 rfl (Or.inl rfl)
noncomputable def f_X12_isSo_b0 (v0 v1 : Int) (σ : Mem) : Option (Int) :=
  (gf Sh σ 12 v0 20).bind fun x1 =>
  (al Sh σ 20 x1 (w32 (v1 + 5))).bind fun x2 =>
  (gf Sh σ 12 v0 20).bind fun x3 =>
  (al Sh σ 20 x3 (w32 (v1 + 1))).bind fun x4 =>
  if x2 = 0 then
    (f_X12_isStoneAt v0 x4 σ).bind fun r5 =>
    if r5 = 0 then
      some (0)
    else
      (gf Sh σ 12 v0 20).bind fun x7 =>
      (al Sh σ 20 x7 (w32 (v1 + 3))).bind fun x8 =>
      (gf Sh σ 12 v0 20).bind fun x9 =>
      (al Sh σ 20 x9 (w32 (v1 + 2))).bind fun x10 =>
      (f_X12_turns v0 x8 x10 x4 σ).bind fun r11 =>
      if r11 = 0 then
        some (0)
      else
        some (1)
  else
    if x2 = 1 then
      (f_X12_isStoneAt v0 x4 σ).bind fun r13 =>
      (bz r13).bind fun _ =>
      some (r13)
    else
      (f_X12_isStoneAt v0 x4 σ).bind fun r16 =>
      if r16 = 0 then
        f_X12_isSo_b92 v0 v1 0 σ
      else
        (gf Sh σ 12 v0 20).bind fun x18 =>
        (al Sh σ 20 x18 (w32 (27 + x4))).bind fun x19 =>
        f_X12_isSo_b92 v0 v1 x19 σ
theorem L_X12_isSo_b0 {sc : Nat × (Nat → Int32)} {o : Int} {σ : Mem} {v0 v1 : Int} (h : f_X12_isSo_b0 v0 v1 σ = some o) : E sc (Fm Sh (some (0, o)) Sh σ) mt_X12_isSo 5 Sh Sh 0 [(2, v0), (0, v1), (9, 0), (9, 0), (9, 0)] [] Sh σ := by
  unfold f_X12_isSo_b0 at h
  refine E_aload_n d_X12_isSo_0 rfl (by decide) ?_
  refine E_get d_X12_isSo_1 okX12 fl_X12_35 ⟨by decide, rfl⟩ h (fun x1 h => ?_)
  refine E_iload_n d_X12_isSo_4 rfl ?_
  refine E_iconst d_X12_isSo_5 (c32 rfl) ?_
  refine E_iadd d_X12_isSo_6 ?_
  refine E_iaload d_X12_isSo_7 h (fun x2 h => ?_)
  refine E_istore_n d_X12_isSo_8 (ls' := [(2, v0), (0, v1), (0, x2), (9, 0), (9, 0)]) ⟨by decide, rfl⟩ ?_
  refine E_aload_n d_X12_isSo_9 rfl (by decide) ?_
  refine E_get d_X12_isSo_10 okX12 fl_X12_35 ⟨by decide, rfl⟩ h (fun x3 h => ?_)
  refine E_iload_n d_X12_isSo_13 rfl ?_
  refine E_iconst d_X12_isSo_14 (c32 rfl) ?_
  refine E_iadd d_X12_isSo_15 ?_
  refine E_iaload d_X12_isSo_16 h (fun x4 h => ?_)
  refine E_istore_n d_X12_isSo_17 (ls' := [(2, v0), (0, v1), (0, x2), (0, x4), (9, 0)]) ⟨by decide, rfl⟩ ?_
  refine E_iload_n d_X12_isSo_18 rfl ?_
  refine E_if_ne (tgt := 60) d_X12_isSo_19 (by decide) h (fun _ h => ?_) (fun _ h => ?_)
  · refine E_aload_n d_X12_isSo_22 rfl (by decide) ?_
    refine E_iload_n d_X12_isSo_23 rfl ?_
    refine bd h (fun r5 q6 h => ?_)
    refine E_cV (as := [(0, x4)]) (st := []) (a := v0) d_X12_isSo_24 mk_X12_isStoneAt nl_X12_305 (by omega) ⟨rfl, rfl, Nat.le_of_ble_eq_true rfl⟩ okX12 rfl (L_X12_isStoneAt q6) ?_
    refine E_if_eq (tgt := 58) d_X12_isSo_27 (by decide) h (fun _ h => ?_) (fun _ h => ?_)
    · refine E_iconst d_X12_isSo_58 (c32 rfl) ?_
      cases h
      exact E_zret d_X12_isSo_59 rfl (Or.inl rfl)
    · refine E_aload_n d_X12_isSo_30 rfl (by decide) ?_
      refine E_aload_n d_X12_isSo_31 rfl (by decide) ?_
      refine E_get d_X12_isSo_32 okX12 fl_X12_35 ⟨by decide, rfl⟩ h (fun x7 h => ?_)
      refine E_iload_n d_X12_isSo_35 rfl ?_
      refine E_iconst d_X12_isSo_36 (c32 rfl) ?_
      refine E_iadd d_X12_isSo_37 ?_
      refine E_iaload d_X12_isSo_38 h (fun x8 h => ?_)
      refine E_aload_n d_X12_isSo_39 rfl (by decide) ?_
      refine E_get d_X12_isSo_40 okX12 fl_X12_35 ⟨by decide, rfl⟩ h (fun x9 h => ?_)
      refine E_iload_n d_X12_isSo_43 rfl ?_
      refine E_iconst d_X12_isSo_44 (c32 rfl) ?_
      refine E_iadd d_X12_isSo_45 ?_
      refine E_iaload d_X12_isSo_46 h (fun x10 h => ?_)
      refine E_iload_n d_X12_isSo_47 rfl ?_
      refine bd h (fun r11 q12 h => ?_)
      refine E_cV (as := [(0, x8), (0, x10), (0, x4)]) (st := []) (a := v0) d_X12_isSo_48 mk_X12_turns nl_X12_398 (by omega) ⟨rfl, rfl, Nat.le_of_ble_eq_true rfl⟩ okX12 rfl (L_X12_turns q12) ?_
      refine E_if_eq (tgt := 58) d_X12_isSo_51 (by decide) h (fun _ h => ?_) (fun _ h => ?_)
      · refine E_iconst d_X12_isSo_58 (c32 rfl) ?_
        cases h
        exact E_zret d_X12_isSo_59 rfl (Or.inl rfl)
      · refine E_iconst d_X12_isSo_54 (c32 rfl) ?_
        refine E_goto (tgt := 59) d_X12_isSo_55 (by decide) ?_
        cases h
        exact E_zret d_X12_isSo_59 rfl (Or.inr rfl)
  · refine E_iload_n d_X12_isSo_60 rfl ?_
    refine E_iconst d_X12_isSo_61 (c32 rfl) ?_
    refine E_icmp_ne (tgt := 71) d_X12_isSo_62 (by decide) h (fun _ h => ?_) (fun _ h => ?_)
    · refine E_aload_n d_X12_isSo_65 rfl (by decide) ?_
      refine E_iload_n d_X12_isSo_66 rfl ?_
      refine bd h (fun r13 q14 h => ?_)
      refine E_cV (as := [(0, x4)]) (st := []) (a := v0) d_X12_isSo_67 mk_X12_isStoneAt nl_X12_305 (by omega) ⟨rfl, rfl, Nat.le_of_ble_eq_true rfl⟩ okX12 rfl (L_X12_isStoneAt q14) ?_
      refine bd_bz h (fun q15 h => ?_)
      cases h
      exact E_zret d_X12_isSo_70 rfl q15
    · refine E_aload_n d_X12_isSo_71 rfl (by decide) ?_
      refine E_iload_n d_X12_isSo_72 rfl ?_
      refine bd h (fun r16 q17 h => ?_)
      refine E_cV (as := [(0, x4)]) (st := []) (a := v0) d_X12_isSo_73 mk_X12_isStoneAt nl_X12_305 (by omega) ⟨rfl, rfl, Nat.le_of_ble_eq_true rfl⟩ okX12 rfl (L_X12_isStoneAt q17) ?_
      refine E_if_eq (tgt := 91) d_X12_isSo_76 (by decide) h (fun _ h => ?_) (fun _ h => ?_)
      · refine E_iconst d_X12_isSo_91 (c32 rfl) ?_
        exact E_weak (ls' := [(2, v0), (0, v1), (9, 0), (9, 0), (9, 0)]) ⟨Or.inr rfl, Or.inr rfl, Or.inl rfl, Or.inl rfl, Or.inl rfl, trivial⟩ (L_X12_isSo_b92 h)
      · refine E_aload_n d_X12_isSo_79 rfl (by decide) ?_
        refine E_get d_X12_isSo_80 okX12 fl_X12_35 ⟨by decide, rfl⟩ h (fun x18 h => ?_)
        refine E_bipush d_X12_isSo_83 (c8 rfl) ?_
        refine E_iload_n d_X12_isSo_85 rfl ?_
        refine E_iadd d_X12_isSo_86 ?_
        refine E_iaload d_X12_isSo_87 h (fun x19 h => ?_)
        refine E_goto (tgt := 92) d_X12_isSo_88 (by decide) ?_
        exact E_weak (ls' := [(2, v0), (0, v1), (9, 0), (9, 0), (9, 0)]) ⟨Or.inr rfl, Or.inr rfl, Or.inl rfl, Or.inl rfl, Or.inl rfl, trivial⟩ (L_X12_isSo_b92 h)
noncomputable def f_X12_isSo (v0 v1 : Int) (σ : Mem) : Option (Int) := if isO Sh 12 v0 = true then f_X12_isSo_b0 v0 v1 σ else none
theorem L_X12_isSo {o : Int} {v0 v1 : Int} {σ : Mem} (h : f_X12_isSo v0 v1 σ = some o) : (isO Sh 12 v0 = true ∧ Cn mt_X12_isSo 5 [(2, v0), (0, v1)] Sh σ (some (0, o)) Sh σ) := ⟨(ite_ok h).1, Cn_of mk_X12_isSo.1.2.2.1 (Nat.le_of_ble_eq_true rfl) (fun sc => L_X12_isSo_b0 (ite_ok h).2)⟩
theorem d_X12_doOne_0 : decode mt_X12_doOne.2.1 0 = .ok (.aload_n 0, 1) := by decide +kernel
theorem d_X12_doOne_1 : decode mt_X12_doOne.2.1 1 = .ok (.getfield 478, 3) := by decide +kernel
theorem d_X12_doOne_4 : decode mt_X12_doOne.2.1 4 = .ok (.sipush 300, 3) := by decide +kernel
theorem d_X12_doOne_7 : decode mt_X12_doOne.2.1 7 = .ok (.if_icmp .ne 14, 3) := by decide +kernel
theorem d_X12_doOne_10 : decode mt_X12_doOne.2.1 10 = .ok (.aload_n 0, 1) := by decide +kernel
theorem d_X12_doOne_11 : decode mt_X12_doOne.2.1 11 = .ok (.iconst 1, 1) := by decide +kernel
theorem d_X12_doOne_12 : decode mt_X12_doOne.2.1 12 = .ok (.putfield 481, 3) := by decide +kernel
theorem d_X12_doOne_15 : decode mt_X12_doOne.2.1 15 = .ok (.aload_n 0, 1) := by decide +kernel
theorem d_X12_doOne_16 : decode mt_X12_doOne.2.1 16 = .ok (.iconst 1, 1) := by decide +kernel
theorem d_X12_doOne_17 : decode mt_X12_doOne.2.1 17 = .ok (.putfield 484, 3) := by decide +kernel
theorem d_X12_doOne_20 : decode mt_X12_doOne.2.1 20 = .ok (.return_, 1) := by decide +kernel
theorem d_X12_doOne_21 : decode mt_X12_doOne.2.1 21 = .ok (.aload_n 0, 1) := by decide +kernel
theorem d_X12_doOne_22 : decode mt_X12_doOne.2.1 22 = .ok (.dup, 1) := by decide +kernel
theorem d_X12_doOne_23 : decode mt_X12_doOne.2.1 23 = .ok (.getfield 478, 3) := by decide +kernel
theorem d_X12_doOne_26 : decode mt_X12_doOne.2.1 26 = .ok (.iconst 1, 1) := by decide +kernel
theorem d_X12_doOne_27 : decode mt_X12_doOne.2.1 27 = .ok (.iadd, 1) := by decide +kernel
theorem d_X12_doOne_28 : decode mt_X12_doOne.2.1 28 = .ok (.putfield 478, 3) := by decide +kernel
theorem d_X12_doOne_31 : decode mt_X12_doOne.2.1 31 = .ok (.bipush 57, 2) := by decide +kernel
theorem d_X12_doOne_33 : decode mt_X12_doOne.2.1 33 = .ok (.bipush 9, 2) := by decide +kernel
theorem d_X12_doOne_35 : decode mt_X12_doOne.2.1 35 = .ok (.iload_n 1, 1) := by decide +kernel
theorem d_X12_doOne_36 : decode mt_X12_doOne.2.1 36 = .ok (.imul, 1) := by decide +kernel
theorem d_X12_doOne_37 : decode mt_X12_doOne.2.1 37 = .ok (.iadd, 1) := by decide +kernel
theorem d_X12_doOne_38 : decode mt_X12_doOne.2.1 38 = .ok (.istore_n 2, 1) := by decide +kernel
theorem d_X12_doOne_39 : decode mt_X12_doOne.2.1 39 = .ok (.aload_n 0, 1) := by decide +kernel
theorem d_X12_doOne_40 : decode mt_X12_doOne.2.1 40 = .ok (.getfield 35, 3) := by decide +kernel
theorem d_X12_doOne_43 : decode mt_X12_doOne.2.1 43 = .ok (.iload_n 2, 1) := by decide +kernel
theorem d_X12_doOne_44 : decode mt_X12_doOne.2.1 44 = .ok (.iaload, 1) := by decide +kernel
theorem d_X12_doOne_45 : decode mt_X12_doOne.2.1 45 = .ok (.istore_n 3, 1) := by decide +kernel
theorem d_X12_doOne_46 : decode mt_X12_doOne.2.1 46 = .ok (.iload_n 3, 1) := by decide +kernel
theorem d_X12_doOne_47 : decode mt_X12_doOne.2.1 47 = .ok (.bipush 7, 2) := by decide +kernel
theorem d_X12_doOne_49 : decode mt_X12_doOne.2.1 49 = .ok (.if_icmp .ge 28, 3) := by decide +kernel
theorem d_X12_doOne_52 : decode mt_X12_doOne.2.1 52 = .ok (.aload_n 0, 1) := by decide +kernel
theorem d_X12_doOne_53 : decode mt_X12_doOne.2.1 53 = .ok (.dup, 1) := by decide +kernel
theorem d_X12_doOne_54 : decode mt_X12_doOne.2.1 54 = .ok (.getfield 487, 3) := by decide +kernel
theorem d_X12_doOne_57 : decode mt_X12_doOne.2.1 57 = .ok (.aload_n 0, 1) := by decide +kernel
theorem d_X12_doOne_58 : decode mt_X12_doOne.2.1 58 = .ok (.iload_n 2, 1) := by decide +kernel
theorem d_X12_doOne_59 : decode mt_X12_doOne.2.1 59 = .ok (.invokevirtual 490, 3) := by decide +kernel
theorem d_X12_doOne_62 : decode mt_X12_doOne.2.1 62 = .ok (.ifCond .eq 7, 3) := by decide +kernel
theorem d_X12_doOne_65 : decode mt_X12_doOne.2.1 65 = .ok (.iconst 0, 1) := by decide +kernel
theorem d_X12_doOne_66 : decode mt_X12_doOne.2.1 66 = .ok (.goto 4, 3) := by decide +kernel
theorem d_X12_doOne_69 : decode mt_X12_doOne.2.1 69 = .ok (.iconst 1, 1) := by decide +kernel
theorem d_X12_doOne_70 : decode mt_X12_doOne.2.1 70 = .ok (.iadd, 1) := by decide +kernel
theorem d_X12_doOne_71 : decode mt_X12_doOne.2.1 71 = .ok (.putfield 487, 3) := by decide +kernel
theorem d_X12_doOne_74 : decode mt_X12_doOne.2.1 74 = .ok (.goto 101, 3) := by decide +kernel
theorem d_X12_doOne_77 : decode mt_X12_doOne.2.1 77 = .ok (.iload_n 3, 1) := by decide +kernel
theorem d_X12_doOne_78 : decode mt_X12_doOne.2.1 78 = .ok (.bipush 7, 2) := by decide +kernel
theorem d_X12_doOne_80 : decode mt_X12_doOne.2.1 80 = .ok (.if_icmp .ne 30, 3) := by decide +kernel
theorem d_X12_doOne_83 : decode mt_X12_doOne.2.1 83 = .ok (.aload_n 0, 1) := by decide +kernel
theorem d_X12_doOne_84 : decode mt_X12_doOne.2.1 84 = .ok (.iload_n 2, 1) := by decide +kernel
theorem d_X12_doOne_85 : decode mt_X12_doOne.2.1 85 = .ok (.invokevirtual 493, 3) := by decide +kernel
theorem d_X12_doOne_88 : decode mt_X12_doOne.2.1 88 = .ok (.ifCond .eq 22, 3) := by decide +kernel
theorem d_X12_doOne_91 : decode mt_X12_doOne.2.1 91 = .ok (.aload_n 0, 1) := by decide +kernel
theorem d_X12_doOne_92 : decode mt_X12_doOne.2.1 92 = .ok (.iload_n 1, 1) := by decide +kernel
theorem d_X12_doOne_93 : decode mt_X12_doOne.2.1 93 = .ok (.iconst 1, 1) := by decide +kernel
theorem d_X12_doOne_94 : decode mt_X12_doOne.2.1 94 = .ok (.iadd, 1) := by decide +kernel
theorem d_X12_doOne_95 : decode mt_X12_doOne.2.1 95 = .ok (.aload_n 0, 1) := by decide +kernel
theorem d_X12_doOne_96 : decode mt_X12_doOne.2.1 96 = .ok (.getfield 35, 3) := by decide +kernel
theorem d_X12_doOne_99 : decode mt_X12_doOne.2.1 99 = .ok (.iload_n 2, 1) := by decide +kernel
theorem d_X12_doOne_100 : decode mt_X12_doOne.2.1 100 = .ok (.bipush 8, 2) := by decide +kernel
theorem d_X12_doOne_102 : decode mt_X12_doOne.2.1 102 = .ok (.iadd, 1) := by decide +kernel
theorem d_X12_doOne_103 : decode mt_X12_doOne.2.1 103 = .ok (.iaload, 1) := by decide +kernel
theorem d_X12_doOne_104 : decode mt_X12_doOne.2.1 104 = .ok (.invokevirtual 496, 3) := by decide +kernel
theorem d_X12_doOne_107 : decode mt_X12_doOne.2.1 107 = .ok (.goto 68, 3) := by decide +kernel
theorem d_X12_doOne_110 : decode mt_X12_doOne.2.1 110 = .ok (.iload_n 3, 1) := by decide +kernel
theorem d_X12_doOne_111 : decode mt_X12_doOne.2.1 111 = .ok (.bipush 8, 2) := by decide +kernel
theorem d_X12_doOne_113 : decode mt_X12_doOne.2.1 113 = .ok (.if_icmp .ne 51, 3) := by decide +kernel
theorem d_X12_doOne_116 : decode mt_X12_doOne.2.1 116 = .ok (.iconst 0, 1) := by decide +kernel
theorem d_X12_doOne_117 : decode mt_X12_doOne.2.1 117 = .ok (.istore 4, 2) := by decide +kernel
theorem d_X12_doOne_119 : decode mt_X12_doOne.2.1 119 = .ok (.iload 4, 2) := by decide +kernel
theorem d_X12_doOne_121 : decode mt_X12_doOne.2.1 121 = .ok (.aload_n 0, 1) := by decide +kernel
theorem d_X12_doOne_122 : decode mt_X12_doOne.2.1 122 = .ok (.getfield 35, 3) := by decide +kernel
theorem d_X12_doOne_125 : decode mt_X12_doOne.2.1 125 = .ok (.iload_n 2, 1) := by decide +kernel
theorem d_X12_doOne_126 : decode mt_X12_doOne.2.1 126 = .ok (.iconst 1, 1) := by decide +kernel
theorem d_X12_doOne_127 : decode mt_X12_doOne.2.1 127 = .ok (.iadd, 1) := by decide +kernel
theorem d_X12_doOne_128 : decode mt_X12_doOne.2.1 128 = .ok (.iaload, 1) := by decide +kernel
theorem d_X12_doOne_129 : decode mt_X12_doOne.2.1 129 = .ok (.if_icmp .ge 32, 3) := by decide +kernel
theorem d_X12_doOne_132 : decode mt_X12_doOne.2.1 132 = .ok (.aload_n 0, 1) := by decide +kernel
theorem d_X12_doOne_133 : decode mt_X12_doOne.2.1 133 = .ok (.getfield 481, 3) := by decide +kernel
theorem d_X12_doOne_136 : decode mt_X12_doOne.2.1 136 = .ok (.ifCond .ne 25, 3) := by decide +kernel
theorem d_X12_doOne_139 : decode mt_X12_doOne.2.1 139 = .ok (.aload_n 0, 1) := by decide +kernel
theorem d_X12_doOne_140 : decode mt_X12_doOne.2.1 140 = .ok (.iload_n 1, 1) := by decide +kernel
theorem d_X12_doOne_141 : decode mt_X12_doOne.2.1 141 = .ok (.iconst 1, 1) := by decide +kernel
theorem d_X12_doOne_142 : decode mt_X12_doOne.2.1 142 = .ok (.iadd, 1) := by decide +kernel
theorem d_X12_doOne_143 : decode mt_X12_doOne.2.1 143 = .ok (.aload_n 0, 1) := by decide +kernel
theorem d_X12_doOne_144 : decode mt_X12_doOne.2.1 144 = .ok (.getfield 35, 3) := by decide +kernel
theorem d_X12_doOne_147 : decode mt_X12_doOne.2.1 147 = .ok (.iload_n 2, 1) := by decide +kernel
theorem d_X12_doOne_148 : decode mt_X12_doOne.2.1 148 = .ok (.bipush 8, 2) := by decide +kernel
theorem d_X12_doOne_150 : decode mt_X12_doOne.2.1 150 = .ok (.iadd, 1) := by decide +kernel
theorem d_X12_doOne_151 : decode mt_X12_doOne.2.1 151 = .ok (.iaload, 1) := by decide +kernel
theorem d_X12_doOne_152 : decode mt_X12_doOne.2.1 152 = .ok (.invokevirtual 496, 3) := by decide +kernel
theorem d_X12_doOne_155 : decode mt_X12_doOne.2.1 155 = .ok (.iinc 4 1, 3) := by decide +kernel
theorem d_X12_doOne_158 : decode mt_X12_doOne.2.1 158 = .ok (.goto (-39), 3) := by decide +kernel
theorem d_X12_doOne_161 : decode mt_X12_doOne.2.1 161 = .ok (.goto 14, 3) := by decide +kernel
theorem d_X12_doOne_164 : decode mt_X12_doOne.2.1 164 = .ok (.iload_n 3, 1) := by decide +kernel
theorem d_X12_doOne_165 : decode mt_X12_doOne.2.1 165 = .ok (.bipush 8, 2) := by decide +kernel
theorem d_X12_doOne_167 : decode mt_X12_doOne.2.1 167 = .ok (.if_icmp .le 8, 3) := by decide +kernel
theorem d_X12_doOne_170 : decode mt_X12_doOne.2.1 170 = .ok (.aload_n 0, 1) := by decide +kernel
theorem d_X12_doOne_171 : decode mt_X12_doOne.2.1 171 = .ok (.iconst 1, 1) := by decide +kernel
theorem d_X12_doOne_172 : decode mt_X12_doOne.2.1 172 = .ok (.putfield 481, 3) := by decide +kernel
theorem d_X12_doOne_175 : decode mt_X12_doOne.2.1 175 = .ok (.return_, 1) := by decide +kernel
noncomputable def f_X12_doOne_b70 (r_X12_doAll : (Int → Int → Int → Mem → Option (Mem))) (s0 s1 s2 : Int) (σ : Mem) : Option (Mem) :=
  (pf Sh σ 12 s2 40 (w32 (s1 + s0))).bind fun σ17 =>
  some σ17
theorem L_X12_doOne_b70 {sc : Nat × (Nat → Int32)} {D : Nat} {o : Mem} {r_X12_doAll : (Int → Int → Int → Mem → Option (Mem))} (hr_X12_doAll : ∀ {y0 y1 y2 : Int} {σ : Mem} {o : Mem}, r_X12_doAll y0 y1 y2 σ = some o → (isO Sh 12 y0 = true ∧ Cn mt_X12_doAll D [(2, y0), (0, y1), (0, y2)] Sh σ none Sh o)) {s0 s1 s2 : Int} {σ : Mem} (h : f_X12_doOne_b70 r_X12_doAll s0 s1 s2 σ = some o) : E sc (Fm Sh none Sh o) mt_X12_doOne (D + 9) Sh Sh 70 [(9, 0), (9, 0), (9, 0), (9, 0), (9, 0)] [(0, s0), (0, s1), (2, s2)] Sh σ := by
  unfold f_X12_doOne_b70 at h
  refine E_iadd d_X12_doOne_70 ?_
  refine E_put d_X12_doOne_71 okX12 fl_X12_487 ⟨by decide, rfl⟩ (Or.inl ⟨rfl, rfl⟩) (Or.inl rfl) h (fun σ17 h => ?_)
  refine E_goto (tgt := 175) d_X12_doOne_74 (by decide) ?_
  cases h
  exact E_vret d_X12_doOne_175 rfl
noncomputable def f_X12_doOne_b161 (r_X12_doAll : (Int → Int → Int → Mem → Option (Mem))) (σ : Mem) : Option (Mem) :=
  some σ
theorem L_X12_doOne_b161 {sc : Nat × (Nat → Int32)} {D : Nat} {o : Mem} {r_X12_doAll : (Int → Int → Int → Mem → Option (Mem))} (hr_X12_doAll : ∀ {y0 y1 y2 : Int} {σ : Mem} {o : Mem}, r_X12_doAll y0 y1 y2 σ = some o → (isO Sh 12 y0 = true ∧ Cn mt_X12_doAll D [(2, y0), (0, y1), (0, y2)] Sh σ none Sh o)) {σ : Mem} (h : f_X12_doOne_b161 r_X12_doAll  σ = some o) : E sc (Fm Sh none Sh o) mt_X12_doOne (D + 9) Sh Sh 161 [(9, 0), (9, 0), (9, 0), (9, 0), (9, 0)] [] Sh σ := by
  unfold f_X12_doOne_b161 at h
  refine E_goto (tgt := 175) d_X12_doOne_161 (by decide) ?_
  cases h
  exact E_vret d_X12_doOne_175 rfl
noncomputable def f_X12_doOne_b119 (r_X12_doAll : (Int → Int → Int → Mem → Option (Mem))) (k119 : (Int → Int → Int → Int → Mem → Option (Mem))) (v0 v1 v2 v4 : Int) (σ : Mem) : Option (Mem) :=
  (gf Sh σ 12 v0 20).bind fun x19 =>
  (al Sh σ 20 x19 (w32 (v2 + 1))).bind fun x20 =>
  if x20 ≤ v4 then
    f_X12_doOne_b161 r_X12_doAll  σ
  else
    (gf Sh σ 12 v0 37).bind fun x21 =>
    if x21 = 0 then
      (gf Sh σ 12 v0 20).bind fun x22 =>
      (al Sh σ 20 x22 (w32 (v2 + 8))).bind fun x23 =>
      (r_X12_doAll v0 (w32 (v1 + 1)) x23 σ).bind fun r24 =>
      k119 v0 v1 v2 (w32 (v4 + 1)) r24
    else
      f_X12_doOne_b161 r_X12_doAll  σ
theorem L_X12_doOne_b119 {sc : Nat × (Nat → Int32)} {D : Nat} {o : Mem} {r_X12_doAll : (Int → Int → Int → Mem → Option (Mem))} (hr_X12_doAll : ∀ {y0 y1 y2 : Int} {σ : Mem} {o : Mem}, r_X12_doAll y0 y1 y2 σ = some o → (isO Sh 12 y0 = true ∧ Cn mt_X12_doAll D [(2, y0), (0, y1), (0, y2)] Sh σ none Sh o)) {k119 : (Int → Int → Int → Int → Mem → Option (Mem))} (hk119 : ∀ {v0 v1 v2 v4 : Int} {σ : Mem}, k119 v0 v1 v2 v4 σ = some o → E sc (Fm Sh none Sh o) mt_X12_doOne (D + 9) Sh Sh 119 [(2, v0), (0, v1), (0, v2), (9, 0), (0, v4)] [] Sh σ) {v0 v1 v2 v4 : Int} {σ : Mem} (h : f_X12_doOne_b119 r_X12_doAll k119 v0 v1 v2 v4 σ = some o) : E sc (Fm Sh none Sh o) mt_X12_doOne (D + 9) Sh Sh 119 [(2, v0), (0, v1), (0, v2), (9, 0), (0, v4)] [] Sh σ := by
  unfold f_X12_doOne_b119 at h
  refine E_iload d_X12_doOne_119 rfl ?_
  refine E_aload_n d_X12_doOne_121 rfl (by decide) ?_
  refine E_get d_X12_doOne_122 okX12 fl_X12_35 ⟨by decide, rfl⟩ h (fun x19 h => ?_)
  refine E_iload_n d_X12_doOne_125 rfl ?_
  refine E_iconst d_X12_doOne_126 (c32 rfl) ?_
  refine E_iadd d_X12_doOne_127 ?_
  refine E_iaload d_X12_doOne_128 h (fun x20 h => ?_)
  refine E_icmp_ge (tgt := 161) d_X12_doOne_129 (by decide) h (fun _ h => ?_) (fun _ h => ?_)
  · exact E_weak (ls' := [(9, 0), (9, 0), (9, 0), (9, 0), (9, 0)]) ⟨Or.inl rfl, Or.inl rfl, Or.inl rfl, Or.inl rfl, Or.inl rfl, trivial⟩ (L_X12_doOne_b161 hr_X12_doAll h)
  · refine E_aload_n d_X12_doOne_132 rfl (by decide) ?_
    refine E_get d_X12_doOne_133 okX12 fl_X12_481 ⟨by decide, rfl⟩ h (fun x21 h => ?_)
    refine E_if_ne (tgt := 161) d_X12_doOne_136 (by decide) h (fun _ h => ?_) (fun _ h => ?_)
    · refine E_aload_n d_X12_doOne_139 rfl (by decide) ?_
      refine E_iload_n d_X12_doOne_140 rfl ?_
      refine E_iconst d_X12_doOne_141 (c32 rfl) ?_
      refine E_iadd d_X12_doOne_142 ?_
      refine E_aload_n d_X12_doOne_143 rfl (by decide) ?_
      refine E_get d_X12_doOne_144 okX12 fl_X12_35 ⟨by decide, rfl⟩ h (fun x22 h => ?_)
      refine E_iload_n d_X12_doOne_147 rfl ?_
      refine E_bipush d_X12_doOne_148 (c8 rfl) ?_
      refine E_iadd d_X12_doOne_150 ?_
      refine E_iaload d_X12_doOne_151 h (fun x23 h => ?_)
      refine bd h (fun r24 q25 h => ?_)
      refine E_cVv (as := [(0, w32 (v1 + 1)), (0, x23)]) (st := []) (a := v0) d_X12_doOne_152 mk_X12_doAll nl_X12_496 (by omega) ⟨rfl, rfl, Nat.le_of_ble_eq_true rfl⟩ okX12 rfl (hr_X12_doAll q25) ?_
      refine E_iinc d_X12_doOne_155 (ls' := [(2, v0), (0, v1), (0, v2), (9, 0), (0, w32 (v4 + 1))]) rfl ⟨by decide, rfl⟩ ?_
      refine E_goto (tgt := 119) d_X12_doOne_158 (by decide) ?_
      exact (hk119 h)
    · exact E_weak (ls' := [(9, 0), (9, 0), (9, 0), (9, 0), (9, 0)]) ⟨Or.inl rfl, Or.inl rfl, Or.inl rfl, Or.inl rfl, Or.inl rfl, trivial⟩ (L_X12_doOne_b161 hr_X12_doAll h)
noncomputable def f_X12_doOne_h119 (r_X12_doAll : (Int → Int → Int → Mem → Option (Mem))) (n : Nat) : Int → Int → Int → Int → Mem → Option (Mem) := Nat.rec (motive := fun _ => Int → Int → Int → Int → Mem → Option (Mem)) (fun _ _ _ _ _ => none) (fun _ ih => f_X12_doOne_b119 r_X12_doAll (ih)) n
theorem L_X12_doOne_h119 {sc : Nat × (Nat → Int32)} {D : Nat} {o : Mem} {r_X12_doAll : (Int → Int → Int → Mem → Option (Mem))} (hr_X12_doAll : ∀ {y0 y1 y2 : Int} {σ : Mem} {o : Mem}, r_X12_doAll y0 y1 y2 σ = some o → (isO Sh 12 y0 = true ∧ Cn mt_X12_doAll D [(2, y0), (0, y1), (0, y2)] Sh σ none Sh o)) : ∀ (n : Nat) {v0 v1 v2 v4 : Int} {σ : Mem}, f_X12_doOne_h119 r_X12_doAll n v0 v1 v2 v4 σ = some o → E sc (Fm Sh none Sh o) mt_X12_doOne (D + 9) Sh Sh 119 [(2, v0), (0, v1), (0, v2), (9, 0), (0, v4)] [] Sh σ := by
  intro n
  induction n with
  | zero => intro v0 v1 v2 v4 σ h; cases h
  | succ n ih => intro v0 v1 v2 v4 σ h; exact L_X12_doOne_b119 hr_X12_doAll (@ih) h
noncomputable def f_X12_doOne_b110 (r_X12_doAll : (Int → Int → Int → Mem → Option (Mem))) (v0 v1 v2 v3 : Int) (σ : Mem) : Option (Mem) :=
  if v3 = 8 then
    f_X12_doOne_h119 r_X12_doAll FU v0 v1 v2 0 σ
  else
    if v3 ≤ 8 then
      some σ
    else
      (pf Sh σ 12 v0 37 1).bind fun σ18 =>
      some σ18
theorem L_X12_doOne_b110 {sc : Nat × (Nat → Int32)} {D : Nat} {o : Mem} {r_X12_doAll : (Int → Int → Int → Mem → Option (Mem))} (hr_X12_doAll : ∀ {y0 y1 y2 : Int} {σ : Mem} {o : Mem}, r_X12_doAll y0 y1 y2 σ = some o → (isO Sh 12 y0 = true ∧ Cn mt_X12_doAll D [(2, y0), (0, y1), (0, y2)] Sh σ none Sh o)) {v0 v1 v2 v3 : Int} {σ : Mem} (h : f_X12_doOne_b110 r_X12_doAll v0 v1 v2 v3 σ = some o) : E sc (Fm Sh none Sh o) mt_X12_doOne (D + 9) Sh Sh 110 [(2, v0), (0, v1), (0, v2), (0, v3), (9, 0)] [] Sh σ := by
  unfold f_X12_doOne_b110 at h
  refine E_iload_n d_X12_doOne_110 rfl ?_
  refine E_bipush d_X12_doOne_111 (c8 rfl) ?_
  refine E_icmp_ne (tgt := 164) d_X12_doOne_113 (by decide) h (fun _ h => ?_) (fun _ h => ?_)
  · refine E_iconst d_X12_doOne_116 (c32 rfl) ?_
    refine E_istore d_X12_doOne_117 (ls' := [(2, v0), (0, v1), (0, v2), (0, v3), (0, 0)]) ⟨by decide, rfl⟩ ?_
    exact E_weak (ls' := [(2, v0), (0, v1), (0, v2), (9, 0), (0, 0)]) ⟨Or.inr rfl, Or.inr rfl, Or.inr rfl, Or.inl rfl, Or.inr rfl, trivial⟩ (L_X12_doOne_h119 hr_X12_doAll FU h)
  · refine E_iload_n d_X12_doOne_164 rfl ?_
    refine E_bipush d_X12_doOne_165 (c8 rfl) ?_
    refine E_icmp_le (tgt := 175) d_X12_doOne_167 (by decide) h (fun _ h => ?_) (fun _ h => ?_)
    · cases h
      exact E_vret d_X12_doOne_175 rfl
    · refine E_aload_n d_X12_doOne_170 rfl (by decide) ?_
      refine E_iconst d_X12_doOne_171 (c32 rfl) ?_
      refine E_put d_X12_doOne_172 okX12 fl_X12_481 ⟨by decide, rfl⟩ (Or.inr (Or.inr (Or.inl ⟨rfl, rfl, (Or.inr rfl)⟩))) (Or.inl rfl) h (fun σ18 h => ?_)
      cases h
      exact E_vret d_X12_doOne_175 rfl
noncomputable def f_X12_doOne_b0 (r_X12_doAll : (Int → Int → Int → Mem → Option (Mem))) (v0 v1 : Int) (σ : Mem) : Option (Mem) :=
  (gf Sh σ 12 v0 39).bind fun x1 =>
  if x1 = 300 then
    (pf Sh σ 12 v0 37 1).bind fun σ2 =>
    (pf Sh σ2 12 v0 44 1).bind fun σ3 =>
    some σ3
  else
    (gf Sh σ 12 v0 39).bind fun x4 =>
    (pf Sh σ 12 v0 39 (w32 (x4 + 1))).bind fun σ5 =>
    (gf Sh σ5 12 v0 20).bind fun x6 =>
    (al Sh σ5 20 x6 (w32 (57 + (w32 (9 * v1))))).bind fun x7 =>
    if 7 ≤ x7 then
      if x7 = 7 then
        (f_X12_isSo v0 (w32 (57 + (w32 (9 * v1)))) σ5).bind fun r8 =>
        if r8 = 0 then
          f_X12_doOne_b110 r_X12_doAll v0 v1 (w32 (57 + (w32 (9 * v1)))) x7 σ5
        else
          (gf Sh σ5 12 v0 20).bind fun x10 =>
          (al Sh σ5 20 x10 (w32 (w32 (57 + (w32 (9 * v1))) + 8))).bind fun x11 =>
          (r_X12_doAll v0 (w32 (v1 + 1)) x11 σ5).bind fun r12 =>
          some r12
      else
        f_X12_doOne_b110 r_X12_doAll v0 v1 (w32 (57 + (w32 (9 * v1)))) x7 σ5
    else
      (gf Sh σ5 12 v0 40).bind fun x14 =>
      (f_X12_does v0 (w32 (57 + (w32 (9 * v1)))) σ5).bind fun r15 =>
      if r15.1 = 0 then
        f_X12_doOne_b70 r_X12_doAll 1 x14 v0 r15.2
      else
        f_X12_doOne_b70 r_X12_doAll 0 x14 v0 r15.2
theorem L_X12_doOne_b0 {sc : Nat × (Nat → Int32)} {D : Nat} {o : Mem} {r_X12_doAll : (Int → Int → Int → Mem → Option (Mem))} (hr_X12_doAll : ∀ {y0 y1 y2 : Int} {σ : Mem} {o : Mem}, r_X12_doAll y0 y1 y2 σ = some o → (isO Sh 12 y0 = true ∧ Cn mt_X12_doAll D [(2, y0), (0, y1), (0, y2)] Sh σ none Sh o)) {v0 v1 : Int} {σ : Mem} (h : f_X12_doOne_b0 r_X12_doAll v0 v1 σ = some o) : E sc (Fm Sh none Sh o) mt_X12_doOne (D + 9) Sh Sh 0 [(2, v0), (0, v1), (9, 0), (9, 0), (9, 0)] [] Sh σ := by
  unfold f_X12_doOne_b0 at h
  refine E_aload_n d_X12_doOne_0 rfl (by decide) ?_
  refine E_get d_X12_doOne_1 okX12 fl_X12_478 ⟨by decide, rfl⟩ h (fun x1 h => ?_)
  refine E_sipush d_X12_doOne_4 (c16 rfl) ?_
  refine E_icmp_ne (tgt := 21) d_X12_doOne_7 (by decide) h (fun _ h => ?_) (fun _ h => ?_)
  · refine E_aload_n d_X12_doOne_10 rfl (by decide) ?_
    refine E_iconst d_X12_doOne_11 (c32 rfl) ?_
    refine E_put d_X12_doOne_12 okX12 fl_X12_481 ⟨by decide, rfl⟩ (Or.inr (Or.inr (Or.inl ⟨rfl, rfl, (Or.inr rfl)⟩))) (Or.inl rfl) h (fun σ2 h => ?_)
    refine E_aload_n d_X12_doOne_15 rfl (by decide) ?_
    refine E_iconst d_X12_doOne_16 (c32 rfl) ?_
    refine E_put d_X12_doOne_17 okX12 fl_X12_484 ⟨by decide, rfl⟩ (Or.inl ⟨rfl, rfl⟩) (Or.inl rfl) h (fun σ3 h => ?_)
    cases h
    exact E_vret d_X12_doOne_20 rfl
  · refine E_aload_n d_X12_doOne_21 rfl (by decide) ?_
    refine E_dupT d_X12_doOne_22 (by decide) ?_
    refine E_get d_X12_doOne_23 okX12 fl_X12_478 ⟨by decide, rfl⟩ h (fun x4 h => ?_)
    refine E_iconst d_X12_doOne_26 (c32 rfl) ?_
    refine E_iadd d_X12_doOne_27 ?_
    refine E_put d_X12_doOne_28 okX12 fl_X12_478 ⟨by decide, rfl⟩ (Or.inl ⟨rfl, rfl⟩) (Or.inl rfl) h (fun σ5 h => ?_)
    refine E_bipush d_X12_doOne_31 (c8 rfl) ?_
    refine E_bipush d_X12_doOne_33 (c8 rfl) ?_
    refine E_iload_n d_X12_doOne_35 rfl ?_
    refine E_imul d_X12_doOne_36 ?_
    refine E_iadd d_X12_doOne_37 ?_
    refine E_istore_n d_X12_doOne_38 (ls' := [(2, v0), (0, v1), (0, w32 (57 + (w32 (9 * v1)))), (9, 0), (9, 0)]) ⟨by decide, rfl⟩ ?_
    refine E_aload_n d_X12_doOne_39 rfl (by decide) ?_
    refine E_get d_X12_doOne_40 okX12 fl_X12_35 ⟨by decide, rfl⟩ h (fun x6 h => ?_)
    refine E_iload_n d_X12_doOne_43 rfl ?_
    refine E_iaload d_X12_doOne_44 h (fun x7 h => ?_)
    refine E_istore_n d_X12_doOne_45 (ls' := [(2, v0), (0, v1), (0, w32 (57 + (w32 (9 * v1)))), (0, x7), (9, 0)]) ⟨by decide, rfl⟩ ?_
    refine E_iload_n d_X12_doOne_46 rfl ?_
    refine E_bipush d_X12_doOne_47 (c8 rfl) ?_
    refine E_icmp_ge (tgt := 77) d_X12_doOne_49 (by decide) h (fun _ h => ?_) (fun _ h => ?_)
    · refine E_iload_n d_X12_doOne_77 rfl ?_
      refine E_bipush d_X12_doOne_78 (c8 rfl) ?_
      refine E_icmp_ne (tgt := 110) d_X12_doOne_80 (by decide) h (fun _ h => ?_) (fun _ h => ?_)
      · refine E_aload_n d_X12_doOne_83 rfl (by decide) ?_
        refine E_iload_n d_X12_doOne_84 rfl ?_
        refine bd h (fun r8 q9 h => ?_)
        refine E_cV (as := [(0, w32 (57 + (w32 (9 * v1))))]) (st := []) (a := v0) d_X12_doOne_85 mk_X12_isSo nl_X12_493 (by omega) ⟨rfl, rfl, Nat.le_of_ble_eq_true rfl⟩ okX12 rfl (L_X12_isSo q9) ?_
        refine E_if_eq (tgt := 110) d_X12_doOne_88 (by decide) h (fun _ h => ?_) (fun _ h => ?_)
        · exact (L_X12_doOne_b110 hr_X12_doAll h)
        · refine E_aload_n d_X12_doOne_91 rfl (by decide) ?_
          refine E_iload_n d_X12_doOne_92 rfl ?_
          refine E_iconst d_X12_doOne_93 (c32 rfl) ?_
          refine E_iadd d_X12_doOne_94 ?_
          refine E_aload_n d_X12_doOne_95 rfl (by decide) ?_
          refine E_get d_X12_doOne_96 okX12 fl_X12_35 ⟨by decide, rfl⟩ h (fun x10 h => ?_)
          refine E_iload_n d_X12_doOne_99 rfl ?_
          refine E_bipush d_X12_doOne_100 (c8 rfl) ?_
          refine E_iadd d_X12_doOne_102 ?_
          refine E_iaload d_X12_doOne_103 h (fun x11 h => ?_)
          refine bd h (fun r12 q13 h => ?_)
          refine E_cVv (as := [(0, w32 (v1 + 1)), (0, x11)]) (st := []) (a := v0) d_X12_doOne_104 mk_X12_doAll nl_X12_496 (by omega) ⟨rfl, rfl, Nat.le_of_ble_eq_true rfl⟩ okX12 rfl (hr_X12_doAll q13) ?_
          refine E_goto (tgt := 175) d_X12_doOne_107 (by decide) ?_
          cases h
          exact E_vret d_X12_doOne_175 rfl
      · exact (L_X12_doOne_b110 hr_X12_doAll h)
    · refine E_aload_n d_X12_doOne_52 rfl (by decide) ?_
      refine E_dupT d_X12_doOne_53 (by decide) ?_
      refine E_get d_X12_doOne_54 okX12 fl_X12_487 ⟨by decide, rfl⟩ h (fun x14 h => ?_)
      refine E_aload_n d_X12_doOne_57 rfl (by decide) ?_
      refine E_iload_n d_X12_doOne_58 rfl ?_
      refine bd h (fun r15 q16 h => ?_)
      refine E_cV (as := [(0, w32 (57 + (w32 (9 * v1))))]) (st := [(0, x14), (2, v0)]) (a := v0) d_X12_doOne_59 mk_X12_does nl_X12_490 (by omega) ⟨rfl, rfl, Nat.le_of_ble_eq_true rfl⟩ okX12 rfl (L_X12_does q16) ?_
      refine E_if_eq (tgt := 69) d_X12_doOne_62 (by decide) h (fun _ h => ?_) (fun _ h => ?_)
      · refine E_iconst d_X12_doOne_69 (c32 rfl) ?_
        exact E_weak (ls' := [(9, 0), (9, 0), (9, 0), (9, 0), (9, 0)]) ⟨Or.inl rfl, Or.inl rfl, Or.inl rfl, Or.inl rfl, Or.inl rfl, trivial⟩ (L_X12_doOne_b70 hr_X12_doAll h)
      · refine E_iconst d_X12_doOne_65 (c32 rfl) ?_
        refine E_goto (tgt := 70) d_X12_doOne_66 (by decide) ?_
        exact E_weak (ls' := [(9, 0), (9, 0), (9, 0), (9, 0), (9, 0)]) ⟨Or.inl rfl, Or.inl rfl, Or.inl rfl, Or.inl rfl, Or.inl rfl, trivial⟩ (L_X12_doOne_b70 hr_X12_doAll h)
noncomputable def f_X12_doOne (r_X12_doAll : (Int → Int → Int → Mem → Option (Mem))) (v0 v1 : Int) (σ : Mem) : Option (Mem) := if isO Sh 12 v0 = true then f_X12_doOne_b0 r_X12_doAll v0 v1 σ else none
theorem L_X12_doOne {D : Nat} {o : Mem} {r_X12_doAll : (Int → Int → Int → Mem → Option (Mem))} (hr_X12_doAll : ∀ {y0 y1 y2 : Int} {σ : Mem} {o : Mem}, r_X12_doAll y0 y1 y2 σ = some o → (isO Sh 12 y0 = true ∧ Cn mt_X12_doAll D [(2, y0), (0, y1), (0, y2)] Sh σ none Sh o)) {v0 v1 : Int} {σ : Mem} (h : f_X12_doOne r_X12_doAll v0 v1 σ = some o) : (isO Sh 12 v0 = true ∧ Cn mt_X12_doOne (D + 9) [(2, v0), (0, v1)] Sh σ none Sh o) := ⟨(ite_ok h).1, Cn_of mk_X12_doOne.1.2.2.1 (Nat.le_of_ble_eq_true rfl) (fun sc => L_X12_doOne_b0 hr_X12_doAll (ite_ok h).2)⟩
theorem d_X12_doAll_0 : decode mt_X12_doAll.2.1 0 = .ok (.iload_n 1, 1) := by decide +kernel
theorem d_X12_doAll_1 : decode mt_X12_doAll.2.1 1 = .ok (.istore_n 3, 1) := by decide +kernel
theorem d_X12_doAll_2 : decode mt_X12_doAll.2.1 2 = .ok (.iload_n 3, 1) := by decide +kernel
theorem d_X12_doAll_3 : decode mt_X12_doAll.2.1 3 = .ok (.iload_n 2, 1) := by decide +kernel
theorem d_X12_doAll_4 : decode mt_X12_doAll.2.1 4 = .ok (.if_icmp .ge 34, 3) := by decide +kernel
theorem d_X12_doAll_7 : decode mt_X12_doAll.2.1 7 = .ok (.aload_n 0, 1) := by decide +kernel
theorem d_X12_doAll_8 : decode mt_X12_doAll.2.1 8 = .ok (.getfield 481, 3) := by decide +kernel
theorem d_X12_doAll_11 : decode mt_X12_doAll.2.1 11 = .ok (.ifCond .ne 27, 3) := by decide +kernel
theorem d_X12_doAll_14 : decode mt_X12_doAll.2.1 14 = .ok (.aload_n 0, 1) := by decide +kernel
theorem d_X12_doAll_15 : decode mt_X12_doAll.2.1 15 = .ok (.iload_n 3, 1) := by decide +kernel
theorem d_X12_doAll_16 : decode mt_X12_doAll.2.1 16 = .ok (.invokevirtual 499, 3) := by decide +kernel
theorem d_X12_doAll_19 : decode mt_X12_doAll.2.1 19 = .ok (.aload_n 0, 1) := by decide +kernel
theorem d_X12_doAll_20 : decode mt_X12_doAll.2.1 20 = .ok (.getfield 35, 3) := by decide +kernel
theorem d_X12_doAll_23 : decode mt_X12_doAll.2.1 23 = .ok (.bipush 57, 2) := by decide +kernel
theorem d_X12_doAll_25 : decode mt_X12_doAll.2.1 25 = .ok (.bipush 9, 2) := by decide +kernel
theorem d_X12_doAll_27 : decode mt_X12_doAll.2.1 27 = .ok (.iload_n 3, 1) := by decide +kernel
theorem d_X12_doAll_28 : decode mt_X12_doAll.2.1 28 = .ok (.imul, 1) := by decide +kernel
theorem d_X12_doAll_29 : decode mt_X12_doAll.2.1 29 = .ok (.iadd, 1) := by decide +kernel
theorem d_X12_doAll_30 : decode mt_X12_doAll.2.1 30 = .ok (.bipush 8, 2) := by decide +kernel
theorem d_X12_doAll_32 : decode mt_X12_doAll.2.1 32 = .ok (.iadd, 1) := by decide +kernel
theorem d_X12_doAll_33 : decode mt_X12_doAll.2.1 33 = .ok (.iaload, 1) := by decide +kernel
theorem d_X12_doAll_34 : decode mt_X12_doAll.2.1 34 = .ok (.istore_n 3, 1) := by decide +kernel
theorem d_X12_doAll_35 : decode mt_X12_doAll.2.1 35 = .ok (.goto (-33), 3) := by decide +kernel
theorem d_X12_doAll_38 : decode mt_X12_doAll.2.1 38 = .ok (.return_, 1) := by decide +kernel
noncomputable def f_X12_doAll_b2 (r_X12_doAll : (Int → Int → Int → Mem → Option (Mem))) (k2 : (Int → Int → Int → Mem → Option (Mem))) (v0 v2 v3 : Int) (σ : Mem) : Option (Mem) :=
  if v2 ≤ v3 then
    some σ
  else
    (gf Sh σ 12 v0 37).bind fun x1 =>
    if x1 = 0 then
      (f_X12_doOne r_X12_doAll v0 v3 σ).bind fun r2 =>
      (gf Sh r2 12 v0 20).bind fun x4 =>
      (al Sh r2 20 x4 (w32 (w32 (57 + (w32 (9 * v3))) + 8))).bind fun x5 =>
      k2 v0 v2 x5 r2
    else
      some σ
theorem L_X12_doAll_b2 {sc : Nat × (Nat → Int32)} {D : Nat} {o : Mem} {r_X12_doAll : (Int → Int → Int → Mem → Option (Mem))} (hr_X12_doAll : ∀ {y0 y1 y2 : Int} {σ : Mem} {o : Mem}, r_X12_doAll y0 y1 y2 σ = some o → (isO Sh 12 y0 = true ∧ Cn mt_X12_doAll D [(2, y0), (0, y1), (0, y2)] Sh σ none Sh o)) {k2 : (Int → Int → Int → Mem → Option (Mem))} (hk2 : ∀ {v0 v2 v3 : Int} {σ : Mem}, k2 v0 v2 v3 σ = some o → E sc (Fm Sh none Sh o) mt_X12_doAll (D + 10) Sh Sh 2 [(2, v0), (9, 0), (0, v2), (0, v3)] [] Sh σ) {v0 v2 v3 : Int} {σ : Mem} (h : f_X12_doAll_b2 r_X12_doAll k2 v0 v2 v3 σ = some o) : E sc (Fm Sh none Sh o) mt_X12_doAll (D + 10) Sh Sh 2 [(2, v0), (9, 0), (0, v2), (0, v3)] [] Sh σ := by
  unfold f_X12_doAll_b2 at h
  refine E_iload_n d_X12_doAll_2 rfl ?_
  refine E_iload_n d_X12_doAll_3 rfl ?_
  refine E_icmp_ge (tgt := 38) d_X12_doAll_4 (by decide) h (fun _ h => ?_) (fun _ h => ?_)
  · cases h
    exact E_vret d_X12_doAll_38 rfl
  · refine E_aload_n d_X12_doAll_7 rfl (by decide) ?_
    refine E_get d_X12_doAll_8 okX12 fl_X12_481 ⟨by decide, rfl⟩ h (fun x1 h => ?_)
    refine E_if_ne (tgt := 38) d_X12_doAll_11 (by decide) h (fun _ h => ?_) (fun _ h => ?_)
    · refine E_aload_n d_X12_doAll_14 rfl (by decide) ?_
      refine E_iload_n d_X12_doAll_15 rfl ?_
      refine bd h (fun r2 q3 h => ?_)
      refine E_cVv (as := [(0, v3)]) (st := []) (a := v0) d_X12_doAll_16 mk_X12_doOne nl_X12_499 (by omega) ⟨rfl, rfl, Nat.le_of_ble_eq_true rfl⟩ okX12 rfl (L_X12_doOne hr_X12_doAll q3) ?_
      refine E_aload_n d_X12_doAll_19 rfl (by decide) ?_
      refine E_get d_X12_doAll_20 okX12 fl_X12_35 ⟨by decide, rfl⟩ h (fun x4 h => ?_)
      refine E_bipush d_X12_doAll_23 (c8 rfl) ?_
      refine E_bipush d_X12_doAll_25 (c8 rfl) ?_
      refine E_iload_n d_X12_doAll_27 rfl ?_
      refine E_imul d_X12_doAll_28 ?_
      refine E_iadd d_X12_doAll_29 ?_
      refine E_bipush d_X12_doAll_30 (c8 rfl) ?_
      refine E_iadd d_X12_doAll_32 ?_
      refine E_iaload d_X12_doAll_33 h (fun x5 h => ?_)
      refine E_istore_n d_X12_doAll_34 (ls' := [(2, v0), (9, 0), (0, v2), (0, x5)]) ⟨by decide, rfl⟩ ?_
      refine E_goto (tgt := 2) d_X12_doAll_35 (by decide) ?_
      exact (hk2 h)
    · cases h
      exact E_vret d_X12_doAll_38 rfl
noncomputable def f_X12_doAll_h2 (r_X12_doAll : (Int → Int → Int → Mem → Option (Mem))) (n : Nat) : Int → Int → Int → Mem → Option (Mem) := Nat.rec (motive := fun _ => Int → Int → Int → Mem → Option (Mem)) (fun _ _ _ _ => none) (fun _ ih => f_X12_doAll_b2 r_X12_doAll (ih)) n
theorem L_X12_doAll_h2 {sc : Nat × (Nat → Int32)} {D : Nat} {o : Mem} {r_X12_doAll : (Int → Int → Int → Mem → Option (Mem))} (hr_X12_doAll : ∀ {y0 y1 y2 : Int} {σ : Mem} {o : Mem}, r_X12_doAll y0 y1 y2 σ = some o → (isO Sh 12 y0 = true ∧ Cn mt_X12_doAll D [(2, y0), (0, y1), (0, y2)] Sh σ none Sh o)) : ∀ (n : Nat) {v0 v2 v3 : Int} {σ : Mem}, f_X12_doAll_h2 r_X12_doAll n v0 v2 v3 σ = some o → E sc (Fm Sh none Sh o) mt_X12_doAll (D + 10) Sh Sh 2 [(2, v0), (9, 0), (0, v2), (0, v3)] [] Sh σ := by
  intro n
  induction n with
  | zero => intro v0 v2 v3 σ h; cases h
  | succ n ih => intro v0 v2 v3 σ h; exact L_X12_doAll_b2 hr_X12_doAll (@ih) h
noncomputable def f_X12_doAll_b0 (r_X12_doAll : (Int → Int → Int → Mem → Option (Mem))) (v0 v1 v2 : Int) (σ : Mem) : Option (Mem) :=
  f_X12_doAll_h2 r_X12_doAll FU v0 v2 v1 σ
theorem L_X12_doAll_b0 {sc : Nat × (Nat → Int32)} {D : Nat} {o : Mem} {r_X12_doAll : (Int → Int → Int → Mem → Option (Mem))} (hr_X12_doAll : ∀ {y0 y1 y2 : Int} {σ : Mem} {o : Mem}, r_X12_doAll y0 y1 y2 σ = some o → (isO Sh 12 y0 = true ∧ Cn mt_X12_doAll D [(2, y0), (0, y1), (0, y2)] Sh σ none Sh o)) {v0 v1 v2 : Int} {σ : Mem} (h : f_X12_doAll_b0 r_X12_doAll v0 v1 v2 σ = some o) : E sc (Fm Sh none Sh o) mt_X12_doAll (D + 10) Sh Sh 0 [(2, v0), (0, v1), (0, v2), (9, 0)] [] Sh σ := by
  unfold f_X12_doAll_b0 at h
  refine E_iload_n d_X12_doAll_0 rfl ?_
  refine E_istore_n d_X12_doAll_1 (ls' := [(2, v0), (0, v1), (0, v2), (0, v1)]) ⟨by decide, rfl⟩ ?_
  exact E_weak (ls' := [(2, v0), (9, 0), (0, v2), (0, v1)]) ⟨Or.inr rfl, Or.inl rfl, Or.inr rfl, Or.inr rfl, trivial⟩ (L_X12_doAll_h2 hr_X12_doAll FU h)
noncomputable def f_X12_doAll_body (r_X12_doAll : (Int → Int → Int → Mem → Option (Mem))) (v0 v1 v2 : Int) (σ : Mem) : Option (Mem) := if isO Sh 12 v0 = true then f_X12_doAll_b0 r_X12_doAll v0 v1 v2 σ else none
theorem L_X12_doAll_body {D : Nat} {o : Mem} {r_X12_doAll : (Int → Int → Int → Mem → Option (Mem))} (hr_X12_doAll : ∀ {y0 y1 y2 : Int} {σ : Mem} {o : Mem}, r_X12_doAll y0 y1 y2 σ = some o → (isO Sh 12 y0 = true ∧ Cn mt_X12_doAll D [(2, y0), (0, y1), (0, y2)] Sh σ none Sh o)) {v0 v1 v2 : Int} {σ : Mem} (h : f_X12_doAll_body r_X12_doAll v0 v1 v2 σ = some o) : (isO Sh 12 v0 = true ∧ Cn mt_X12_doAll (D + 10) [(2, v0), (0, v1), (0, v2)] Sh σ none Sh o) := ⟨(ite_ok h).1, Cn_of mk_X12_doAll.1.2.2.1 (Nat.le_of_ble_eq_true rfl) (fun sc => L_X12_doAll_b0 hr_X12_doAll (ite_ok h).2)⟩
noncomputable def f_X12_doAll (n : Nat) : Int → Int → Int → Mem → Option (Mem) := Nat.rec (motive := fun _ => Int → Int → Int → Mem → Option (Mem)) (fun _ _ _ _ => none) (fun _ ih => f_X12_doAll_body ih) n
theorem L_X12_doAll : ∀ (n : Nat) {v0 v1 v2 : Int} {σ : Mem} {o : Mem}, f_X12_doAll n v0 v1 v2 σ = some o → (isO Sh 12 v0 = true ∧ Cn mt_X12_doAll (n * 10) [(2, v0), (0, v1), (0, v2)] Sh σ none Sh o) := by
  intro n
  induction n with
  | zero => intro v0 v1 v2 σ o h; cases h
  | succ n ih => intro v0 v1 v2 σ o h; rw [Nat.succ_mul]; exact L_X12_doAll_body (@ih) h
