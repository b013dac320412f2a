theorem d_X9_isCrow_0 : decode mt_X9_isCrow.2.1 0 = .ok (.iload_n 1, 1) := by decide +kernel
theorem d_X9_isCrow_1 : decode mt_X9_isCrow.2.1 1 = .ok (.ifCond .lt 15, 3) := by decide +kernel
theorem d_X9_isCrow_4 : decode mt_X9_isCrow.2.1 4 = .ok (.iload_n 1, 1) := by decide +kernel
theorem d_X9_isCrow_5 : decode mt_X9_isCrow.2.1 5 = .ok (.aload_n 0, 1) := by decide +kernel
theorem d_X9_isCrow_6 : decode mt_X9_isCrow.2.1 6 = .ok (.getfield 48, 3) := by decide +kernel
theorem d_X9_isCrow_9 : decode mt_X9_isCrow.2.1 9 = .ok (.if_icmp .ge 7, 3) := by decide +kernel
theorem d_X9_isCrow_12 : decode mt_X9_isCrow.2.1 12 = .ok (.iconst 1, 1) := by decide +kernel
theorem d_X9_isCrow_13 : decode mt_X9_isCrow.2.1 13 = .ok (.goto 4, 3) := by decide +kernel
theorem d_X9_isCrow_16 : decode mt_X9_isCrow.2.1 16 = .ok (.iconst 0, 1) := by decide +kernel
theorem d_X9_isCrow_17 : decode mt_X9_isCrow.2.1 17 = .ok (.ireturn, 1) := by decide +kernel
noncomputable def f_X9_isCrow_b0 (v0 v1 : Int) (σ : Mem) : Option (Int) :=
  if v1 < 0 then
    some (0)
  else
    (gf Sh σ 9 v0 7).bind fun x1 =>
    if x1 ≤ v1 then
      some (0)
    else
      some (1)
theorem L_X9_isCrow_b0 {sc : Nat × (Nat → Int32)} {o : Int} {σ : Mem} {v0 v1 : Int} (h : f_X9_isCrow_b0 v0 v1 σ = some o) : E sc (Fm Sh (some (0, o)) Sh σ) mt_X9_isCrow 1 Sh Sh 0 [(2, v0), (0, v1)] [] Sh σ := by
  unfold f_X9_isCrow_b0 at h
  refine E_iload_n d_X9_isCrow_0 rfl ?_
  refine E_if_lt (tgt := 16) d_X9_isCrow_1 (by decide) h (fun _ h => ?_) (fun _ h => ?_)
  · refine E_iconst d_X9_isCrow_16 (c32 rfl) ?_
    cases h
    exact E_zret d_X9_isCrow_17 rfl (Or.inl rfl)
  · refine E_iload_n d_X9_isCrow_4 rfl ?_
    refine E_aload_n d_X9_isCrow_5 rfl (by decide) ?_
    refine E_get d_X9_isCrow_6 okX9 fl_X9_48 ⟨by decide, rfl⟩ h (fun x1 h => ?_)
    refine E_icmp_ge (tgt := 16) d_X9_isCrow_9 (by decide) h (fun _ h => ?_) (fun _ h => ?_)
    · refine E_iconst d_X9_isCrow_16 (c32 rfl) ?_
      cases h
      exact E_zret d_X9_isCrow_17 rfl (Or.inl rfl)
    · refine E_iconst d_X9_isCrow_12 (c32 rfl) ?_
      refine E_goto (tgt := 17) d_X9_isCrow_13 (by decide) ?_
      cases h
      exact E_zret d_X9_isCrow_17 rfl (Or.inr rfl)
noncomputable def f_X9_isCrow (v0 v1 : Int) (σ : Mem) : Option (Int) := if isO Sh 9 v0 = true then f_X9_isCrow_b0 v0 v1 σ else none
theorem L_X9_isCrow {o : Int} {v0 v1 : Int} {σ : Mem} (h : f_X9_isCrow v0 v1 σ = some o) : (isO Sh 9 v0 = true ∧ Cn mt_X9_isCrow 1 [(2, v0), (0, v1)] Sh σ (some (0, o)) Sh σ) := ⟨(ite_ok h).1, Cn_of mk_X9_isCrow.1.2.2.1 (Nat.le_of_ble_eq_true rfl) (fun sc => L_X9_isCrow_b0 (ite_ok h).2)⟩
theorem d_X9_turningFrom_0 : decode mt_X9_turningFrom.2.1 0 = .ok (.iconst 0, 1) := by decide +kernel
theorem d_X9_turningFrom_1 : decode mt_X9_turningFrom.2.1 1 = .ok (.istore 4, 2) := by decide +kernel
theorem d_X9_turningFrom_3 : decode mt_X9_turningFrom.2.1 3 = .ok (.iconst 0, 1) := by decide +kernel
theorem d_X9_turningFrom_4 : decode mt_X9_turningFrom.2.1 4 = .ok (.istore 5, 2) := by decide +kernel
theorem d_X9_turningFrom_6 : decode mt_X9_turningFrom.2.1 6 = .ok (.iload 5, 2) := by decide +kernel
theorem d_X9_turningFrom_8 : decode mt_X9_turningFrom.2.1 8 = .ok (.aload_n 0, 1) := by decide +kernel
theorem d_X9_turningFrom_9 : decode mt_X9_turningFrom.2.1 9 = .ok (.getfield 42, 3) := by decide +kernel
theorem d_X9_turningFrom_12 : decode mt_X9_turningFrom.2.1 12 = .ok (.if_icmp .ge 40, 3) := by decide +kernel
theorem d_X9_turningFrom_15 : decode mt_X9_turningFrom.2.1 15 = .ok (.aload_n 0, 1) := by decide +kernel
theorem d_X9_turningFrom_16 : decode mt_X9_turningFrom.2.1 16 = .ok (.iload 5, 2) := by decide +kernel
theorem d_X9_turningFrom_18 : decode mt_X9_turningFrom.2.1 18 = .ok (.i2l, 1) := by decide +kernel
theorem d_X9_turningFrom_19 : decode mt_X9_turningFrom.2.1 19 = .ok (.invokevirtual 87, 3) := by decide +kernel
theorem d_X9_turningFrom_22 : decode mt_X9_turningFrom.2.1 22 = .ok (.ifCond .eq 24, 3) := by decide +kernel
theorem d_X9_turningFrom_25 : decode mt_X9_turningFrom.2.1 25 = .ok (.iload_n 1, 1) := by decide +kernel
theorem d_X9_turningFrom_26 : decode mt_X9_turningFrom.2.1 26 = .ok (.aload_n 0, 1) := by decide +kernel
theorem d_X9_turningFrom_27 : decode mt_X9_turningFrom.2.1 27 = .ok (.iload 5, 2) := by decide +kernel
theorem d_X9_turningFrom_29 : decode mt_X9_turningFrom.2.1 29 = .ok (.iload_n 2, 1) := by decide +kernel
theorem d_X9_turningFrom_30 : decode mt_X9_turningFrom.2.1 30 = .ok (.iload_n 3, 1) := by decide +kernel
theorem d_X9_turningFrom_31 : decode mt_X9_turningFrom.2.1 31 = .ok (.invokevirtual 100, 3) := by decide +kernel
theorem d_X9_turningFrom_34 : decode mt_X9_turningFrom.2.1 34 = .ok (.if_icmp .le 12, 3) := by decide +kernel
theorem d_X9_turningFrom_37 : decode mt_X9_turningFrom.2.1 37 = .ok (.iload 4, 2) := by decide +kernel
theorem d_X9_turningFrom_39 : decode mt_X9_turningFrom.2.1 39 = .ok (.iconst 1, 1) := by decide +kernel
theorem d_X9_turningFrom_40 : decode mt_X9_turningFrom.2.1 40 = .ok (.iload 5, 2) := by decide +kernel
theorem d_X9_turningFrom_42 : decode mt_X9_turningFrom.2.1 42 = .ok (.ishl, 1) := by decide +kernel
theorem d_X9_turningFrom_43 : decode mt_X9_turningFrom.2.1 43 = .ok (.ior, 1) := by decide +kernel
theorem d_X9_turningFrom_44 : decode mt_X9_turningFrom.2.1 44 = .ok (.istore 4, 2) := by decide +kernel
theorem d_X9_turningFrom_46 : decode mt_X9_turningFrom.2.1 46 = .ok (.iinc 5 1, 3) := by decide +kernel
theorem d_X9_turningFrom_49 : decode mt_X9_turningFrom.2.1 49 = .ok (.goto (-43), 3) := by decide +kernel
theorem d_X9_turningFrom_52 : decode mt_X9_turningFrom.2.1 52 = .ok (.iload 4, 2) := by decide +kernel
theorem d_X9_turningFrom_54 : decode mt_X9_turningFrom.2.1 54 = .ok (.ireturn, 1) := by decide +kernel
noncomputable def f_X9_turningFrom_b46 (k6 : (Int → Int → Int → Int → Int → Int → Mem → Option (Int))) (v0 v1 v2 v3 v4 v5 : Int) (σ : Mem) : Option (Int) :=
  k6 v0 v1 v2 v3 v4 (w32 (v5 + 1)) σ
theorem L_X9_turningFrom_b46 {sc : Nat × (Nat → Int32)} {o : Int} {σ : Mem} {k6 : (Int → Int → Int → Int → Int → Int → Mem → Option (Int))} (hk6 : ∀ {v0 v1 v2 v3 v4 v5 : Int}, k6 v0 v1 v2 v3 v4 v5 σ = some o → E sc (Fm Sh (some (0, o)) Sh σ) mt_X9_turningFrom 3 Sh Sh 6 [(2, v0), (0, v1), (0, v2), (0, v3), (0, v4), (0, v5)] [] Sh σ) {v0 v1 v2 v3 v4 v5 : Int} (h : f_X9_turningFrom_b46 k6 v0 v1 v2 v3 v4 v5 σ = some o) : E sc (Fm Sh (some (0, o)) Sh σ) mt_X9_turningFrom 3 Sh Sh 46 [(2, v0), (0, v1), (0, v2), (0, v3), (0, v4), (0, v5)] [] Sh σ := by
  unfold f_X9_turningFrom_b46 at h
  refine E_iinc d_X9_turningFrom_46 (ls' := [(2, v0), (0, v1), (0, v2), (0, v3), (0, v4), (0, w32 (v5 + 1))]) rfl ⟨by decide, rfl⟩ ?_
  refine E_goto (tgt := 6) d_X9_turningFrom_49 (by decide) ?_
  exact (hk6 h)
noncomputable def f_X9_turningFrom_b6 (k6 : (Int → Int → Int → Int → Int → Int → Mem → Option (Int))) (v0 v1 v2 v3 v4 v5 : Int) (σ : Mem) : Option (Int) :=
  (gf Sh σ 9 v0 0).bind fun x1 =>
  if x1 ≤ v5 then
    some (v4)
  else
    (f_X9_isStone v0 v5 σ).bind fun r2 =>
    if r2 = 0 then
      f_X9_turningFrom_b46 k6 v0 v1 v2 v3 v4 v5 σ
    else
      (f_X9_mercyFor v0 v5 v2 v3 σ).bind fun r4 =>
      if v1 ≤ r4 then
        f_X9_turningFrom_b46 k6 v0 v1 v2 v3 v4 v5 σ
      else
        f_X9_turningFrom_b46 k6 v0 v1 v2 v3 (ior v4 (ishl 1 v5)) v5 σ
theorem L_X9_turningFrom_b6 {sc : Nat × (Nat → Int32)} {o : Int} {σ : Mem} {k6 : (Int → Int → Int → Int → Int → Int → Mem → Option (Int))} (hk6 : ∀ {v0 v1 v2 v3 v4 v5 : Int}, k6 v0 v1 v2 v3 v4 v5 σ = some o → E sc (Fm Sh (some (0, o)) Sh σ) mt_X9_turningFrom 3 Sh Sh 6 [(2, v0), (0, v1), (0, v2), (0, v3), (0, v4), (0, v5)] [] Sh σ) {v0 v1 v2 v3 v4 v5 : Int} (h : f_X9_turningFrom_b6 k6 v0 v1 v2 v3 v4 v5 σ = some o) : E sc (Fm Sh (some (0, o)) Sh σ) mt_X9_turningFrom 3 Sh Sh 6 [(2, v0), (0, v1), (0, v2), (0, v3), (0, v4), (0, v5)] [] Sh σ := by
  unfold f_X9_turningFrom_b6 at h
  refine E_iload d_X9_turningFrom_6 rfl ?_
  refine E_aload_n d_X9_turningFrom_8 rfl (by decide) ?_
  refine E_get d_X9_turningFrom_9 okX9 fl_X9_42 ⟨by decide, rfl⟩ h (fun x1 h => ?_)
  refine E_icmp_ge (tgt := 52) d_X9_turningFrom_12 (by decide) h (fun _ h => ?_) (fun _ h => ?_)
  · refine E_iload d_X9_turningFrom_52 rfl ?_
    cases h
    exact E_iret d_X9_turningFrom_54 rfl
  · refine E_aload_n d_X9_turningFrom_15 rfl (by decide) ?_
    refine E_iload d_X9_turningFrom_16 rfl ?_
    refine E_i2l d_X9_turningFrom_18 ?_
    refine bd h (fun r2 q3 h => ?_)
    refine E_cV (as := [(1, v5)]) (st := []) (a := v0) d_X9_turningFrom_19 mk_X9_isStone nl_X9_87 (by omega) ⟨rfl, rfl, Nat.le_of_ble_eq_true rfl⟩ okX9 rfl (L_X9_isStone q3) ?_
    refine E_if_eq (tgt := 46) d_X9_turningFrom_22 (by decide) h (fun _ h => ?_) (fun _ h => ?_)
    · exact (L_X9_turningFrom_b46 hk6 h)
    · refine E_iload_n d_X9_turningFrom_25 rfl ?_
      refine E_aload_n d_X9_turningFrom_26 rfl (by decide) ?_
      refine E_iload d_X9_turningFrom_27 rfl ?_
      refine E_iload_n d_X9_turningFrom_29 rfl ?_
      refine E_iload_n d_X9_turningFrom_30 rfl ?_
      refine bd h (fun r4 q5 h => ?_)
      refine E_cV (as := [(0, v5), (0, v2), (0, v3)]) (st := [(0, v1)]) (a := v0) d_X9_turningFrom_31 mk_X9_mercyFor nl_X9_100 (by omega) ⟨rfl, rfl, Nat.le_of_ble_eq_true rfl⟩ okX9 rfl (L_X9_mercyFor q5) ?_
      refine E_icmp_le (tgt := 46) d_X9_turningFrom_34 (by decide) h (fun _ h => ?_) (fun _ h => ?_)
      · exact (L_X9_turningFrom_b46 hk6 h)
      · refine E_iload d_X9_turningFrom_37 rfl ?_
        refine E_iconst d_X9_turningFrom_39 (c32 rfl) ?_
        refine E_iload d_X9_turningFrom_40 rfl ?_
        refine E_ishl d_X9_turningFrom_42 ?_
        refine E_ior d_X9_turningFrom_43 ?_
        refine E_istore d_X9_turningFrom_44 (ls' := [(2, v0), (0, v1), (0, v2), (0, v3), (0, ior v4 (ishl 1 v5)), (0, v5)]) ⟨by decide, rfl⟩ ?_
        exact (L_X9_turningFrom_b46 hk6 h)
noncomputable def f_X9_turningFrom_h6 (n : Nat) : Int → Int → Int → Int → Int → Int → Mem → Option (Int) := Nat.rec (motive := fun _ => Int → Int → Int → Int → Int → Int → Mem → Option (Int)) (fun _ _ _ _ _ _ _ => none) (fun _ ih => f_X9_turningFrom_b6 (ih)) n
theorem L_X9_turningFrom_h6 {sc : Nat × (Nat → Int32)} {o : Int} {σ : Mem} : ∀ (n : Nat) {v0 v1 v2 v3 v4 v5 : Int}, f_X9_turningFrom_h6 n v0 v1 v2 v3 v4 v5 σ = some o → E sc (Fm Sh (some (0, o)) Sh σ) mt_X9_turningFrom 3 Sh Sh 6 [(2, v0), (0, v1), (0, v2), (0, v3), (0, v4), (0, v5)] [] Sh σ := by
  intro n
  induction n with
  | zero => intro v0 v1 v2 v3 v4 v5 h; cases h
  | succ n ih => intro v0 v1 v2 v3 v4 v5 h; exact L_X9_turningFrom_b6 (@ih) h
noncomputable def f_X9_turningFrom_b0 (v0 v1 v2 v3 : Int) (σ : Mem) : Option (Int) :=
  f_X9_turningFrom_h6 FU v0 v1 v2 v3 0 0 σ
theorem L_X9_turningFrom_b0 {sc : Nat × (Nat → Int32)} {o : Int} {σ : Mem} {v0 v1 v2 v3 : Int} (h : f_X9_turningFrom_b0 v0 v1 v2 v3 σ = some o) : E sc (Fm Sh (some (0, o)) Sh σ) mt_X9_turningFrom 3 Sh Sh 0 [(2, v0), (0, v1), (0, v2), (0, v3), (9, 0), (9, 0)] [] Sh σ := by
  unfold f_X9_turningFrom_b0 at h
  refine E_iconst d_X9_turningFrom_0 (c32 rfl) ?_
  refine E_istore d_X9_turningFrom_1 (ls' := [(2, v0), (0, v1), (0, v2), (0, v3), (0, 0), (9, 0)]) ⟨by decide, rfl⟩ ?_
  refine E_iconst d_X9_turningFrom_3 (c32 rfl) ?_
  refine E_istore d_X9_turningFrom_4 (ls' := [(2, v0), (0, v1), (0, v2), (0, v3), (0, 0), (0, 0)]) ⟨by decide, rfl⟩ ?_
  exact (L_X9_turningFrom_h6 FU h)
noncomputable def f_X9_turningFrom (v0 v1 v2 v3 : Int) (σ : Mem) : Option (Int) := if isO Sh 9 v0 = true then f_X9_turningFrom_b0 v0 v1 v2 v3 σ else none
theorem L_X9_turningFrom {o : Int} {v0 v1 v2 v3 : Int} {σ : Mem} (h : f_X9_turningFrom v0 v1 v2 v3 σ = some o) : (isO Sh 9 v0 = true ∧ Cn mt_X9_turningFrom 3 [(2, v0), (0, v1), (0, v2), (0, v3)] Sh σ (some (0, o)) Sh σ) := ⟨(ite_ok h).1, Cn_of mk_X9_turningFrom.1.2.2.1 (Nat.le_of_ble_eq_true rfl) (fun sc => L_X9_turningFrom_b0 (ite_ok h).2)⟩
theorem d_X9_isMost_0 : decode mt_X9_isMost.2.1 0 = .ok (.iconst 2, 1) := by decide +kernel
theorem d_X9_isMost_1 : decode mt_X9_isMost.2.1 1 = .ok (.iload_n 1, 1) := by decide +kernel
theorem d_X9_isMost_2 : decode mt_X9_isMost.2.1 2 = .ok (.invokestatic 63, 3) := by decide +kernel
theorem d_X9_isMost_5 : decode mt_X9_isMost.2.1 5 = .ok (.imul, 1) := by decide +kernel
theorem d_X9_isMost_6 : decode mt_X9_isMost.2.1 6 = .ok (.aload_n 0, 1) := by decide +kernel
theorem d_X9_isMost_7 : decode mt_X9_isMost.2.1 7 = .ok (.getfield 45, 3) := by decide +kernel
theorem d_X9_isMost_10 : decode mt_X9_isMost.2.1 10 = .ok (.invokestatic 63, 3) := by decide +kernel
theorem d_X9_isMost_13 : decode mt_X9_isMost.2.1 13 = .ok (.if_icmp .le 7, 3) := by decide +kernel
theorem d_X9_isMost_16 : decode mt_X9_isMost.2.1 16 = .ok (.iconst 1, 1) := by decide +kernel
theorem d_X9_isMost_17 : decode mt_X9_isMost.2.1 17 = .ok (.goto 4, 3) := by decide +kernel
theorem d_X9_isMost_20 : decode mt_X9_isMost.2.1 20 = .ok (.iconst 0, 1) := by decide +kernel
theorem d_X9_isMost_21 : decode mt_X9_isMost.2.1 21 = .ok (.ireturn, 1) := by decide +kernel
noncomputable def f_X9_isMost_b0 (v0 v1 : Int) (σ : Mem) : Option (Int) :=
  (f_JI_bitCount v1 σ).bind fun r1 =>
  (gf Sh σ 9 v0 1).bind fun x3 =>
  (f_JI_bitCount x3 σ).bind fun r4 =>
  if w32 (2 * r1) ≤ r4 then
    some (0)
  else
    some (1)
theorem L_X9_isMost_b0 {sc : Nat × (Nat → Int32)} {o : Int} {σ : Mem} {v0 v1 : Int} (h : f_X9_isMost_b0 v0 v1 σ = some o) : E sc (Fm Sh (some (0, o)) Sh σ) mt_X9_isMost 2 Sh Sh 0 [(2, v0), (0, v1)] [] Sh σ := by
  unfold f_X9_isMost_b0 at h
  refine E_iconst d_X9_isMost_0 (c32 rfl) ?_
  refine E_iload_n d_X9_isMost_1 rfl ?_
  refine bd h (fun r1 q2 h => ?_)
  refine E_cS (as := [(0, v1)]) (st := [(0, 2)]) d_X9_isMost_2 mk_JI_bitCount nl_X9_63 (by omega) ⟨rfl, rfl, Nat.le_of_ble_eq_true rfl⟩ (L_JI_bitCount q2) ?_
  refine E_imul d_X9_isMost_5 ?_
  refine E_aload_n d_X9_isMost_6 rfl (by decide) ?_
  refine E_get d_X9_isMost_7 okX9 fl_X9_45 ⟨by decide, rfl⟩ h (fun x3 h => ?_)
  refine bd h (fun r4 q5 h => ?_)
  refine E_cS (as := [(0, x3)]) (st := [(0, w32 (2 * r1))]) d_X9_isMost_10 mk_JI_bitCount nl_X9_63 (by omega) ⟨rfl, rfl, Nat.le_of_ble_eq_true rfl⟩ (L_JI_bitCount q5) ?_
  refine E_icmp_le (tgt := 20) d_X9_isMost_13 (by decide) h (fun _ h => ?_) (fun _ h => ?_)
  · refine E_iconst d_X9_isMost_20 (c32 rfl) ?_
    cases h
    exact E_zret d_X9_isMost_21 rfl (Or.inl rfl)
  · refine E_iconst d_X9_isMost_16 (c32 rfl) ?_
    refine E_goto (tgt := 21) d_X9_isMost_17 (by decide) ?_
    cases h
    exact E_zret d_X9_isMost_21 rfl (Or.inr rfl)
noncomputable def f_X9_isMost (v0 v1 : Int) (σ : Mem) : Option (Int) := if isO Sh 9 v0 = true then f_X9_isMost_b0 v0 v1 σ else none
theorem L_X9_isMost {o : Int} {v0 v1 : Int} {σ : Mem} (h : f_X9_isMost v0 v1 σ = some o) : (isO Sh 9 v0 = true ∧ Cn mt_X9_isMost 2 [(2, v0), (0, v1)] Sh σ (some (0, o)) Sh σ) := ⟨(ite_ok h).1, Cn_of mk_X9_isMost.1.2.2.1 (Nat.le_of_ble_eq_true rfl) (fun sc => L_X9_isMost_b0 (ite_ok h).2)⟩
theorem d_X9_weaken_0 : decode mt_X9_weaken.2.1 0 = .ok (.iconst 0, 1) := by decide +kernel
theorem d_X9_weaken_1 : decode mt_X9_weaken.2.1 1 = .ok (.istore_n 2, 1) := by decide +kernel
theorem d_X9_weaken_2 : decode mt_X9_weaken.2.1 2 = .ok (.iload_n 2, 1) := by decide +kernel
theorem d_X9_weaken_3 : decode mt_X9_weaken.2.1 3 = .ok (.aload_n 0, 1) := by decide +kernel
theorem d_X9_weaken_4 : decode mt_X9_weaken.2.1 4 = .ok (.getfield 42, 3) := by decide +kernel
theorem d_X9_weaken_7 : decode mt_X9_weaken.2.1 7 = .ok (.if_icmp .ge 42, 3) := by decide +kernel
theorem d_X9_weaken_10 : decode mt_X9_weaken.2.1 10 = .ok (.iload_n 1, 1) := by decide +kernel
theorem d_X9_weaken_11 : decode mt_X9_weaken.2.1 11 = .ok (.iload_n 2, 1) := by decide +kernel
theorem d_X9_weaken_12 : decode mt_X9_weaken.2.1 12 = .ok (.ishr, 1) := by decide +kernel
theorem d_X9_weaken_13 : decode mt_X9_weaken.2.1 13 = .ok (.iconst 1, 1) := by decide +kernel
theorem d_X9_weaken_14 : decode mt_X9_weaken.2.1 14 = .ok (.iand, 1) := by decide +kernel
theorem d_X9_weaken_15 : decode mt_X9_weaken.2.1 15 = .ok (.iconst 1, 1) := by decide +kernel
theorem d_X9_weaken_16 : decode mt_X9_weaken.2.1 16 = .ok (.if_icmp .ne 27, 3) := by decide +kernel
theorem d_X9_weaken_19 : decode mt_X9_weaken.2.1 19 = .ok (.aload_n 0, 1) := by decide +kernel
theorem d_X9_weaken_20 : decode mt_X9_weaken.2.1 20 = .ok (.getfield 18, 3) := by decide +kernel
theorem d_X9_weaken_23 : decode mt_X9_weaken.2.1 23 = .ok (.iload_n 2, 1) := by decide +kernel
theorem d_X9_weaken_24 : decode mt_X9_weaken.2.1 24 = .ok (.dup2, 1) := by decide +kernel
theorem d_X9_weaken_25 : decode mt_X9_weaken.2.1 25 = .ok (.iaload, 1) := by decide +kernel
theorem d_X9_weaken_26 : decode mt_X9_weaken.2.1 26 = .ok (.iconst 1, 1) := by decide +kernel
theorem d_X9_weaken_27 : decode mt_X9_weaken.2.1 27 = .ok (.isub, 1) := by decide +kernel
theorem d_X9_weaken_28 : decode mt_X9_weaken.2.1 28 = .ok (.iastore, 1) := by decide +kernel
theorem d_X9_weaken_29 : decode mt_X9_weaken.2.1 29 = .ok (.aload_n 0, 1) := by decide +kernel
theorem d_X9_weaken_30 : decode mt_X9_weaken.2.1 30 = .ok (.getfield 18, 3) := by decide +kernel
theorem d_X9_weaken_33 : decode mt_X9_weaken.2.1 33 = .ok (.iload_n 2, 1) := by decide +kernel
theorem d_X9_weaken_34 : decode mt_X9_weaken.2.1 34 = .ok (.iaload, 1) := by decide +kernel
theorem d_X9_weaken_35 : decode mt_X9_weaken.2.1 35 = .ok (.ifCond .gt 8, 3) := by decide +kernel
theorem d_X9_weaken_38 : decode mt_X9_weaken.2.1 38 = .ok (.aload_n 0, 1) := by decide +kernel
theorem d_X9_weaken_39 : decode mt_X9_weaken.2.1 39 = .ok (.iload_n 2, 1) := by decide +kernel
theorem d_X9_weaken_40 : decode mt_X9_weaken.2.1 40 = .ok (.invokevirtual 79, 3) := by decide +kernel
theorem d_X9_weaken_43 : decode mt_X9_weaken.2.1 43 = .ok (.iinc 2 1, 3) := by decide +kernel
theorem d_X9_weaken_46 : decode mt_X9_weaken.2.1 46 = .ok (.goto (-44), 3) := by decide +kernel
theorem d_X9_weaken_49 : decode mt_X9_weaken.2.1 49 = .ok (.return_, 1) := by decide +kernel
noncomputable def f_X9_weaken_b43 (k2 : (Int → Int → Int → Mem → Option (Mem))) (v0 v1 v2 : Int) (σ : Mem) : Option (Mem) :=
  k2 v0 v1 (w32 (v2 + 1)) σ
theorem L_X9_weaken_b43 {sc : Nat × (Nat → Int32)} {o : Mem} {k2 : (Int → Int → Int → Mem → Option (Mem))} (hk2 : ∀ {v0 v1 v2 : Int} {σ : Mem}, k2 v0 v1 v2 σ = some o → E sc (Fm Sh none Sh o) mt_X9_weaken 2 Sh Sh 2 [(2, v0), (0, v1), (0, v2)] [] Sh σ) {v0 v1 v2 : Int} {σ : Mem} (h : f_X9_weaken_b43 k2 v0 v1 v2 σ = some o) : E sc (Fm Sh none Sh o) mt_X9_weaken 2 Sh Sh 43 [(2, v0), (0, v1), (0, v2)] [] Sh σ := by
  unfold f_X9_weaken_b43 at h
  refine E_iinc d_X9_weaken_43 (ls' := [(2, v0), (0, v1), (0, w32 (v2 + 1))]) rfl ⟨by decide, rfl⟩ ?_
  refine E_goto (tgt := 2) d_X9_weaken_46 (by decide) ?_
  exact (hk2 h)
noncomputable def f_X9_weaken_b2 (k2 : (Int → Int → Int → Mem → Option (Mem))) (v0 v1 v2 : Int) (σ : Mem) : Option (Mem) :=
  (gf Sh σ 9 v0 0).bind fun x1 =>
  if x1 ≤ v2 then
    some σ
  else
    if iand (ishr v1 v2) 1 = 1 then
      (gf Sh σ 9 v0 4).bind fun x2 =>
      (al Sh σ 20 x2 v2).bind fun x3 =>
      (st_ Sh σ 20 x2 v2 (w32 (x3 - 1))).bind fun σ4 =>
      (gf Sh σ4 9 v0 4).bind fun x5 =>
      (al Sh σ4 20 x5 v2).bind fun x6 =>
      if 0 < x6 then
        f_X9_weaken_b43 k2 v0 v1 v2 σ4
      else
        (f_X9_makeGap v0 v2 σ4).bind fun r7 =>
        f_X9_weaken_b43 k2 v0 v1 v2 r7
    else
      f_X9_weaken_b43 k2 v0 v1 v2 σ
theorem L_X9_weaken_b2 {sc : Nat × (Nat → Int32)} {o : Mem} {k2 : (Int → Int → Int → Mem → Option (Mem))} (hk2 : ∀ {v0 v1 v2 : Int} {σ : Mem}, k2 v0 v1 v2 σ = some o → E sc (Fm Sh none Sh o) mt_X9_weaken 2 Sh Sh 2 [(2, v0), (0, v1), (0, v2)] [] Sh σ) {v0 v1 v2 : Int} {σ : Mem} (h : f_X9_weaken_b2 k2 v0 v1 v2 σ = some o) : E sc (Fm Sh none Sh o) mt_X9_weaken 2 Sh Sh 2 [(2, v0), (0, v1), (0, v2)] [] Sh σ := by
  unfold f_X9_weaken_b2 at h
  refine E_iload_n d_X9_weaken_2 rfl ?_
  refine E_aload_n d_X9_weaken_3 rfl (by decide) ?_
  refine E_get d_X9_weaken_4 okX9 fl_X9_42 ⟨by decide, rfl⟩ h (fun x1 h => ?_)
  refine E_icmp_ge (tgt := 49) d_X9_weaken_7 (by decide) h (fun _ h => ?_) (fun _ h => ?_)
  · cases h
    exact E_vret d_X9_weaken_49 rfl
  · refine E_iload_n d_X9_weaken_10 rfl ?_
    refine E_iload_n d_X9_weaken_11 rfl ?_
    refine E_ishr d_X9_weaken_12 ?_
    refine E_iconst d_X9_weaken_13 (c32 rfl) ?_
    refine E_iand d_X9_weaken_14 ?_
    refine E_iconst d_X9_weaken_15 (c32 rfl) ?_
    refine E_icmp_ne (tgt := 43) d_X9_weaken_16 (by decide) h (fun _ h => ?_) (fun _ h => ?_)
    · refine E_aload_n d_X9_weaken_19 rfl (by decide) ?_
      refine E_get d_X9_weaken_20 okX9 fl_X9_18 ⟨by decide, rfl⟩ h (fun x2 h => ?_)
      refine E_iload_n d_X9_weaken_23 rfl ?_
      refine E_dup2T d_X9_weaken_24 (by decide) ?_
      refine E_iaload d_X9_weaken_25 h (fun x3 h => ?_)
      refine E_iconst d_X9_weaken_26 (c32 rfl) ?_
      refine E_isub d_X9_weaken_27 ?_
      refine E_iastore d_X9_weaken_28 h (fun σ4 h => ?_)
      refine E_aload_n d_X9_weaken_29 rfl (by decide) ?_
      refine E_get d_X9_weaken_30 okX9 fl_X9_18 ⟨by decide, rfl⟩ h (fun x5 h => ?_)
      refine E_iload_n d_X9_weaken_33 rfl ?_
      refine E_iaload d_X9_weaken_34 h (fun x6 h => ?_)
      refine E_if_gt (tgt := 43) d_X9_weaken_35 (by decide) h (fun _ h => ?_) (fun _ h => ?_)
      · exact (L_X9_weaken_b43 hk2 h)
      · refine E_aload_n d_X9_weaken_38 rfl (by decide) ?_
        refine E_iload_n d_X9_weaken_39 rfl ?_
        refine bd h (fun r7 q8 h => ?_)
        refine E_cVv (as := [(0, v2)]) (st := []) (a := v0) d_X9_weaken_40 mk_X9_makeGap nl_X9_79 (by omega) ⟨rfl, rfl, Nat.le_of_ble_eq_true rfl⟩ okX9 rfl (L_X9_makeGap q8) ?_
        exact (L_X9_weaken_b43 hk2 h)
    · exact (L_X9_weaken_b43 hk2 h)
noncomputable def f_X9_weaken_h2 (n : Nat) : Int → Int → Int → Mem → Option (Mem) := Nat.rec (motive := fun _ => Int → Int → Int → Mem → Option (Mem)) (fun _ _ _ _ => none) (fun _ ih => f_X9_weaken_b2 (ih)) n
theorem L_X9_weaken_h2 {sc : Nat × (Nat → Int32)} {o : Mem} : ∀ (n : Nat) {v0 v1 v2 : Int} {σ : Mem}, f_X9_weaken_h2 n v0 v1 v2 σ = some o → E sc (Fm Sh none Sh o) mt_X9_weaken 2 Sh Sh 2 [(2, v0), (0, v1), (0, v2)] [] Sh σ := by
  intro n
  induction n with
  | zero => intro v0 v1 v2 σ h; cases h
  | succ n ih => intro v0 v1 v2 σ h; exact L_X9_weaken_b2 (@ih) h
noncomputable def f_X9_weaken_b0 (v0 v1 : Int) (σ : Mem) : Option (Mem) :=
  f_X9_weaken_h2 FU v0 v1 0 σ
theorem L_X9_weaken_b0 {sc : Nat × (Nat → Int32)} {o : Mem} {v0 v1 : Int} {σ : Mem} (h : f_X9_weaken_b0 v0 v1 σ = some o) : E sc (Fm Sh none Sh o) mt_X9_weaken 2 Sh Sh 0 [(2, v0), (0, v1), (9, 0)] [] Sh σ := by
  unfold f_X9_weaken_b0 at h
  refine E_iconst d_X9_weaken_0 (c32 rfl) ?_
  refine E_istore_n d_X9_weaken_1 (ls' := [(2, v0), (0, v1), (0, 0)]) ⟨by decide, rfl⟩ ?_
  exact (L_X9_weaken_h2 FU h)
noncomputable def f_X9_weaken (v0 v1 : Int) (σ : Mem) : Option (Mem) := if isO Sh 9 v0 = true then f_X9_weaken_b0 v0 v1 σ else none
theorem L_X9_weaken {o : Mem} {v0 v1 : Int} {σ : Mem} (h : f_X9_weaken v0 v1 σ = some o) : (isO Sh 9 v0 = true ∧ Cn mt_X9_weaken 2 [(2, v0), (0, v1)] Sh σ none Sh o) := ⟨(ite_ok h).1, Cn_of mk_X9_weaken.1.2.2.1 (Nat.le_of_ble_eq_true rfl) (fun sc => L_X9_weaken_b0 (ite_ok h).2)⟩
theorem d_X9_holdTrial_0 : decode mt_X9_holdTrial.2.1 0 = .ok (.aload_n 0, 1) := by decide +kernel
theorem d_X9_holdTrial_1 : decode mt_X9_holdTrial.2.1 1 = .ok (.iload_n 1, 1) := by decide +kernel
theorem d_X9_holdTrial_2 : decode mt_X9_holdTrial.2.1 2 = .ok (.iload_n 2, 1) := by decide +kernel
theorem d_X9_holdTrial_3 : decode mt_X9_holdTrial.2.1 3 = .ok (.iconst 0, 1) := by decide +kernel
theorem d_X9_holdTrial_4 : decode mt_X9_holdTrial.2.1 4 = .ok (.invokevirtual 104, 3) := by decide +kernel
theorem d_X9_holdTrial_7 : decode mt_X9_holdTrial.2.1 7 = .ok (.istore 4, 2) := by decide +kernel
theorem d_X9_holdTrial_9 : decode mt_X9_holdTrial.2.1 9 = .ok (.aload_n 0, 1) := by decide +kernel
theorem d_X9_holdTrial_10 : decode mt_X9_holdTrial.2.1 10 = .ok (.iload_n 2, 1) := by decide +kernel
theorem d_X9_holdTrial_11 : decode mt_X9_holdTrial.2.1 11 = .ok (.i2l, 1) := by decide +kernel
theorem d_X9_holdTrial_12 : decode mt_X9_holdTrial.2.1 12 = .ok (.invokevirtual 87, 3) := by decide +kernel
theorem d_X9_holdTrial_15 : decode mt_X9_holdTrial.2.1 15 = .ok (.ifCond .eq 16, 3) := by decide +kernel
theorem d_X9_holdTrial_18 : decode mt_X9_holdTrial.2.1 18 = .ok (.aload_n 0, 1) := by decide +kernel
theorem d_X9_holdTrial_19 : decode mt_X9_holdTrial.2.1 19 = .ok (.iload 4, 2) := by decide +kernel
theorem d_X9_holdTrial_21 : decode mt_X9_holdTrial.2.1 21 = .ok (.invokevirtual 107, 3) := by decide +kernel
theorem d_X9_holdTrial_24 : decode mt_X9_holdTrial.2.1 24 = .ok (.ifCond .eq 7, 3) := by decide +kernel
theorem d_X9_holdTrial_27 : decode mt_X9_holdTrial.2.1 27 = .ok (.iconst 1, 1) := by decide +kernel
theorem d_X9_holdTrial_28 : decode mt_X9_holdTrial.2.1 28 = .ok (.goto 4, 3) := by decide +kernel
theorem d_X9_holdTrial_31 : decode mt_X9_holdTrial.2.1 31 = .ok (.iconst 0, 1) := by decide +kernel
theorem d_X9_holdTrial_32 : decode mt_X9_holdTrial.2.1 32 = .ok (.istore 5, 2) := by decide +kernel
theorem d_X9_holdTrial_34 : decode mt_X9_holdTrial.2.1 34 = .ok (.aload_n 0, 1) := by decide +kernel
theorem d_X9_holdTrial_35 : decode mt_X9_holdTrial.2.1 35 = .ok (.dup, 1) := by decide +kernel
theorem d_X9_holdTrial_36 : decode mt_X9_holdTrial.2.1 36 = .ok (.getfield 54, 3) := by decide +kernel
theorem d_X9_holdTrial_39 : decode mt_X9_holdTrial.2.1 39 = .ok (.iconst 1, 1) := by decide +kernel
theorem d_X9_holdTrial_40 : decode mt_X9_holdTrial.2.1 40 = .ok (.iadd, 1) := by decide +kernel
theorem d_X9_holdTrial_41 : decode mt_X9_holdTrial.2.1 41 = .ok (.putfield 54, 3) := by decide +kernel
theorem d_X9_holdTrial_44 : decode mt_X9_holdTrial.2.1 44 = .ok (.iload 5, 2) := by decide +kernel
theorem d_X9_holdTrial_46 : decode mt_X9_holdTrial.2.1 46 = .ok (.ifCond .eq 13, 3) := by decide +kernel
theorem d_X9_holdTrial_49 : decode mt_X9_holdTrial.2.1 49 = .ok (.aload_n 0, 1) := by decide +kernel
theorem d_X9_holdTrial_50 : decode mt_X9_holdTrial.2.1 50 = .ok (.dup, 1) := by decide +kernel
theorem d_X9_holdTrial_51 : decode mt_X9_holdTrial.2.1 51 = .ok (.getfield 57, 3) := by decide +kernel
theorem d_X9_holdTrial_54 : decode mt_X9_holdTrial.2.1 54 = .ok (.iconst 1, 1) := by decide +kernel
theorem d_X9_holdTrial_55 : decode mt_X9_holdTrial.2.1 55 = .ok (.iadd, 1) := by decide +kernel
theorem d_X9_holdTrial_56 : decode mt_X9_holdTrial.2.1 56 = .ok (.putfield 57, 3) := by decide +kernel
theorem d_X9_holdTrial_59 : decode mt_X9_holdTrial.2.1 59 = .ok (.iload 5, 2) := by decide +kernel
theorem d_X9_holdTrial_61 : decode mt_X9_holdTrial.2.1 61 = .ok (.iload_n 3, 1) := by decide +kernel
theorem d_X9_holdTrial_62 : decode mt_X9_holdTrial.2.1 62 = .ok (.if_icmp .eq 36, 3) := by decide +kernel
theorem d_X9_holdTrial_65 : decode mt_X9_holdTrial.2.1 65 = .ok (.aload_n 0, 1) := by decide +kernel
theorem d_X9_holdTrial_66 : decode mt_X9_holdTrial.2.1 66 = .ok (.dup, 1) := by decide +kernel
theorem d_X9_holdTrial_67 : decode mt_X9_holdTrial.2.1 67 = .ok (.getfield 60, 3) := by decide +kernel
theorem d_X9_holdTrial_70 : decode mt_X9_holdTrial.2.1 70 = .ok (.iconst 1, 1) := by decide +kernel
theorem d_X9_holdTrial_71 : decode mt_X9_holdTrial.2.1 71 = .ok (.iadd, 1) := by decide +kernel
theorem d_X9_holdTrial_72 : decode mt_X9_holdTrial.2.1 72 = .ok (.putfield 60, 3) := by decide +kernel
theorem d_X9_holdTrial_75 : decode mt_X9_holdTrial.2.1 75 = .ok (.aload_n 0, 1) := by decide +kernel
theorem d_X9_holdTrial_76 : decode mt_X9_holdTrial.2.1 76 = .ok (.iload 5, 2) := by decide +kernel
theorem d_X9_holdTrial_78 : decode mt_X9_holdTrial.2.1 78 = .ok (.ifCond .eq 8, 3) := by decide +kernel
theorem d_X9_holdTrial_81 : decode mt_X9_holdTrial.2.1 81 = .ok (.iload 4, 2) := by decide +kernel
theorem d_X9_holdTrial_83 : decode mt_X9_holdTrial.2.1 83 = .ok (.goto 12, 3) := by decide +kernel
theorem d_X9_holdTrial_86 : decode mt_X9_holdTrial.2.1 86 = .ok (.aload_n 0, 1) := by decide +kernel
theorem d_X9_holdTrial_87 : decode mt_X9_holdTrial.2.1 87 = .ok (.getfield 45, 3) := by decide +kernel
theorem d_X9_holdTrial_90 : decode mt_X9_holdTrial.2.1 90 = .ok (.iload 4, 2) := by decide +kernel
theorem d_X9_holdTrial_92 : decode mt_X9_holdTrial.2.1 92 = .ok (.iconst (-1), 1) := by decide +kernel
theorem d_X9_holdTrial_93 : decode mt_X9_holdTrial.2.1 93 = .ok (.ixor, 1) := by decide +kernel
theorem d_X9_holdTrial_94 : decode mt_X9_holdTrial.2.1 94 = .ok (.iand, 1) := by decide +kernel
theorem d_X9_holdTrial_95 : decode mt_X9_holdTrial.2.1 95 = .ok (.invokevirtual 111, 3) := by decide +kernel
theorem d_X9_holdTrial_98 : decode mt_X9_holdTrial.2.1 98 = .ok (.iload 5, 2) := by decide +kernel
theorem d_X9_holdTrial_100 : decode mt_X9_holdTrial.2.1 100 = .ok (.ireturn, 1) := by decide +kernel
noncomputable def f_X9_holdTrial_b95 (v5 s0 s1 : Int) (σ : Mem) : Option (Int × Mem) :=
  (f_X9_weaken s1 s0 σ).bind fun r15 =>
  (bz v5).bind fun _ =>
  some (v5, r15)
theorem L_X9_holdTrial_b95 {sc : Nat × (Nat → Int32)} {o : Int × Mem} {v5 s0 s1 : Int} {σ : Mem} (h : f_X9_holdTrial_b95 v5 s0 s1 σ = some o) : E sc (Fm Sh (some (0, o.1)) Sh o.2) mt_X9_holdTrial 4 Sh Sh 95 [(9, 0), (9, 0), (9, 0), (9, 0), (9, 0), (0, v5)] [(0, s0), (2, s1)] Sh σ := by
  unfold f_X9_holdTrial_b95 at h
  refine bd h (fun r15 q16 h => ?_)
  refine E_cVv (as := [(0, s0)]) (st := []) (a := s1) d_X9_holdTrial_95 mk_X9_weaken nl_X9_111 (by omega) ⟨rfl, rfl, Nat.le_of_ble_eq_true rfl⟩ okX9 rfl (L_X9_weaken q16) ?_
  refine E_iload d_X9_holdTrial_98 rfl ?_
  refine bd_bz h (fun q17 h => ?_)
  cases h
  exact E_zret d_X9_holdTrial_100 rfl q17
noncomputable def f_X9_holdTrial_b59 (v0 v3 v4 v5 : Int) (σ : Mem) : Option (Int × Mem) :=
  if v5 = v3 then
    (bz v5).bind fun _ =>
    some (v5, σ)
  else
    (gf Sh σ 9 v0 15).bind fun x12 =>
    (pf Sh σ 9 v0 15 (w32 (x12 + 1))).bind fun σ13 =>
    if v5 = 0 then
      (gf Sh σ13 9 v0 1).bind fun x14 =>
      f_X9_holdTrial_b95 v5 (iand x14 (ixor v4 (-1))) v0 σ13
    else
      f_X9_holdTrial_b95 v5 v4 v0 σ13
theorem L_X9_holdTrial_b59 {sc : Nat × (Nat → Int32)} {o : Int × Mem} {v0 v3 v4 v5 : Int} {σ : Mem} (h : f_X9_holdTrial_b59 v0 v3 v4 v5 σ = some o) : E sc (Fm Sh (some (0, o.1)) Sh o.2) mt_X9_holdTrial 4 Sh Sh 59 [(2, v0), (9, 0), (9, 0), (0, v3), (0, v4), (0, v5)] [] Sh σ := by
  unfold f_X9_holdTrial_b59 at h
  refine E_iload d_X9_holdTrial_59 rfl ?_
  refine E_iload_n d_X9_holdTrial_61 rfl ?_
  refine E_icmp_eq (tgt := 98) d_X9_holdTrial_62 (by decide) h (fun _ h => ?_) (fun _ h => ?_)
  · refine E_iload d_X9_holdTrial_98 rfl ?_
    refine bd_bz h (fun q11 h => ?_)
    cases h
    exact E_zret d_X9_holdTrial_100 rfl q11
  · refine E_aload_n d_X9_holdTrial_65 rfl (by decide) ?_
    refine E_dupT d_X9_holdTrial_66 (by decide) ?_
    refine E_get d_X9_holdTrial_67 okX9 fl_X9_60 ⟨by decide, rfl⟩ h (fun x12 h => ?_)
    refine E_iconst d_X9_holdTrial_70 (c32 rfl) ?_
    refine E_iadd d_X9_holdTrial_71 ?_
    refine E_put d_X9_holdTrial_72 okX9 fl_X9_60 ⟨by decide, rfl⟩ (Or.inl ⟨rfl, rfl⟩) (Or.inl rfl) h (fun σ13 h => ?_)
    refine E_aload_n d_X9_holdTrial_75 rfl (by decide) ?_
    refine E_iload d_X9_holdTrial_76 rfl ?_
    refine E_if_eq (tgt := 86) d_X9_holdTrial_78 (by decide) h (fun _ h => ?_) (fun _ h => ?_)
    · refine E_aload_n d_X9_holdTrial_86 rfl (by decide) ?_
      refine E_get d_X9_holdTrial_87 okX9 fl_X9_45 ⟨by decide, rfl⟩ h (fun x14 h => ?_)
      refine E_iload d_X9_holdTrial_90 rfl ?_
      refine E_iconst d_X9_holdTrial_92 (c32 rfl) ?_
      refine E_ixor d_X9_holdTrial_93 ?_
      refine E_iand d_X9_holdTrial_94 ?_
      exact E_weak (ls' := [(9, 0), (9, 0), (9, 0), (9, 0), (9, 0), (0, v5)]) ⟨Or.inl rfl, Or.inl rfl, Or.inl rfl, Or.inl rfl, Or.inl rfl, Or.inr rfl, trivial⟩ (L_X9_holdTrial_b95 h)
    · refine E_iload d_X9_holdTrial_81 rfl ?_
      refine E_goto (tgt := 95) d_X9_holdTrial_83 (by decide) ?_
      exact E_weak (ls' := [(9, 0), (9, 0), (9, 0), (9, 0), (9, 0), (0, v5)]) ⟨Or.inl rfl, Or.inl rfl, Or.inl rfl, Or.inl rfl, Or.inl rfl, Or.inr rfl, trivial⟩ (L_X9_holdTrial_b95 h)
noncomputable def f_X9_holdTrial_b32 (v0 v3 v4 s0 : Int) (σ : Mem) : Option (Int × Mem) :=
  (gf Sh σ 9 v0 13).bind fun x7 =>
  (pf Sh σ 9 v0 13 (w32 (x7 + 1))).bind fun σ8 =>
  if s0 = 0 then
    f_X9_holdTrial_b59 v0 v3 v4 s0 σ8
  else
    (gf Sh σ8 9 v0 14).bind fun x9 =>
    (pf Sh σ8 9 v0 14 (w32 (x9 + 1))).bind fun σ10 =>
    f_X9_holdTrial_b59 v0 v3 v4 s0 σ10
theorem L_X9_holdTrial_b32 {sc : Nat × (Nat → Int32)} {o : Int × Mem} {v0 v3 v4 s0 : Int} {σ : Mem} (h : f_X9_holdTrial_b32 v0 v3 v4 s0 σ = some o) : E sc (Fm Sh (some (0, o.1)) Sh o.2) mt_X9_holdTrial 4 Sh Sh 32 [(2, v0), (9, 0), (9, 0), (0, v3), (0, v4), (9, 0)] [(0, s0)] Sh σ := by
  unfold f_X9_holdTrial_b32 at h
  refine E_istore d_X9_holdTrial_32 (ls' := [(2, v0), (9, 0), (9, 0), (0, v3), (0, v4), (0, s0)]) ⟨by decide, rfl⟩ ?_
  refine E_aload_n d_X9_holdTrial_34 rfl (by decide) ?_
  refine E_dupT d_X9_holdTrial_35 (by decide) ?_
  refine E_get d_X9_holdTrial_36 okX9 fl_X9_54 ⟨by decide, rfl⟩ h (fun x7 h => ?_)
  refine E_iconst d_X9_holdTrial_39 (c32 rfl) ?_
  refine E_iadd d_X9_holdTrial_40 ?_
  refine E_put d_X9_holdTrial_41 okX9 fl_X9_54 ⟨by decide, rfl⟩ (Or.inl ⟨rfl, rfl⟩) (Or.inl rfl) h (fun σ8 h => ?_)
  refine E_iload d_X9_holdTrial_44 rfl ?_
  refine E_if_eq (tgt := 59) d_X9_holdTrial_46 (by decide) h (fun _ h => ?_) (fun _ h => ?_)
  · exact (L_X9_holdTrial_b59 h)
  · refine E_aload_n d_X9_holdTrial_49 rfl (by decide) ?_
    refine E_dupT d_X9_holdTrial_50 (by decide) ?_
    refine E_get d_X9_holdTrial_51 okX9 fl_X9_57 ⟨by decide, rfl⟩ h (fun x9 h => ?_)
    refine E_iconst d_X9_holdTrial_54 (c32 rfl) ?_
    refine E_iadd d_X9_holdTrial_55 ?_
    refine E_put d_X9_holdTrial_56 okX9 fl_X9_57 ⟨by decide, rfl⟩ (Or.inl ⟨rfl, rfl⟩) (Or.inl rfl) h (fun σ10 h => ?_)
    exact (L_X9_holdTrial_b59 h)
noncomputable def f_X9_holdTrial_b31 (v0 v3 v4 : Int) (σ : Mem) : Option (Int × Mem) :=
  f_X9_holdTrial_b32 v0 v3 v4 0 σ
theorem L_X9_holdTrial_b31 {sc : Nat × (Nat → Int32)} {o : Int × Mem} {v0 v3 v4 : Int} {σ : Mem} (h : f_X9_holdTrial_b31 v0 v3 v4 σ = some o) : E sc (Fm Sh (some (0, o.1)) Sh o.2) mt_X9_holdTrial 4 Sh Sh 31 [(2, v0), (9, 0), (9, 0), (0, v3), (0, v4), (9, 0)] [] Sh σ := by
  unfold f_X9_holdTrial_b31 at h
  refine E_iconst d_X9_holdTrial_31 (c32 rfl) ?_
  exact (L_X9_holdTrial_b32 h)
noncomputable def f_X9_holdTrial_b0 (v0 v1 v2 v3 : Int) (σ : Mem) : Option (Int × Mem) :=
  (f_X9_turningFrom v0 v1 v2 0 σ).bind fun r1 =>
  (f_X9_isStone v0 v2 σ).bind fun r3 =>
  if r3 = 0 then
    f_X9_holdTrial_b31 v0 v3 r1 σ
  else
    (f_X9_isMost v0 r1 σ).bind fun r5 =>
    if r5 = 0 then
      f_X9_holdTrial_b31 v0 v3 r1 σ
    else
      f_X9_holdTrial_b32 v0 v3 r1 1 σ
theorem L_X9_holdTrial_b0 {sc : Nat × (Nat → Int32)} {o : Int × Mem} {v0 v1 v2 v3 : Int} {σ : Mem} (h : f_X9_holdTrial_b0 v0 v1 v2 v3 σ = some o) : E sc (Fm Sh (some (0, o.1)) Sh o.2) mt_X9_holdTrial 4 Sh Sh 0 [(2, v0), (0, v1), (0, v2), (0, v3), (9, 0), (9, 0)] [] Sh σ := by
  unfold f_X9_holdTrial_b0 at h
  refine E_aload_n d_X9_holdTrial_0 rfl (by decide) ?_
  refine E_iload_n d_X9_holdTrial_1 rfl ?_
  refine E_iload_n d_X9_holdTrial_2 rfl ?_
  refine E_iconst d_X9_holdTrial_3 (c32 rfl) ?_
  refine bd h (fun r1 q2 h => ?_)
  refine E_cV (as := [(0, v1), (0, v2), (0, 0)]) (st := []) (a := v0) d_X9_holdTrial_4 mk_X9_turningFrom nl_X9_104 (by omega) ⟨rfl, rfl, Nat.le_of_ble_eq_true rfl⟩ okX9 rfl (L_X9_turningFrom q2) ?_
  refine E_istore d_X9_holdTrial_7 (ls' := [(2, v0), (0, v1), (0, v2), (0, v3), (0, r1), (9, 0)]) ⟨by decide, rfl⟩ ?_
  refine E_aload_n d_X9_holdTrial_9 rfl (by decide) ?_
  refine E_iload_n d_X9_holdTrial_10 rfl ?_
  refine E_i2l d_X9_holdTrial_11 ?_
  refine bd h (fun r3 q4 h => ?_)
  refine E_cV (as := [(1, v2)]) (st := []) (a := v0) d_X9_holdTrial_12 mk_X9_isStone nl_X9_87 (by omega) ⟨rfl, rfl, Nat.le_of_ble_eq_true rfl⟩ okX9 rfl (L_X9_isStone q4) ?_
  refine E_if_eq (tgt := 31) d_X9_holdTrial_15 (by decide) h (fun _ h => ?_) (fun _ h => ?_)
  · exact E_weak (ls' := [(2, v0), (9, 0), (9, 0), (0, v3), (0, r1), (9, 0)]) ⟨Or.inr rfl, Or.inl rfl, Or.inl rfl, Or.inr rfl, Or.inr rfl, Or.inl rfl, trivial⟩ (L_X9_holdTrial_b31 h)
  · refine E_aload_n d_X9_holdTrial_18 rfl (by decide) ?_
    refine E_iload d_X9_holdTrial_19 rfl ?_
    refine bd h (fun r5 q6 h => ?_)
    refine E_cV (as := [(0, r1)]) (st := []) (a := v0) d_X9_holdTrial_21 mk_X9_isMost nl_X9_107 (by omega) ⟨rfl, rfl, Nat.le_of_ble_eq_true rfl⟩ okX9 rfl (L_X9_isMost q6) ?_
    refine E_if_eq (tgt := 31) d_X9_holdTrial_24 (by decide) h (fun _ h => ?_) (fun _ h => ?_)
    · exact E_weak (ls' := [(2, v0), (9, 0), (9, 0), (0, v3), (0, r1), (9, 0)]) ⟨Or.inr rfl, Or.inl rfl, Or.inl rfl, Or.inr rfl, Or.inr rfl, Or.inl rfl, trivial⟩ (L_X9_holdTrial_b31 h)
    · refine E_iconst d_X9_holdTrial_27 (c32 rfl) ?_
      refine E_goto (tgt := 32) d_X9_holdTrial_28 (by decide) ?_
      exact E_weak (ls' := [(2, v0), (9, 0), (9, 0), (0, v3), (0, r1), (9, 0)]) ⟨Or.inr rfl, Or.inl rfl, Or.inl rfl, Or.inr rfl, Or.inr rfl, Or.inl rfl, trivial⟩ (L_X9_holdTrial_b32 h)
noncomputable def f_X9_holdTrial (v0 v1 v2 v3 : Int) (σ : Mem) : Option (Int × Mem) := if isO Sh 9 v0 = true then f_X9_holdTrial_b0 v0 v1 v2 v3 σ else none
theorem L_X9_holdTrial {o : Int × Mem} {v0 v1 v2 v3 : Int} {σ : Mem} (h : f_X9_holdTrial v0 v1 v2 v3 σ = some o) : (isO Sh 9 v0 = true ∧ Cn mt_X9_holdTrial 4 [(2, v0), (0, v1), (0, v2), (0, v3)] Sh σ (some (0, o.1)) Sh o.2) := ⟨(ite_ok h).1, Cn_of mk_X9_holdTrial.1.2.2.1 (Nat.le_of_ble_eq_true rfl) (fun sc => L_X9_holdTrial_b0 (ite_ok h).2)⟩
theorem d_X9_passYears_0 : decode mt_X9_passYears.2.1 0 = .ok (.aload_n 0, 1) := by decide +kernel
theorem d_X9_passYears_1 : decode mt_X9_passYears.2.1 1 = .ok (.getfield 51, 3) := by decide +kernel
theorem d_X9_passYears_4 : decode mt_X9_passYears.2.1 4 = .ok (.iload_n 1, 1) := by decide +kernel
theorem d_X9_passYears_5 : decode mt_X9_passYears.2.1 5 = .ok (.iadd, 1) := by decide +kernel
theorem d_X9_passYears_6 : decode mt_X9_passYears.2.1 6 = .ok (.sipush 9999, 3) := by decide +kernel
theorem d_X9_passYears_9 : decode mt_X9_passYears.2.1 9 = .ok (.if_icmp .le 5, 3) := by decide +kernel
theorem d_X9_passYears_12 : decode mt_X9_passYears.2.1 12 = .ok (.iconst 0, 1) := by decide +kernel
theorem d_X9_passYears_13 : decode mt_X9_passYears.2.1 13 = .ok (.ireturn, 1) := by decide +kernel
theorem d_X9_passYears_14 : decode mt_X9_passYears.2.1 14 = .ok (.aload_n 0, 1) := by decide +kernel
theorem d_X9_passYears_15 : decode mt_X9_passYears.2.1 15 = .ok (.dup, 1) := by decide +kernel
theorem d_X9_passYears_16 : decode mt_X9_passYears.2.1 16 = .ok (.getfield 51, 3) := by decide +kernel
theorem d_X9_passYears_19 : decode mt_X9_passYears.2.1 19 = .ok (.iload_n 1, 1) := by decide +kernel
theorem d_X9_passYears_20 : decode mt_X9_passYears.2.1 20 = .ok (.iadd, 1) := by decide +kernel
theorem d_X9_passYears_21 : decode mt_X9_passYears.2.1 21 = .ok (.putfield 51, 3) := by decide +kernel
theorem d_X9_passYears_24 : decode mt_X9_passYears.2.1 24 = .ok (.iconst 0, 1) := by decide +kernel
theorem d_X9_passYears_25 : decode mt_X9_passYears.2.1 25 = .ok (.istore_n 2, 1) := by decide +kernel
theorem d_X9_passYears_26 : decode mt_X9_passYears.2.1 26 = .ok (.iload_n 2, 1) := by decide +kernel
theorem d_X9_passYears_27 : decode mt_X9_passYears.2.1 27 = .ok (.aload_n 0, 1) := by decide +kernel
theorem d_X9_passYears_28 : decode mt_X9_passYears.2.1 28 = .ok (.getfield 42, 3) := by decide +kernel
theorem d_X9_passYears_31 : decode mt_X9_passYears.2.1 31 = .ok (.if_icmp .ge 37, 3) := by decide +kernel
theorem d_X9_passYears_34 : decode mt_X9_passYears.2.1 34 = .ok (.aload_n 0, 1) := by decide +kernel
theorem d_X9_passYears_35 : decode mt_X9_passYears.2.1 35 = .ok (.iload_n 2, 1) := by decide +kernel
theorem d_X9_passYears_36 : decode mt_X9_passYears.2.1 36 = .ok (.i2l, 1) := by decide +kernel
theorem d_X9_passYears_37 : decode mt_X9_passYears.2.1 37 = .ok (.invokevirtual 87, 3) := by decide +kernel
theorem d_X9_passYears_40 : decode mt_X9_passYears.2.1 40 = .ok (.ifCond .eq 22, 3) := by decide +kernel
theorem d_X9_passYears_43 : decode mt_X9_passYears.2.1 43 = .ok (.aload_n 0, 1) := by decide +kernel
theorem d_X9_passYears_44 : decode mt_X9_passYears.2.1 44 = .ok (.getfield 15, 3) := by decide +kernel
theorem d_X9_passYears_47 : decode mt_X9_passYears.2.1 47 = .ok (.iload_n 2, 1) := by decide +kernel
theorem d_X9_passYears_48 : decode mt_X9_passYears.2.1 48 = .ok (.bipush 9, 2) := by decide +kernel
theorem d_X9_passYears_50 : decode mt_X9_passYears.2.1 50 = .ok (.aload_n 0, 1) := by decide +kernel
theorem d_X9_passYears_51 : decode mt_X9_passYears.2.1 51 = .ok (.getfield 15, 3) := by decide +kernel
theorem d_X9_passYears_54 : decode mt_X9_passYears.2.1 54 = .ok (.iload_n 2, 1) := by decide +kernel
theorem d_X9_passYears_55 : decode mt_X9_passYears.2.1 55 = .ok (.iaload, 1) := by decide +kernel
theorem d_X9_passYears_56 : decode mt_X9_passYears.2.1 56 = .ok (.iload_n 1, 1) := by decide +kernel
theorem d_X9_passYears_57 : decode mt_X9_passYears.2.1 57 = .ok (.iadd, 1) := by decide +kernel
theorem d_X9_passYears_58 : decode mt_X9_passYears.2.1 58 = .ok (.invokestatic 91, 3) := by decide +kernel
theorem d_X9_passYears_61 : decode mt_X9_passYears.2.1 61 = .ok (.iastore, 1) := by decide +kernel
theorem d_X9_passYears_62 : decode mt_X9_passYears.2.1 62 = .ok (.iinc 2 1, 3) := by decide +kernel
theorem d_X9_passYears_65 : decode mt_X9_passYears.2.1 65 = .ok (.goto (-39), 3) := by decide +kernel
theorem d_X9_passYears_68 : decode mt_X9_passYears.2.1 68 = .ok (.iconst 1, 1) := by decide +kernel
theorem d_X9_passYears_69 : decode mt_X9_passYears.2.1 69 = .ok (.ireturn, 1) := by decide +kernel
noncomputable def f_X9_passYears_b62 (k26 : (Int → Int → Int → Mem → Option (Int × Mem))) (v0 v1 v2 : Int) (σ : Mem) : Option (Int × Mem) :=
  k26 v0 v1 (w32 (v2 + 1)) σ
theorem L_X9_passYears_b62 {sc : Nat × (Nat → Int32)} {o : Int × Mem} {k26 : (Int → Int → Int → Mem → Option (Int × Mem))} (hk26 : ∀ {v0 v1 v2 : Int} {σ : Mem}, k26 v0 v1 v2 σ = some o → E sc (Fm Sh (some (0, o.1)) Sh o.2) mt_X9_passYears 2 Sh Sh 26 [(2, v0), (0, v1), (0, v2)] [] Sh σ) {v0 v1 v2 : Int} {σ : Mem} (h : f_X9_passYears_b62 k26 v0 v1 v2 σ = some o) : E sc (Fm Sh (some (0, o.1)) Sh o.2) mt_X9_passYears 2 Sh Sh 62 [(2, v0), (0, v1), (0, v2)] [] Sh σ := by
  unfold f_X9_passYears_b62 at h
  refine E_iinc d_X9_passYears_62 (ls' := [(2, v0), (0, v1), (0, w32 (v2 + 1))]) rfl ⟨by decide, rfl⟩ ?_
  refine E_goto (tgt := 26) d_X9_passYears_65 (by decide) ?_
  exact (hk26 h)
noncomputable def f_X9_passYears_b26 (k26 : (Int → Int → Int → Mem → Option (Int × Mem))) (v0 v1 v2 : Int) (σ : Mem) : Option (Int × Mem) :=
  (gf Sh σ 9 v0 0).bind fun x4 =>
  if x4 ≤ v2 then
    some (1, σ)
  else
    (f_X9_isStone v0 v2 σ).bind fun r5 =>
    if r5 = 0 then
      f_X9_passYears_b62 k26 v0 v1 v2 σ
    else
      (gf Sh σ 9 v0 3).bind fun x7 =>
      (gf Sh σ 9 v0 3).bind fun x8 =>
      (al Sh σ 20 x8 v2).bind fun x9 =>
      (st_ Sh σ 20 x7 v2 (imin 9 (w32 (x9 + v1)))).bind fun σ10 =>
      f_X9_passYears_b62 k26 v0 v1 v2 σ10
theorem L_X9_passYears_b26 {sc : Nat × (Nat → Int32)} {o : Int × Mem} {k26 : (Int → Int → Int → Mem → Option (Int × Mem))} (hk26 : ∀ {v0 v1 v2 : Int} {σ : Mem}, k26 v0 v1 v2 σ = some o → E sc (Fm Sh (some (0, o.1)) Sh o.2) mt_X9_passYears 2 Sh Sh 26 [(2, v0), (0, v1), (0, v2)] [] Sh σ) {v0 v1 v2 : Int} {σ : Mem} (h : f_X9_passYears_b26 k26 v0 v1 v2 σ = some o) : E sc (Fm Sh (some (0, o.1)) Sh o.2) mt_X9_passYears 2 Sh Sh 26 [(2, v0), (0, v1), (0, v2)] [] Sh σ := by
  unfold f_X9_passYears_b26 at h
  refine E_iload_n d_X9_passYears_26 rfl ?_
  refine E_aload_n d_X9_passYears_27 rfl (by decide) ?_
  refine E_get d_X9_passYears_28 okX9 fl_X9_42 ⟨by decide, rfl⟩ h (fun x4 h => ?_)
  refine E_icmp_ge (tgt := 68) d_X9_passYears_31 (by decide) h (fun _ h => ?_) (fun _ h => ?_)
  · refine E_iconst d_X9_passYears_68 (c32 rfl) ?_
    cases h
    exact E_zret d_X9_passYears_69 rfl (Or.inr rfl)
  · refine E_aload_n d_X9_passYears_34 rfl (by decide) ?_
    refine E_iload_n d_X9_passYears_35 rfl ?_
    refine E_i2l d_X9_passYears_36 ?_
    refine bd h (fun r5 q6 h => ?_)
    refine E_cV (as := [(1, v2)]) (st := []) (a := v0) d_X9_passYears_37 mk_X9_isStone nl_X9_87 (by omega) ⟨rfl, rfl, Nat.le_of_ble_eq_true rfl⟩ okX9 rfl (L_X9_isStone q6) ?_
    refine E_if_eq (tgt := 62) d_X9_passYears_40 (by decide) h (fun _ h => ?_) (fun _ h => ?_)
    · exact (L_X9_passYears_b62 hk26 h)
    · refine E_aload_n d_X9_passYears_43 rfl (by decide) ?_
      refine E_get d_X9_passYears_44 okX9 fl_X9_15 ⟨by decide, rfl⟩ h (fun x7 h => ?_)
      refine E_iload_n d_X9_passYears_47 rfl ?_
      refine E_bipush d_X9_passYears_48 (c8 rfl) ?_
      refine E_aload_n d_X9_passYears_50 rfl (by decide) ?_
      refine E_get d_X9_passYears_51 okX9 fl_X9_15 ⟨by decide, rfl⟩ h (fun x8 h => ?_)
      refine E_iload_n d_X9_passYears_54 rfl ?_
      refine E_iaload d_X9_passYears_55 h (fun x9 h => ?_)
      refine E_iload_n d_X9_passYears_56 rfl ?_
      refine E_iadd d_X9_passYears_57 ?_
      refine E_imin d_X9_passYears_58 nl_X9_91 (by omega) (Nat.le_of_ble_eq_true rfl) ?_
      refine E_iastore d_X9_passYears_61 h (fun σ10 h => ?_)
      exact (L_X9_passYears_b62 hk26 h)
noncomputable def f_X9_passYears_h26 (n : Nat) : Int → Int → Int → Mem → Option (Int × Mem) := Nat.rec (motive := fun _ => Int → Int → Int → Mem → Option (Int × Mem)) (fun _ _ _ _ => none) (fun _ ih => f_X9_passYears_b26 (ih)) n
theorem L_X9_passYears_h26 {sc : Nat × (Nat → Int32)} {o : Int × Mem} : ∀ (n : Nat) {v0 v1 v2 : Int} {σ : Mem}, f_X9_passYears_h26 n v0 v1 v2 σ = some o → E sc (Fm Sh (some (0, o.1)) Sh o.2) mt_X9_passYears 2 Sh Sh 26 [(2, v0), (0, v1), (0, v2)] [] Sh σ := by
  intro n
  induction n with
  | zero => intro v0 v1 v2 σ h; cases h
  | succ n ih => intro v0 v1 v2 σ h; exact L_X9_passYears_b26 (@ih) h
noncomputable def f_X9_passYears_b0 (v0 v1 : Int) (σ : Mem) : Option (Int × Mem) :=
  (gf Sh σ 9 v0 12).bind fun x1 =>
  if w32 (x1 + v1) ≤ 9999 then
    (gf Sh σ 9 v0 12).bind fun x2 =>
    (pf Sh σ 9 v0 12 (w32 (x2 + v1))).bind fun σ3 =>
    f_X9_passYears_h26 FU v0 v1 0 σ3
  else
    some (0, σ)
theorem L_X9_passYears_b0 {sc : Nat × (Nat → Int32)} {o : Int × Mem} {v0 v1 : Int} {σ : Mem} (h : f_X9_passYears_b0 v0 v1 σ = some o) : E sc (Fm Sh (some (0, o.1)) Sh o.2) mt_X9_passYears 2 Sh Sh 0 [(2, v0), (0, v1), (9, 0)] [] Sh σ := by
  unfold f_X9_passYears_b0 at h
  refine E_aload_n d_X9_passYears_0 rfl (by decide) ?_
  refine E_get d_X9_passYears_1 okX9 fl_X9_51 ⟨by decide, rfl⟩ h (fun x1 h => ?_)
  refine E_iload_n d_X9_passYears_4 rfl ?_
  refine E_iadd d_X9_passYears_5 ?_
  refine E_sipush d_X9_passYears_6 (c16 rfl) ?_
  refine E_icmp_le (tgt := 14) d_X9_passYears_9 (by decide) h (fun _ h => ?_) (fun _ h => ?_)
  · refine E_aload_n d_X9_passYears_14 rfl (by decide) ?_
    refine E_dupT d_X9_passYears_15 (by decide) ?_
    refine E_get d_X9_passYears_16 okX9 fl_X9_51 ⟨by decide, rfl⟩ h (fun x2 h => ?_)
    refine E_iload_n d_X9_passYears_19 rfl ?_
    refine E_iadd d_X9_passYears_20 ?_
    refine E_put d_X9_passYears_21 okX9 fl_X9_51 ⟨by decide, rfl⟩ (Or.inl ⟨rfl, rfl⟩) (Or.inl rfl) h (fun σ3 h => ?_)
    refine E_iconst d_X9_passYears_24 (c32 rfl) ?_
    refine E_istore_n d_X9_passYears_25 (ls' := [(2, v0), (0, v1), (0, 0)]) ⟨by decide, rfl⟩ ?_
    exact (L_X9_passYears_h26 FU h)
  · refine E_iconst d_X9_passYears_12 (c32 rfl) ?_
    cases h
    exact E_zret d_X9_passYears_13 rfl (Or.inl rfl)
noncomputable def f_X9_passYears (v0 v1 : Int) (σ : Mem) : Option (Int × Mem) := if isO Sh 9 v0 = true then f_X9_passYears_b0 v0 v1 σ else none
theorem L_X9_passYears {o : Int × Mem} {v0 v1 : Int} {σ : Mem} (h : f_X9_passYears v0 v1 σ = some o) : (isO Sh 9 v0 = true ∧ Cn mt_X9_passYears 2 [(2, v0), (0, v1)] Sh σ (some (0, o.1)) Sh o.2) := ⟨(ite_ok h).1, Cn_of mk_X9_passYears.1.2.2.1 (Nat.le_of_ble_eq_true rfl) (fun sc => L_X9_passYears_b0 (ite_ok h).2)⟩
theorem d_X9_condemns_0 : decode mt_X9_condemns.2.1 0 = .ok (.aload_n 0, 1) := by decide +kernel
theorem d_X9_condemns_1 : decode mt_X9_condemns.2.1 1 = .ok (.iload_n 2, 1) := by decide +kernel
theorem d_X9_condemns_2 : decode mt_X9_condemns.2.1 2 = .ok (.i2l, 1) := by decide +kernel
theorem d_X9_condemns_3 : decode mt_X9_condemns.2.1 3 = .ok (.invokevirtual 87, 3) := by decide +kernel
theorem d_X9_condemns_6 : decode mt_X9_condemns.2.1 6 = .ok (.ifCond .eq 21, 3) := by decide +kernel
theorem d_X9_condemns_9 : decode mt_X9_condemns.2.1 9 = .ok (.aload_n 0, 1) := by decide +kernel
theorem d_X9_condemns_10 : decode mt_X9_condemns.2.1 10 = .ok (.aload_n 0, 1) := by decide +kernel
theorem d_X9_condemns_11 : decode mt_X9_condemns.2.1 11 = .ok (.iload_n 1, 1) := by decide +kernel
theorem d_X9_condemns_12 : decode mt_X9_condemns.2.1 12 = .ok (.iload_n 2, 1) := by decide +kernel
theorem d_X9_condemns_13 : decode mt_X9_condemns.2.1 13 = .ok (.iload_n 3, 1) := by decide +kernel
theorem d_X9_condemns_14 : decode mt_X9_condemns.2.1 14 = .ok (.invokevirtual 104, 3) := by decide +kernel
theorem d_X9_condemns_17 : decode mt_X9_condemns.2.1 17 = .ok (.invokevirtual 107, 3) := by decide +kernel
theorem d_X9_condemns_20 : decode mt_X9_condemns.2.1 20 = .ok (.ifCond .eq 7, 3) := by decide +kernel
theorem d_X9_condemns_23 : decode mt_X9_condemns.2.1 23 = .ok (.iconst 1, 1) := by decide +kernel
theorem d_X9_condemns_24 : decode mt_X9_condemns.2.1 24 = .ok (.goto 4, 3) := by decide +kernel
theorem d_X9_condemns_27 : decode mt_X9_condemns.2.1 27 = .ok (.iconst 0, 1) := by decide +kernel
theorem d_X9_condemns_28 : decode mt_X9_condemns.2.1 28 = .ok (.ireturn, 1) := by decide +kernel
noncomputable def f_X9_condemns_b0 (v0 v1 v2 v3 : Int) (σ : Mem) : Option (Int) :=
  (f_X9_isStone v0 v2 σ).bind fun r1 =>
  if r1 = 0 then
    some (0)
  else
    (f_X9_turningFrom v0 v1 v2 v3 σ).bind fun r3 =>
    (f_X9_isMost v0 r3 σ).bind fun r5 =>
    if r5 = 0 then
      some (0)
    else
      some (1)
theorem L_X9_condemns_b0 {sc : Nat × (Nat → Int32)} {o : Int} {σ : Mem} {v0 v1 v2 v3 : Int} (h : f_X9_condemns_b0 v0 v1 v2 v3 σ = some o) : E sc (Fm Sh (some (0, o)) Sh σ) mt_X9_condemns 4 Sh Sh 0 [(2, v0), (0, v1), (0, v2), (0, v3)] [] Sh σ := by
  unfold f_X9_condemns_b0 at h
  refine E_aload_n d_X9_condemns_0 rfl (by decide) ?_
  refine E_iload_n d_X9_condemns_1 rfl ?_
  refine E_i2l d_X9_condemns_2 ?_
  refine bd h (fun r1 q2 h => ?_)
  refine E_cV (as := [(1, v2)]) (st := []) (a := v0) d_X9_condemns_3 mk_X9_isStone nl_X9_87 (by omega) ⟨rfl, rfl, Nat.le_of_ble_eq_true rfl⟩ okX9 rfl (L_X9_isStone q2) ?_
  refine E_if_eq (tgt := 27) d_X9_condemns_6 (by decide) h (fun _ h => ?_) (fun _ h => ?_)
  · refine E_iconst d_X9_condemns_27 (c32 rfl) ?_
    cases h
    exact E_zret d_X9_condemns_28 rfl (Or.inl rfl)
  · refine E_aload_n d_X9_condemns_9 rfl (by decide) ?_
    refine E_aload_n d_X9_condemns_10 rfl (by decide) ?_
    refine E_iload_n d_X9_condemns_11 rfl ?_
    refine E_iload_n d_X9_condemns_12 rfl ?_
    refine E_iload_n d_X9_condemns_13 rfl ?_
    refine bd h (fun r3 q4 h => ?_)
    refine E_cV (as := [(0, v1), (0, v2), (0, v3)]) (st := [(2, v0)]) (a := v0) d_X9_condemns_14 mk_X9_turningFrom nl_X9_104 (by omega) ⟨rfl, rfl, Nat.le_of_ble_eq_true rfl⟩ okX9 rfl (L_X9_turningFrom q4) ?_
    refine bd h (fun r5 q6 h => ?_)
    refine E_cV (as := [(0, r3)]) (st := []) (a := v0) d_X9_condemns_17 mk_X9_isMost nl_X9_107 (by omega) ⟨rfl, rfl, Nat.le_of_ble_eq_true rfl⟩ okX9 rfl (L_X9_isMost q6) ?_
    refine E_if_eq (tgt := 27) d_X9_condemns_20 (by decide) h (fun _ h => ?_) (fun _ h => ?_)
    · refine E_iconst d_X9_condemns_27 (c32 rfl) ?_
      cases h
      exact E_zret d_X9_condemns_28 rfl (Or.inl rfl)
    · refine E_iconst d_X9_condemns_23 (c32 rfl) ?_
      refine E_goto (tgt := 28) d_X9_condemns_24 (by decide) ?_
      cases h
      exact E_zret d_X9_condemns_28 rfl (Or.inr rfl)
noncomputable def f_X9_condemns (v0 v1 v2 v3 : Int) (σ : Mem) : Option (Int) := if isO Sh 9 v0 = true then f_X9_condemns_b0 v0 v1 v2 v3 σ else none
theorem L_X9_condemns {o : Int} {v0 v1 v2 v3 : Int} {σ : Mem} (h : f_X9_condemns v0 v1 v2 v3 σ = some o) : (isO Sh 9 v0 = true ∧ Cn mt_X9_condemns 4 [(2, v0), (0, v1), (0, v2), (0, v3)] Sh σ (some (0, o)) Sh σ) := ⟨(ite_ok h).1, Cn_of mk_X9_condemns.1.2.2.1 (Nat.le_of_ble_eq_true rfl) (fun sc => L_X9_condemns_b0 (ite_ok h).2)⟩
theorem d_X9_turnCount_0 : decode mt_X9_turnCount.2.1 0 = .ok (.aload_n 0, 1) := by decide +kernel
theorem d_X9_turnCount_1 : decode mt_X9_turnCount.2.1 1 = .ok (.iload_n 1, 1) := by decide +kernel
theorem d_X9_turnCount_2 : decode mt_X9_turnCount.2.1 2 = .ok (.iload_n 2, 1) := by decide +kernel
theorem d_X9_turnCount_3 : decode mt_X9_turnCount.2.1 3 = .ok (.iconst 0, 1) := by decide +kernel
theorem d_X9_turnCount_4 : decode mt_X9_turnCount.2.1 4 = .ok (.invokevirtual 104, 3) := by decide +kernel
theorem d_X9_turnCount_7 : decode mt_X9_turnCount.2.1 7 = .ok (.invokestatic 63, 3) := by decide +kernel
theorem d_X9_turnCount_10 : decode mt_X9_turnCount.2.1 10 = .ok (.ireturn, 1) := by decide +kernel
noncomputable def f_X9_turnCount_b0 (v0 v1 v2 : Int) (σ : Mem) : Option (Int) :=
  (f_X9_turningFrom v0 v1 v2 0 σ).bind fun r1 =>
  (f_JI_bitCount r1 σ).bind fun r3 =>
  some (r3)
theorem L_X9_turnCount_b0 {sc : Nat × (Nat → Int32)} {o : Int} {σ : Mem} {v0 v1 v2 : Int} (h : f_X9_turnCount_b0 v0 v1 v2 σ = some o) : E sc (Fm Sh (some (0, o)) Sh σ) mt_X9_turnCount 4 Sh Sh 0 [(2, v0), (0, v1), (0, v2)] [] Sh σ := by
  unfold f_X9_turnCount_b0 at h
  refine E_aload_n d_X9_turnCount_0 rfl (by decide) ?_
  refine E_iload_n d_X9_turnCount_1 rfl ?_
  refine E_iload_n d_X9_turnCount_2 rfl ?_
  refine E_iconst d_X9_turnCount_3 (c32 rfl) ?_
  refine bd h (fun r1 q2 h => ?_)
  refine E_cV (as := [(0, v1), (0, v2), (0, 0)]) (st := []) (a := v0) d_X9_turnCount_4 mk_X9_turningFrom nl_X9_104 (by omega) ⟨rfl, rfl, Nat.le_of_ble_eq_true rfl⟩ okX9 rfl (L_X9_turningFrom q2) ?_
  refine bd h (fun r3 q4 h => ?_)
  refine E_cS (as := [(0, r1)]) (st := []) d_X9_turnCount_7 mk_JI_bitCount nl_X9_63 (by omega) ⟨rfl, rfl, Nat.le_of_ble_eq_true rfl⟩ (L_JI_bitCount q4) ?_
  cases h
  exact E_iret d_X9_turnCount_10 rfl
noncomputable def f_X9_turnCount (v0 v1 v2 : Int) (σ : Mem) : Option (Int) := if isO Sh 9 v0 = true then f_X9_turnCount_b0 v0 v1 v2 σ else none
theorem L_X9_turnCount {o : Int} {v0 v1 v2 : Int} {σ : Mem} (h : f_X9_turnCount v0 v1 v2 σ = some o) : (isO Sh 9 v0 = true ∧ Cn mt_X9_turnCount 4 [(2, v0), (0, v1), (0, v2)] Sh σ (some (0, o)) Sh σ) := ⟨(ite_ok h).1, Cn_of mk_X9_turnCount.1.2.2.1 (Nat.le_of_ble_eq_true rfl) (fun sc => L_X9_turnCount_b0 (ite_ok h).2)⟩
theorem d_X9_bestPlace_0 : decode mt_X9_bestPlace.2.1 0 = .ok (.iconst (-1), 1) := by decide +kernel
theorem d_X9_bestPlace_1 : decode mt_X9_bestPlace.2.1 1 = .ok (.istore_n 3, 1) := by decide +kernel
theorem d_X9_bestPlace_2 : decode mt_X9_bestPlace.2.1 2 = .ok (.iconst 0, 1) := by decide +kernel
theorem d_X9_bestPlace_3 : decode mt_X9_bestPlace.2.1 3 = .ok (.istore 4, 2) := by decide +kernel
theorem d_X9_bestPlace_5 : decode mt_X9_bestPlace.2.1 5 = .ok (.iconst 0, 1) := by decide +kernel
theorem d_X9_bestPlace_6 : decode mt_X9_bestPlace.2.1 6 = .ok (.istore 5, 2) := by decide +kernel
theorem d_X9_bestPlace_8 : decode mt_X9_bestPlace.2.1 8 = .ok (.iload 5, 2) := by decide +kernel
theorem d_X9_bestPlace_10 : decode mt_X9_bestPlace.2.1 10 = .ok (.aload_n 0, 1) := by decide +kernel
theorem d_X9_bestPlace_11 : decode mt_X9_bestPlace.2.1 11 = .ok (.getfield 42, 3) := by decide +kernel
theorem d_X9_bestPlace_14 : decode mt_X9_bestPlace.2.1 14 = .ok (.if_icmp .ge 49, 3) := by decide +kernel
theorem d_X9_bestPlace_17 : decode mt_X9_bestPlace.2.1 17 = .ok (.aload_n 0, 1) := by decide +kernel
theorem d_X9_bestPlace_18 : decode mt_X9_bestPlace.2.1 18 = .ok (.iload 5, 2) := by decide +kernel
theorem d_X9_bestPlace_20 : decode mt_X9_bestPlace.2.1 20 = .ok (.i2l, 1) := by decide +kernel
theorem d_X9_bestPlace_21 : decode mt_X9_bestPlace.2.1 21 = .ok (.invokevirtual 87, 3) := by decide +kernel
theorem d_X9_bestPlace_24 : decode mt_X9_bestPlace.2.1 24 = .ok (.ifCond .eq 33, 3) := by decide +kernel
theorem d_X9_bestPlace_27 : decode mt_X9_bestPlace.2.1 27 = .ok (.iload_n 2, 1) := by decide +kernel
theorem d_X9_bestPlace_28 : decode mt_X9_bestPlace.2.1 28 = .ok (.aload_n 0, 1) := by decide +kernel
theorem d_X9_bestPlace_29 : decode mt_X9_bestPlace.2.1 29 = .ok (.iload_n 1, 1) := by decide +kernel
theorem d_X9_bestPlace_30 : decode mt_X9_bestPlace.2.1 30 = .ok (.iload 5, 2) := by decide +kernel
theorem d_X9_bestPlace_32 : decode mt_X9_bestPlace.2.1 32 = .ok (.invokevirtual 114, 3) := by decide +kernel
theorem d_X9_bestPlace_35 : decode mt_X9_bestPlace.2.1 35 = .ok (.imul, 1) := by decide +kernel
theorem d_X9_bestPlace_36 : decode mt_X9_bestPlace.2.1 36 = .ok (.istore 6, 2) := by decide +kernel
theorem d_X9_bestPlace_38 : decode mt_X9_bestPlace.2.1 38 = .ok (.iload_n 3, 1) := by decide +kernel
theorem d_X9_bestPlace_39 : decode mt_X9_bestPlace.2.1 39 = .ok (.iconst (-1), 1) := by decide +kernel
theorem d_X9_bestPlace_40 : decode mt_X9_bestPlace.2.1 40 = .ok (.if_icmp .eq 10, 3) := by decide +kernel
theorem d_X9_bestPlace_43 : decode mt_X9_bestPlace.2.1 43 = .ok (.iload 6, 2) := by decide +kernel
theorem d_X9_bestPlace_45 : decode mt_X9_bestPlace.2.1 45 = .ok (.iload 4, 2) := by decide +kernel
theorem d_X9_bestPlace_47 : decode mt_X9_bestPlace.2.1 47 = .ok (.if_icmp .ge 10, 3) := by decide +kernel
theorem d_X9_bestPlace_50 : decode mt_X9_bestPlace.2.1 50 = .ok (.iload 5, 2) := by decide +kernel
theorem d_X9_bestPlace_52 : decode mt_X9_bestPlace.2.1 52 = .ok (.istore_n 3, 1) := by decide +kernel
theorem d_X9_bestPlace_53 : decode mt_X9_bestPlace.2.1 53 = .ok (.iload 6, 2) := by decide +kernel
theorem d_X9_bestPlace_55 : decode mt_X9_bestPlace.2.1 55 = .ok (.istore 4, 2) := by decide +kernel
theorem d_X9_bestPlace_57 : decode mt_X9_bestPlace.2.1 57 = .ok (.iinc 5 1, 3) := by decide +kernel
theorem d_X9_bestPlace_60 : decode mt_X9_bestPlace.2.1 60 = .ok (.goto (-52), 3) := by decide +kernel
theorem d_X9_bestPlace_63 : decode mt_X9_bestPlace.2.1 63 = .ok (.iload_n 3, 1) := by decide +kernel
theorem d_X9_bestPlace_64 : decode mt_X9_bestPlace.2.1 64 = .ok (.ireturn, 1) := by decide +kernel
noncomputable def f_X9_bestPlace_b57 (k8 : (Int → Int → Int → Int → Int → Int → Mem → Option (Int))) (v0 v1 v2 v3 v4 v5 : Int) (σ : Mem) : Option (Int) :=
  k8 v0 v1 v2 v3 v4 (w32 (v5 + 1)) σ
theorem L_X9_bestPlace_b57 {sc : Nat × (Nat → Int32)} {o : Int} {σ : Mem} {k8 : (Int → Int → Int → Int → Int → Int → Mem → Option (Int))} (hk8 : ∀ {v0 v1 v2 v3 v4 v5 : Int}, k8 v0 v1 v2 v3 v4 v5 σ = some o → E sc (Fm Sh (some (0, o)) Sh σ) mt_X9_bestPlace 5 Sh Sh 8 [(2, v0), (0, v1), (0, v2), (0, v3), (0, v4), (0, v5), (9, 0)] [] Sh σ) {v0 v1 v2 v3 v4 v5 : Int} (h : f_X9_bestPlace_b57 k8 v0 v1 v2 v3 v4 v5 σ = some o) : E sc (Fm Sh (some (0, o)) Sh σ) mt_X9_bestPlace 5 Sh Sh 57 [(2, v0), (0, v1), (0, v2), (0, v3), (0, v4), (0, v5), (9, 0)] [] Sh σ := by
  unfold f_X9_bestPlace_b57 at h
  refine E_iinc d_X9_bestPlace_57 (ls' := [(2, v0), (0, v1), (0, v2), (0, v3), (0, v4), (0, w32 (v5 + 1)), (9, 0)]) rfl ⟨by decide, rfl⟩ ?_
  refine E_goto (tgt := 8) d_X9_bestPlace_60 (by decide) ?_
  exact (hk8 h)
noncomputable def f_X9_bestPlace_b50 (k8 : (Int → Int → Int → Int → Int → Int → Mem → Option (Int))) (v0 v1 v2 v5 v6 : Int) (σ : Mem) : Option (Int) :=
  f_X9_bestPlace_b57 k8 v0 v1 v2 v5 v6 v5 σ
theorem L_X9_bestPlace_b50 {sc : Nat × (Nat → Int32)} {o : Int} {σ : Mem} {k8 : (Int → Int → Int → Int → Int → Int → Mem → Option (Int))} (hk8 : ∀ {v0 v1 v2 v3 v4 v5 : Int}, k8 v0 v1 v2 v3 v4 v5 σ = some o → E sc (Fm Sh (some (0, o)) Sh σ) mt_X9_bestPlace 5 Sh Sh 8 [(2, v0), (0, v1), (0, v2), (0, v3), (0, v4), (0, v5), (9, 0)] [] Sh σ) {v0 v1 v2 v5 v6 : Int} (h : f_X9_bestPlace_b50 k8 v0 v1 v2 v5 v6 σ = some o) : E sc (Fm Sh (some (0, o)) Sh σ) mt_X9_bestPlace 5 Sh Sh 50 [(2, v0), (0, v1), (0, v2), (9, 0), (9, 0), (0, v5), (0, v6)] [] Sh σ := by
  unfold f_X9_bestPlace_b50 at h
  refine E_iload d_X9_bestPlace_50 rfl ?_
  refine E_istore_n d_X9_bestPlace_52 (ls' := [(2, v0), (0, v1), (0, v2), (0, v5), (9, 0), (0, v5), (0, v6)]) ⟨by decide, rfl⟩ ?_
  refine E_iload d_X9_bestPlace_53 rfl ?_
  refine E_istore d_X9_bestPlace_55 (ls' := [(2, v0), (0, v1), (0, v2), (0, v5), (0, v6), (0, v5), (0, v6)]) ⟨by decide, rfl⟩ ?_
  exact E_weak (ls' := [(2, v0), (0, v1), (0, v2), (0, v5), (0, v6), (0, v5), (9, 0)]) ⟨Or.inr rfl, Or.inr rfl, Or.inr rfl, Or.inr rfl, Or.inr rfl, Or.inr rfl, Or.inl rfl, trivial⟩ (L_X9_bestPlace_b57 hk8 h)
noncomputable def f_X9_bestPlace_b8 (k8 : (Int → Int → Int → Int → Int → Int → Mem → Option (Int))) (v0 v1 v2 v3 v4 v5 : Int) (σ : Mem) : Option (Int) :=
  (gf Sh σ 9 v0 0).bind fun x1 =>
  if x1 ≤ v5 then
    some (v3)
  else
    (f_X9_isStone v0 v5 σ).bind fun r2 =>
    if r2 = 0 then
      f_X9_bestPlace_b57 k8 v0 v1 v2 v3 v4 v5 σ
    else
      (f_X9_turnCount v0 v1 v5 σ).bind fun r4 =>
      if v3 = (-1) then
        f_X9_bestPlace_b50 k8 v0 v1 v2 v5 (w32 (v2 * r4)) σ
      else
        if v4 ≤ w32 (v2 * r4) then
          f_X9_bestPlace_b57 k8 v0 v1 v2 v3 v4 v5 σ
        else
          f_X9_bestPlace_b50 k8 v0 v1 v2 v5 (w32 (v2 * r4)) σ
theorem L_X9_bestPlace_b8 {sc : Nat × (Nat → Int32)} {o : Int} {σ : Mem} {k8 : (Int → Int → Int → Int → Int → Int → Mem → Option (Int))} (hk8 : ∀ {v0 v1 v2 v3 v4 v5 : Int}, k8 v0 v1 v2 v3 v4 v5 σ = some o → E sc (Fm Sh (some (0, o)) Sh σ) mt_X9_bestPlace 5 Sh Sh 8 [(2, v0), (0, v1), (0, v2), (0, v3), (0, v4), (0, v5), (9, 0)] [] Sh σ) {v0 v1 v2 v3 v4 v5 : Int} (h : f_X9_bestPlace_b8 k8 v0 v1 v2 v3 v4 v5 σ = some o) : E sc (Fm Sh (some (0, o)) Sh σ) mt_X9_bestPlace 5 Sh Sh 8 [(2, v0), (0, v1), (0, v2), (0, v3), (0, v4), (0, v5), (9, 0)] [] Sh σ := by
  unfold f_X9_bestPlace_b8 at h
  refine E_iload d_X9_bestPlace_8 rfl ?_
  refine E_aload_n d_X9_bestPlace_10 rfl (by decide) ?_
  refine E_get d_X9_bestPlace_11 okX9 fl_X9_42 ⟨by decide, rfl⟩ h (fun x1 h => ?_)
  refine E_icmp_ge (tgt := 63) d_X9_bestPlace_14 (by decide) h (fun _ h => ?_) (fun _ h => ?_)
  · refine E_iload_n d_X9_bestPlace_63 rfl ?_
    cases h
    exact E_iret d_X9_bestPlace_64 rfl
  · refine E_aload_n d_X9_bestPlace_17 rfl (by decide) ?_
    refine E_iload d_X9_bestPlace_18 rfl ?_
    refine E_i2l d_X9_bestPlace_20 ?_
    refine bd h (fun r2 q3 h => ?_)
    refine E_cV (as := [(1, v5)]) (st := []) (a := v0) d_X9_bestPlace_21 mk_X9_isStone nl_X9_87 (by omega) ⟨rfl, rfl, Nat.le_of_ble_eq_true rfl⟩ okX9 rfl (L_X9_isStone q3) ?_
    refine E_if_eq (tgt := 57) d_X9_bestPlace_24 (by decide) h (fun _ h => ?_) (fun _ h => ?_)
    · exact (L_X9_bestPlace_b57 hk8 h)
    · refine E_iload_n d_X9_bestPlace_27 rfl ?_
      refine E_aload_n d_X9_bestPlace_28 rfl (by decide) ?_
      refine E_iload_n d_X9_bestPlace_29 rfl ?_
      refine E_iload d_X9_bestPlace_30 rfl ?_
      refine bd h (fun r4 q5 h => ?_)
      refine E_cV (as := [(0, v1), (0, v5)]) (st := [(0, v2)]) (a := v0) d_X9_bestPlace_32 mk_X9_turnCount nl_X9_114 (by omega) ⟨rfl, rfl, Nat.le_of_ble_eq_true rfl⟩ okX9 rfl (L_X9_turnCount q5) ?_
      refine E_imul d_X9_bestPlace_35 ?_
      refine E_istore d_X9_bestPlace_36 (ls' := [(2, v0), (0, v1), (0, v2), (0, v3), (0, v4), (0, v5), (0, w32 (v2 * r4))]) ⟨by decide, rfl⟩ ?_
      refine E_iload_n d_X9_bestPlace_38 rfl ?_
      refine E_iconst d_X9_bestPlace_39 (c32 rfl) ?_
      refine E_icmp_eq (tgt := 50) d_X9_bestPlace_40 (by decide) h (fun _ h => ?_) (fun _ h => ?_)
      · exact E_weak (ls' := [(2, v0), (0, v1), (0, v2), (9, 0), (9, 0), (0, v5), (0, w32 (v2 * r4))]) ⟨Or.inr rfl, Or.inr rfl, Or.inr rfl, Or.inl rfl, Or.inl rfl, Or.inr rfl, Or.inr rfl, trivial⟩ (L_X9_bestPlace_b50 hk8 h)
      · refine E_iload d_X9_bestPlace_43 rfl ?_
        refine E_iload d_X9_bestPlace_45 rfl ?_
        refine E_icmp_ge (tgt := 57) d_X9_bestPlace_47 (by decide) h (fun _ h => ?_) (fun _ h => ?_)
        · exact E_weak (ls' := [(2, v0), (0, v1), (0, v2), (0, v3), (0, v4), (0, v5), (9, 0)]) ⟨Or.inr rfl, Or.inr rfl, Or.inr rfl, Or.inr rfl, Or.inr rfl, Or.inr rfl, Or.inl rfl, trivial⟩ (L_X9_bestPlace_b57 hk8 h)
        · exact E_weak (ls' := [(2, v0), (0, v1), (0, v2), (9, 0), (9, 0), (0, v5), (0, w32 (v2 * r4))]) ⟨Or.inr rfl, Or.inr rfl, Or.inr rfl, Or.inl rfl, Or.inl rfl, Or.inr rfl, Or.inr rfl, trivial⟩ (L_X9_bestPlace_b50 hk8 h)
noncomputable def f_X9_bestPlace_h8 (n : Nat) : Int → Int → Int → Int → Int → Int → Mem → Option (Int) := Nat.rec (motive := fun _ => Int → Int → Int → Int → Int → Int → Mem → Option (Int)) (fun _ _ _ _ _ _ _ => none) (fun _ ih => f_X9_bestPlace_b8 (ih)) n
theorem L_X9_bestPlace_h8 {sc : Nat × (Nat → Int32)} {o : Int} {σ : Mem} : ∀ (n : Nat) {v0 v1 v2 v3 v4 v5 : Int}, f_X9_bestPlace_h8 n v0 v1 v2 v3 v4 v5 σ = some o → E sc (Fm Sh (some (0, o)) Sh σ) mt_X9_bestPlace 5 Sh Sh 8 [(2, v0), (0, v1), (0, v2), (0, v3), (0, v4), (0, v5), (9, 0)] [] Sh σ := by
  intro n
  induction n with
  | zero => intro v0 v1 v2 v3 v4 v5 h; cases h
  | succ n ih => intro v0 v1 v2 v3 v4 v5 h; exact L_X9_bestPlace_b8 (@ih) h
noncomputable def f_X9_bestPlace_b0 (v0 v1 v2 : Int) (σ : Mem) : Option (Int) :=
  f_X9_bestPlace_h8 FU v0 v1 v2 (-1) 0 0 σ
theorem L_X9_bestPlace_b0 {sc : Nat × (Nat → Int32)} {o : Int} {σ : Mem} {v0 v1 v2 : Int} (h : f_X9_bestPlace_b0 v0 v1 v2 σ = some o) : E sc (Fm Sh (some (0, o)) Sh σ) mt_X9_bestPlace 5 Sh Sh 0 [(2, v0), (0, v1), (0, v2), (9, 0), (9, 0), (9, 0), (9, 0)] [] Sh σ := by
  unfold f_X9_bestPlace_b0 at h
  refine E_iconst d_X9_bestPlace_0 (c32 rfl) ?_
  refine E_istore_n d_X9_bestPlace_1 (ls' := [(2, v0), (0, v1), (0, v2), (0, (-1)), (9, 0), (9, 0), (9, 0)]) ⟨by decide, rfl⟩ ?_
  refine E_iconst d_X9_bestPlace_2 (c32 rfl) ?_
  refine E_istore d_X9_bestPlace_3 (ls' := [(2, v0), (0, v1), (0, v2), (0, (-1)), (0, 0), (9, 0), (9, 0)]) ⟨by decide, rfl⟩ ?_
  refine E_iconst d_X9_bestPlace_5 (c32 rfl) ?_
  refine E_istore d_X9_bestPlace_6 (ls' := [(2, v0), (0, v1), (0, v2), (0, (-1)), (0, 0), (0, 0), (9, 0)]) ⟨by decide, rfl⟩ ?_
  exact (L_X9_bestPlace_h8 FU h)
noncomputable def f_X9_bestPlace (v0 v1 v2 : Int) (σ : Mem) : Option (Int) := if isO Sh 9 v0 = true then f_X9_bestPlace_b0 v0 v1 v2 σ else none
theorem L_X9_bestPlace {o : Int} {v0 v1 v2 : Int} {σ : Mem} (h : f_X9_bestPlace v0 v1 v2 σ = some o) : (isO Sh 9 v0 = true ∧ Cn mt_X9_bestPlace 5 [(2, v0), (0, v1), (0, v2)] Sh σ (some (0, o)) Sh σ) := ⟨(ite_ok h).1, Cn_of mk_X9_bestPlace.1.2.2.1 (Nat.le_of_ble_eq_true rfl) (fun sc => L_X9_bestPlace_b0 (ite_ok h).2)⟩
theorem d_X9_leastGuilt_0 : decode mt_X9_leastGuilt.2.1 0 = .ok (.iconst 0, 1) := by decide +kernel
theorem d_X9_leastGuilt_1 : decode mt_X9_leastGuilt.2.1 1 = .ok (.istore_n 2, 1) := by decide +kernel
theorem d_X9_leastGuilt_2 : decode mt_X9_leastGuilt.2.1 2 = .ok (.iload_n 2, 1) := by decide +kernel
theorem d_X9_leastGuilt_3 : decode mt_X9_leastGuilt.2.1 3 = .ok (.bipush 99, 2) := by decide +kernel
theorem d_X9_leastGuilt_5 : decode mt_X9_leastGuilt.2.1 5 = .ok (.if_icmp .gt 21, 3) := by decide +kernel
theorem d_X9_leastGuilt_8 : decode mt_X9_leastGuilt.2.1 8 = .ok (.aload_n 0, 1) := by decide +kernel
theorem d_X9_leastGuilt_9 : decode mt_X9_leastGuilt.2.1 9 = .ok (.iload_n 2, 1) := by decide +kernel
theorem d_X9_leastGuilt_10 : decode mt_X9_leastGuilt.2.1 10 = .ok (.iload_n 1, 1) := by decide +kernel
theorem d_X9_leastGuilt_11 : decode mt_X9_leastGuilt.2.1 11 = .ok (.iconst 0, 1) := by decide +kernel
theorem d_X9_leastGuilt_12 : decode mt_X9_leastGuilt.2.1 12 = .ok (.invokevirtual 117, 3) := by decide +kernel
theorem d_X9_leastGuilt_15 : decode mt_X9_leastGuilt.2.1 15 = .ok (.ifCond .eq 5, 3) := by decide +kernel
theorem d_X9_leastGuilt_18 : decode mt_X9_leastGuilt.2.1 18 = .ok (.iload_n 2, 1) := by decide +kernel
theorem d_X9_leastGuilt_19 : decode mt_X9_leastGuilt.2.1 19 = .ok (.ireturn, 1) := by decide +kernel
theorem d_X9_leastGuilt_20 : decode mt_X9_leastGuilt.2.1 20 = .ok (.iinc 2 1, 3) := by decide +kernel
theorem d_X9_leastGuilt_23 : decode mt_X9_leastGuilt.2.1 23 = .ok (.goto (-21), 3) := by decide +kernel
theorem d_X9_leastGuilt_26 : decode mt_X9_leastGuilt.2.1 26 = .ok (.iconst (-1), 1) := by decide +kernel
theorem d_X9_leastGuilt_27 : decode mt_X9_leastGuilt.2.1 27 = .ok (.ireturn, 1) := by decide +kernel
noncomputable def f_X9_leastGuilt_b2 (k2 : (Int → Int → Int → Mem → Option (Int))) (v0 v1 v2 : Int) (σ : Mem) : Option (Int) :=
  if 99 < v2 then
    some ((-1))
  else
    (f_X9_condemns v0 v2 v1 0 σ).bind fun r1 =>
    if r1 = 0 then
      k2 v0 v1 (w32 (v2 + 1)) σ
    else
      some (v2)
theorem L_X9_leastGuilt_b2 {sc : Nat × (Nat → Int32)} {o : Int} {σ : Mem} {k2 : (Int → Int → Int → Mem → Option (Int))} (hk2 : ∀ {v0 v1 v2 : Int}, k2 v0 v1 v2 σ = some o → E sc (Fm Sh (some (0, o)) Sh σ) mt_X9_leastGuilt 5 Sh Sh 2 [(2, v0), (0, v1), (0, v2)] [] Sh σ) {v0 v1 v2 : Int} (h : f_X9_leastGuilt_b2 k2 v0 v1 v2 σ = some o) : E sc (Fm Sh (some (0, o)) Sh σ) mt_X9_leastGuilt 5 Sh Sh 2 [(2, v0), (0, v1), (0, v2)] [] Sh σ := by
  unfold f_X9_leastGuilt_b2 at h
  refine E_iload_n d_X9_leastGuilt_2 rfl ?_
  refine E_bipush d_X9_leastGuilt_3 (c8 rfl) ?_
  refine E_icmp_gt (tgt := 26) d_X9_leastGuilt_5 (by decide) h (fun _ h => ?_) (fun _ h => ?_)
  · refine E_iconst d_X9_leastGuilt_26 (c32 rfl) ?_
    cases h
    exact E_iret d_X9_leastGuilt_27 rfl
  · refine E_aload_n d_X9_leastGuilt_8 rfl (by decide) ?_
    refine E_iload_n d_X9_leastGuilt_9 rfl ?_
    refine E_iload_n d_X9_leastGuilt_10 rfl ?_
    refine E_iconst d_X9_leastGuilt_11 (c32 rfl) ?_
    refine bd h (fun r1 q2 h => ?_)
    refine E_cV (as := [(0, v2), (0, v1), (0, 0)]) (st := []) (a := v0) d_X9_leastGuilt_12 mk_X9_condemns nl_X9_117 (by omega) ⟨rfl, rfl, Nat.le_of_ble_eq_true rfl⟩ okX9 rfl (L_X9_condemns q2) ?_
    refine E_if_eq (tgt := 20) d_X9_leastGuilt_15 (by decide) h (fun _ h => ?_) (fun _ h => ?_)
    · refine E_iinc d_X9_leastGuilt_20 (ls' := [(2, v0), (0, v1), (0, w32 (v2 + 1))]) rfl ⟨by decide, rfl⟩ ?_
      refine E_goto (tgt := 2) d_X9_leastGuilt_23 (by decide) ?_
      exact (hk2 h)
    · refine E_iload_n d_X9_leastGuilt_18 rfl ?_
      cases h
      exact E_iret d_X9_leastGuilt_19 rfl
noncomputable def f_X9_leastGuilt_h2 (n : Nat) : Int → Int → Int → Mem → Option (Int) := Nat.rec (motive := fun _ => Int → Int → Int → Mem → Option (Int)) (fun _ _ _ _ => none) (fun _ ih => f_X9_leastGuilt_b2 (ih)) n
theorem L_X9_leastGuilt_h2 {sc : Nat × (Nat → Int32)} {o : Int} {σ : Mem} : ∀ (n : Nat) {v0 v1 v2 : Int}, f_X9_leastGuilt_h2 n v0 v1 v2 σ = some o → E sc (Fm Sh (some (0, o)) Sh σ) mt_X9_leastGuilt 5 Sh Sh 2 [(2, v0), (0, v1), (0, v2)] [] Sh σ := by
  intro n
  induction n with
  | zero => intro v0 v1 v2 h; cases h
  | succ n ih => intro v0 v1 v2 h; exact L_X9_leastGuilt_b2 (@ih) h
noncomputable def f_X9_leastGuilt_b0 (v0 v1 : Int) (σ : Mem) : Option (Int) :=
  f_X9_leastGuilt_h2 FU v0 v1 0 σ
theorem L_X9_leastGuilt_b0 {sc : Nat × (Nat → Int32)} {o : Int} {σ : Mem} {v0 v1 : Int} (h : f_X9_leastGuilt_b0 v0 v1 σ = some o) : E sc (Fm Sh (some (0, o)) Sh σ) mt_X9_leastGuilt 5 Sh Sh 0 [(2, v0), (0, v1), (9, 0)] [] Sh σ := by
  unfold f_X9_leastGuilt_b0 at h
  refine E_iconst d_X9_leastGuilt_0 (c32 rfl) ?_
  refine E_istore_n d_X9_leastGuilt_1 (ls' := [(2, v0), (0, v1), (0, 0)]) ⟨by decide, rfl⟩ ?_
  exact (L_X9_leastGuilt_h2 FU h)
noncomputable def f_X9_leastGuilt (v0 v1 : Int) (σ : Mem) : Option (Int) := if isO Sh 9 v0 = true then f_X9_leastGuilt_b0 v0 v1 σ else none
theorem L_X9_leastGuilt {o : Int} {v0 v1 : Int} {σ : Mem} (h : f_X9_leastGuilt v0 v1 σ = some o) : (isO Sh 9 v0 = true ∧ Cn mt_X9_leastGuilt 5 [(2, v0), (0, v1)] Sh σ (some (0, o)) Sh σ) := ⟨(ite_ok h).1, Cn_of mk_X9_leastGuilt.1.2.2.1 (Nat.le_of_ble_eq_true rfl) (fun sc => L_X9_leastGuilt_b0 (ite_ok h).2)⟩
theorem d_X9_yearsToFree_0 : decode mt_X9_yearsToFree.2.1 0 = .ok (.iconst 0, 1) := by decide +kernel
theorem d_X9_yearsToFree_1 : decode mt_X9_yearsToFree.2.1 1 = .ok (.istore_n 3, 1) := by decide +kernel
theorem d_X9_yearsToFree_2 : decode mt_X9_yearsToFree.2.1 2 = .ok (.iload_n 3, 1) := by decide +kernel
theorem d_X9_yearsToFree_3 : decode mt_X9_yearsToFree.2.1 3 = .ok (.bipush 9, 2) := by decide +kernel
theorem d_X9_yearsToFree_5 : decode mt_X9_yearsToFree.2.1 5 = .ok (.if_icmp .gt 21, 3) := by decide +kernel
theorem d_X9_yearsToFree_8 : decode mt_X9_yearsToFree.2.1 8 = .ok (.aload_n 0, 1) := by decide +kernel
theorem d_X9_yearsToFree_9 : decode mt_X9_yearsToFree.2.1 9 = .ok (.iload_n 1, 1) := by decide +kernel
theorem d_X9_yearsToFree_10 : decode mt_X9_yearsToFree.2.1 10 = .ok (.iload_n 2, 1) := by decide +kernel
theorem d_X9_yearsToFree_11 : decode mt_X9_yearsToFree.2.1 11 = .ok (.iload_n 3, 1) := by decide +kernel
theorem d_X9_yearsToFree_12 : decode mt_X9_yearsToFree.2.1 12 = .ok (.invokevirtual 117, 3) := by decide +kernel
theorem d_X9_yearsToFree_15 : decode mt_X9_yearsToFree.2.1 15 = .ok (.ifCond .ne 5, 3) := by decide +kernel
theorem d_X9_yearsToFree_18 : decode mt_X9_yearsToFree.2.1 18 = .ok (.iload_n 3, 1) := by decide +kernel
theorem d_X9_yearsToFree_19 : decode mt_X9_yearsToFree.2.1 19 = .ok (.ireturn, 1) := by decide +kernel
theorem d_X9_yearsToFree_20 : decode mt_X9_yearsToFree.2.1 20 = .ok (.iinc 3 1, 3) := by decide +kernel
theorem d_X9_yearsToFree_23 : decode mt_X9_yearsToFree.2.1 23 = .ok (.goto (-21), 3) := by decide +kernel
theorem d_X9_yearsToFree_26 : decode mt_X9_yearsToFree.2.1 26 = .ok (.iconst (-1), 1) := by decide +kernel
theorem d_X9_yearsToFree_27 : decode mt_X9_yearsToFree.2.1 27 = .ok (.ireturn, 1) := by decide +kernel
noncomputable def f_X9_yearsToFree_b2 (k2 : (Int → Int → Int → Int → Mem → Option (Int))) (v0 v1 v2 v3 : Int) (σ : Mem) : Option (Int) :=
  if 9 < v3 then
    some ((-1))
  else
    (f_X9_condemns v0 v1 v2 v3 σ).bind fun r1 =>
    if r1 = 0 then
      some (v3)
    else
      k2 v0 v1 v2 (w32 (v3 + 1)) σ
theorem L_X9_yearsToFree_b2 {sc : Nat × (Nat → Int32)} {o : Int} {σ : Mem} {k2 : (Int → Int → Int → Int → Mem → Option (Int))} (hk2 : ∀ {v0 v1 v2 v3 : Int}, k2 v0 v1 v2 v3 σ = some o → E sc (Fm Sh (some (0, o)) Sh σ) mt_X9_yearsToFree 5 Sh Sh 2 [(2, v0), (0, v1), (0, v2), (0, v3)] [] Sh σ) {v0 v1 v2 v3 : Int} (h : f_X9_yearsToFree_b2 k2 v0 v1 v2 v3 σ = some o) : E sc (Fm Sh (some (0, o)) Sh σ) mt_X9_yearsToFree 5 Sh Sh 2 [(2, v0), (0, v1), (0, v2), (0, v3)] [] Sh σ := by
  unfold f_X9_yearsToFree_b2 at h
  refine E_iload_n d_X9_yearsToFree_2 rfl ?_
  refine E_bipush d_X9_yearsToFree_3 (c8 rfl) ?_
  refine E_icmp_gt (tgt := 26) d_X9_yearsToFree_5 (by decide) h (fun _ h => ?_) (fun _ h => ?_)
  · refine E_iconst d_X9_yearsToFree_26 (c32 rfl) ?_
    cases h
    exact E_iret d_X9_yearsToFree_27 rfl
  · refine E_aload_n d_X9_yearsToFree_8 rfl (by decide) ?_
    refine E_iload_n d_X9_yearsToFree_9 rfl ?_
    refine E_iload_n d_X9_yearsToFree_10 rfl ?_
    refine E_iload_n d_X9_yearsToFree_11 rfl ?_
    refine bd h (fun r1 q2 h => ?_)
    refine E_cV (as := [(0, v1), (0, v2), (0, v3)]) (st := []) (a := v0) d_X9_yearsToFree_12 mk_X9_condemns nl_X9_117 (by omega) ⟨rfl, rfl, Nat.le_of_ble_eq_true rfl⟩ okX9 rfl (L_X9_condemns q2) ?_
    refine E_if_ne (tgt := 20) d_X9_yearsToFree_15 (by decide) h (fun _ h => ?_) (fun _ h => ?_)
    · refine E_iload_n d_X9_yearsToFree_18 rfl ?_
      cases h
      exact E_iret d_X9_yearsToFree_19 rfl
    · refine E_iinc d_X9_yearsToFree_20 (ls' := [(2, v0), (0, v1), (0, v2), (0, w32 (v3 + 1))]) rfl ⟨by decide, rfl⟩ ?_
      refine E_goto (tgt := 2) d_X9_yearsToFree_23 (by decide) ?_
      exact (hk2 h)
noncomputable def f_X9_yearsToFree_h2 (n : Nat) : Int → Int → Int → Int → Mem → Option (Int) := Nat.rec (motive := fun _ => Int → Int → Int → Int → Mem → Option (Int)) (fun _ _ _ _ _ => none) (fun _ ih => f_X9_yearsToFree_b2 (ih)) n
theorem L_X9_yearsToFree_h2 {sc : Nat × (Nat → Int32)} {o : Int} {σ : Mem} : ∀ (n : Nat) {v0 v1 v2 v3 : Int}, f_X9_yearsToFree_h2 n v0 v1 v2 v3 σ = some o → E sc (Fm Sh (some (0, o)) Sh σ) mt_X9_yearsToFree 5 Sh Sh 2 [(2, v0), (0, v1), (0, v2), (0, v3)] [] Sh σ := by
  intro n
  induction n with
  | zero => intro v0 v1 v2 v3 h; cases h
  | succ n ih => intro v0 v1 v2 v3 h; exact L_X9_yearsToFree_b2 (@ih) h
noncomputable def f_X9_yearsToFree_b0 (v0 v1 v2 : Int) (σ : Mem) : Option (Int) :=
  f_X9_yearsToFree_h2 FU v0 v1 v2 0 σ
theorem L_X9_yearsToFree_b0 {sc : Nat × (Nat → Int32)} {o : Int} {σ : Mem} {v0 v1 v2 : Int} (h : f_X9_yearsToFree_b0 v0 v1 v2 σ = some o) : E sc (Fm Sh (some (0, o)) Sh σ) mt_X9_yearsToFree 5 Sh Sh 0 [(2, v0), (0, v1), (0, v2), (9, 0)] [] Sh σ := by
  unfold f_X9_yearsToFree_b0 at h
  refine E_iconst d_X9_yearsToFree_0 (c32 rfl) ?_
  refine E_istore_n d_X9_yearsToFree_1 (ls' := [(2, v0), (0, v1), (0, v2), (0, 0)]) ⟨by decide, rfl⟩ ?_
  exact (L_X9_yearsToFree_h2 FU h)
noncomputable def f_X9_yearsToFree (v0 v1 v2 : Int) (σ : Mem) : Option (Int) := if isO Sh 9 v0 = true then f_X9_yearsToFree_b0 v0 v1 v2 σ else none
theorem L_X9_yearsToFree {o : Int} {v0 v1 v2 : Int} {σ : Mem} (h : f_X9_yearsToFree v0 v1 v2 σ = some o) : (isO Sh 9 v0 = true ∧ Cn mt_X9_yearsToFree 5 [(2, v0), (0, v1), (0, v2)] Sh σ (some (0, o)) Sh σ) := ⟨(ite_ok h).1, Cn_of mk_X9_yearsToFree.1.2.2.1 (Nat.le_of_ble_eq_true rfl) (fun sc => L_X9_yearsToFree_b0 (ite_ok h).2)⟩
theorem d_X3_begin_0 : decode mt_X3_begin.2.1 0 = .ok (.aload_n 0, 1) := by decide +kernel
theorem d_X3_begin_1 : decode mt_X3_begin.2.1 1 = .ok (.iconst 0, 1) := by decide +kernel
theorem d_X3_begin_2 : decode mt_X3_begin.2.1 2 = .ok (.putfield 9, 3) := by decide +kernel
theorem d_X3_begin_5 : decode mt_X3_begin.2.1 5 = .ok (.aload_n 0, 1) := by decide +kernel
theorem d_X3_begin_6 : decode mt_X3_begin.2.1 6 = .ok (.bipush 60, 2) := by decide +kernel
theorem d_X3_begin_8 : decode mt_X3_begin.2.1 8 = .ok (.putfield 15, 3) := by decide +kernel
theorem d_X3_begin_11 : decode mt_X3_begin.2.1 11 = .ok (.return_, 1) := by decide +kernel
noncomputable def f_X3_begin_b0 (v0 : Int) (σ : Mem) : Option (Mem) :=
  (pf Sh σ 3 v0 0 0).bind fun σ1 =>
  (pf Sh σ1 3 v0 1 60).bind fun σ2 =>
  some σ2
theorem L_X3_begin_b0 {sc : Nat × (Nat → Int32)} {o : Mem} {v0 : Int} {σ : Mem} (h : f_X3_begin_b0 v0 σ = some o) : E sc (Fm Sh none Sh o) mt_X3_begin 1 Sh Sh 0 [(2, v0)] [] Sh σ := by
  unfold f_X3_begin_b0 at h
  refine E_aload_n d_X3_begin_0 rfl (by decide) ?_
  refine E_iconst d_X3_begin_1 (c32 rfl) ?_
  refine E_put d_X3_begin_2 okX3 fl_X3_9 ⟨by decide, rfl⟩ (Or.inl ⟨rfl, rfl⟩) (Or.inl rfl) h (fun σ1 h => ?_)
  refine E_aload_n d_X3_begin_5 rfl (by decide) ?_
  refine E_bipush d_X3_begin_6 (c8 rfl) ?_
  refine E_put d_X3_begin_8 okX3 fl_X3_15 ⟨by decide, rfl⟩ (Or.inl ⟨rfl, rfl⟩) (Or.inl rfl) h (fun σ2 h => ?_)
  cases h
  exact E_vret d_X3_begin_11 rfl
noncomputable def f_X3_begin (v0 : Int) (σ : Mem) : Option (Mem) := if isO Sh 3 v0 = true then f_X3_begin_b0 v0 σ else none
theorem L_X3_begin {o : Mem} {v0 : Int} {σ : Mem} (h : f_X3_begin v0 σ = some o) : (isO Sh 3 v0 = true ∧ Cn mt_X3_begin 1 [(2, v0)] Sh σ none Sh o) := ⟨(ite_ok h).1, Cn_of mk_X3_begin.1.2.2.1 (Nat.le_of_ble_eq_true rfl) (fun sc => L_X3_begin_b0 (ite_ok h).2)⟩
theorem d_X3_tell_0 : decode mt_X3_tell.2.1 0 = .ok (.iload_n 2, 1) := by decide +kernel
theorem d_X3_tell_1 : decode mt_X3_tell.2.1 1 = .ok (.ifCond .eq 20, 3) := by decide +kernel
theorem d_X3_tell_4 : decode mt_X3_tell.2.1 4 = .ok (.aload_n 0, 1) := by decide +kernel
theorem d_X3_tell_5 : decode mt_X3_tell.2.1 5 = .ok (.aload_n 0, 1) := by decide +kernel
theorem d_X3_tell_6 : decode mt_X3_tell.2.1 6 = .ok (.getfield 9, 3) := by decide +kernel
theorem d_X3_tell_9 : decode mt_X3_tell.2.1 9 = .ok (.iload_n 1, 1) := by decide +kernel
theorem d_X3_tell_10 : decode mt_X3_tell.2.1 10 = .ok (.iconst 1, 1) := by decide +kernel
theorem d_X3_tell_11 : decode mt_X3_tell.2.1 11 = .ok (.iadd, 1) := by decide +kernel
theorem d_X3_tell_12 : decode mt_X3_tell.2.1 12 = .ok (.invokestatic 18, 3) := by decide +kernel
theorem d_X3_tell_15 : decode mt_X3_tell.2.1 15 = .ok (.putfield 9, 3) := by decide +kernel
theorem d_X3_tell_18 : decode mt_X3_tell.2.1 18 = .ok (.goto 15, 3) := by decide +kernel
theorem d_X3_tell_21 : decode mt_X3_tell.2.1 21 = .ok (.aload_n 0, 1) := by decide +kernel
theorem d_X3_tell_22 : decode mt_X3_tell.2.1 22 = .ok (.aload_n 0, 1) := by decide +kernel
theorem d_X3_tell_23 : decode mt_X3_tell.2.1 23 = .ok (.getfield 15, 3) := by decide +kernel
theorem d_X3_tell_26 : decode mt_X3_tell.2.1 26 = .ok (.iload_n 1, 1) := by decide +kernel
theorem d_X3_tell_27 : decode mt_X3_tell.2.1 27 = .ok (.invokestatic 24, 3) := by decide +kernel
theorem d_X3_tell_30 : decode mt_X3_tell.2.1 30 = .ok (.putfield 15, 3) := by decide +kernel
theorem d_X3_tell_33 : decode mt_X3_tell.2.1 33 = .ok (.return_, 1) := by decide +kernel
noncomputable def f_X3_tell_b0 (v0 v1 v2 : Int) (σ : Mem) : Option (Mem) :=
  if v2 = 0 then
    (gf Sh σ 3 v0 1).bind fun x1 =>
    (pf Sh σ 3 v0 1 (imin x1 v1)).bind fun σ2 =>
    some σ2
  else
    (gf Sh σ 3 v0 0).bind fun x3 =>
    (pf Sh σ 3 v0 0 (imax x3 (w32 (v1 + 1)))).bind fun σ4 =>
    some σ4
theorem L_X3_tell_b0 {sc : Nat × (Nat → Int32)} {o : Mem} {v0 v1 v2 : Int} {σ : Mem} (h : f_X3_tell_b0 v0 v1 v2 σ = some o) : E sc (Fm Sh none Sh o) mt_X3_tell 2 Sh Sh 0 [(2, v0), (0, v1), (0, v2)] [] Sh σ := by
  unfold f_X3_tell_b0 at h
  refine E_iload_n d_X3_tell_0 rfl ?_
  refine E_if_eq (tgt := 21) d_X3_tell_1 (by decide) h (fun _ h => ?_) (fun _ h => ?_)
  · refine E_aload_n d_X3_tell_21 rfl (by decide) ?_
    refine E_aload_n d_X3_tell_22 rfl (by decide) ?_
    refine E_get d_X3_tell_23 okX3 fl_X3_15 ⟨by decide, rfl⟩ h (fun x1 h => ?_)
    refine E_iload_n d_X3_tell_26 rfl ?_
    refine E_imin d_X3_tell_27 nl_X3_24 (by omega) (Nat.le_of_ble_eq_true rfl) ?_
    refine E_put d_X3_tell_30 okX3 fl_X3_15 ⟨by decide, rfl⟩ (Or.inl ⟨rfl, rfl⟩) (Or.inl rfl) h (fun σ2 h => ?_)
    cases h
    exact E_vret d_X3_tell_33 rfl
  · refine E_aload_n d_X3_tell_4 rfl (by decide) ?_
    refine E_aload_n d_X3_tell_5 rfl (by decide) ?_
    refine E_get d_X3_tell_6 okX3 fl_X3_9 ⟨by decide, rfl⟩ h (fun x3 h => ?_)
    refine E_iload_n d_X3_tell_9 rfl ?_
    refine E_iconst d_X3_tell_10 (c32 rfl) ?_
    refine E_iadd d_X3_tell_11 ?_
    refine E_imax d_X3_tell_12 nl_X3_18 (by omega) (Nat.le_of_ble_eq_true rfl) ?_
    refine E_put d_X3_tell_15 okX3 fl_X3_9 ⟨by decide, rfl⟩ (Or.inl ⟨rfl, rfl⟩) (Or.inl rfl) h (fun σ4 h => ?_)
    refine E_goto (tgt := 33) d_X3_tell_18 (by decide) ?_
    cases h
    exact E_vret d_X3_tell_33 rfl
noncomputable def f_X3_tell (v0 v1 v2 : Int) (σ : Mem) : Option (Mem) := if isO Sh 3 v0 = true then f_X3_tell_b0 v0 v1 v2 σ else none
theorem L_X3_tell {o : Mem} {v0 v1 v2 : Int} {σ : Mem} (h : f_X3_tell v0 v1 v2 σ = some o) : (isO Sh 3 v0 = true ∧ Cn mt_X3_tell 2 [(2, v0), (0, v1), (0, v2)] Sh σ none Sh o) := ⟨(ite_ok h).1, Cn_of mk_X3_tell.1.2.2.1 (Nat.le_of_ble_eq_true rfl) (fun sc => L_X3_tell_b0 (ite_ok h).2)⟩
theorem d_X3_count_0 : decode mt_X3_count.2.1 0 = .ok (.iconst 0, 1) := by decide +kernel
theorem d_X3_count_1 : decode mt_X3_count.2.1 1 = .ok (.aload_n 0, 1) := by decide +kernel
theorem d_X3_count_2 : decode mt_X3_count.2.1 2 = .ok (.getfield 15, 3) := by decide +kernel
theorem d_X3_count_5 : decode mt_X3_count.2.1 5 = .ok (.aload_n 0, 1) := by decide +kernel
theorem d_X3_count_6 : decode mt_X3_count.2.1 6 = .ok (.getfield 9, 3) := by decide +kernel
theorem d_X3_count_9 : decode mt_X3_count.2.1 9 = .ok (.isub, 1) := by decide +kernel
theorem d_X3_count_10 : decode mt_X3_count.2.1 10 = .ok (.iconst 1, 1) := by decide +kernel
theorem d_X3_count_11 : decode mt_X3_count.2.1 11 = .ok (.iadd, 1) := by decide +kernel
theorem d_X3_count_12 : decode mt_X3_count.2.1 12 = .ok (.invokestatic 18, 3) := by decide +kernel
theorem d_X3_count_15 : decode mt_X3_count.2.1 15 = .ok (.ireturn, 1) := by decide +kernel
noncomputable def f_X3_count_b0 (v0 : Int) (σ : Mem) : Option (Int) :=
  (gf Sh σ 3 v0 1).bind fun x1 =>
  (gf Sh σ 3 v0 0).bind fun x2 =>
  some (imax 0 (w32 (w32 (x1 - x2) + 1)))
theorem L_X3_count_b0 {sc : Nat × (Nat → Int32)} {o : Int} {σ : Mem} {v0 : Int} (h : f_X3_count_b0 v0 σ = some o) : E sc (Fm Sh (some (0, o)) Sh σ) mt_X3_count 2 Sh Sh 0 [(2, v0)] [] Sh σ := by
  unfold f_X3_count_b0 at h
  refine E_iconst d_X3_count_0 (c32 rfl) ?_
  refine E_aload_n d_X3_count_1 rfl (by decide) ?_
  refine E_get d_X3_count_2 okX3 fl_X3_15 ⟨by decide, rfl⟩ h (fun x1 h => ?_)
  refine E_aload_n d_X3_count_5 rfl (by decide) ?_
  refine E_get d_X3_count_6 okX3 fl_X3_9 ⟨by decide, rfl⟩ h (fun x2 h => ?_)
  refine E_isub d_X3_count_9 ?_
  refine E_iconst d_X3_count_10 (c32 rfl) ?_
  refine E_iadd d_X3_count_11 ?_
  refine E_imax d_X3_count_12 nl_X3_18 (by omega) (Nat.le_of_ble_eq_true rfl) ?_
  cases h
  exact E_iret d_X3_count_15 rfl
noncomputable def f_X3_count (v0 : Int) (σ : Mem) : Option (Int) := if isO Sh 3 v0 = true then f_X3_count_b0 v0 σ else none
theorem L_X3_count {o : Int} {v0 : Int} {σ : Mem} (h : f_X3_count v0 σ = some o) : (isO Sh 3 v0 = true ∧ Cn mt_X3_count 2 [(2, v0)] Sh σ (some (0, o)) Sh σ) := ⟨(ite_ok h).1, Cn_of mk_X3_count.1.2.2.1 (Nat.le_of_ble_eq_true rfl) (fun sc => L_X3_count_b0 (ite_ok h).2)⟩
theorem d_X3_greaterPart_0 : decode mt_X3_greaterPart.2.1 0 = .ok (.aload_n 0, 1) := by decide +kernel
theorem d_X3_greaterPart_1 : decode mt_X3_greaterPart.2.1 1 = .ok (.invokevirtual 50, 3) := by decide +kernel
theorem d_X3_greaterPart_4 : decode mt_X3_greaterPart.2.1 4 = .ok (.istore_n 2, 1) := by decide +kernel
theorem d_X3_greaterPart_5 : decode mt_X3_greaterPart.2.1 5 = .ok (.iload_n 2, 1) := by decide +kernel
theorem d_X3_greaterPart_6 : decode mt_X3_greaterPart.2.1 6 = .ok (.iconst 0, 1) := by decide +kernel
theorem d_X3_greaterPart_7 : decode mt_X3_greaterPart.2.1 7 = .ok (.aload_n 0, 1) := by decide +kernel
theorem d_X3_greaterPart_8 : decode mt_X3_greaterPart.2.1 8 = .ok (.getfield 15, 3) := by decide +kernel
theorem d_X3_greaterPart_11 : decode mt_X3_greaterPart.2.1 11 = .ok (.iload_n 1, 1) := by decide +kernel
theorem d_X3_greaterPart_12 : decode mt_X3_greaterPart.2.1 12 = .ok (.isub, 1) := by decide +kernel
theorem d_X3_greaterPart_13 : decode mt_X3_greaterPart.2.1 13 = .ok (.invokestatic 18, 3) := by decide +kernel
theorem d_X3_greaterPart_16 : decode mt_X3_greaterPart.2.1 16 = .ok (.invokestatic 24, 3) := by decide +kernel
theorem d_X3_greaterPart_19 : decode mt_X3_greaterPart.2.1 19 = .ok (.istore_n 3, 1) := by decide +kernel
theorem d_X3_greaterPart_20 : decode mt_X3_greaterPart.2.1 20 = .ok (.iload_n 3, 1) := by decide +kernel
theorem d_X3_greaterPart_21 : decode mt_X3_greaterPart.2.1 21 = .ok (.iload_n 2, 1) := by decide +kernel
theorem d_X3_greaterPart_22 : decode mt_X3_greaterPart.2.1 22 = .ok (.iload_n 3, 1) := by decide +kernel
theorem d_X3_greaterPart_23 : decode mt_X3_greaterPart.2.1 23 = .ok (.isub, 1) := by decide +kernel
theorem d_X3_greaterPart_24 : decode mt_X3_greaterPart.2.1 24 = .ok (.invokestatic 18, 3) := by decide +kernel
theorem d_X3_greaterPart_27 : decode mt_X3_greaterPart.2.1 27 = .ok (.ireturn, 1) := by decide +kernel
noncomputable def f_X3_greaterPart_b0 (v0 v1 : Int) (σ : Mem) : Option (Int) :=
  (f_X3_count v0 σ).bind fun r1 =>
  (gf Sh σ 3 v0 1).bind fun x3 =>
  some (imax (imin r1 (imax 0 (w32 (x3 - v1)))) (w32 (r1 - (imin r1 (imax 0 (w32 (x3 - v1)))))))
theorem L_X3_greaterPart_b0 {sc : Nat × (Nat → Int32)} {o : Int} {σ : Mem} {v0 v1 : Int} (h : f_X3_greaterPart_b0 v0 v1 σ = some o) : E sc (Fm Sh (some (0, o)) Sh σ) mt_X3_greaterPart 3 Sh Sh 0 [(2, v0), (0, v1), (9, 0), (9, 0)] [] Sh σ := by
  unfold f_X3_greaterPart_b0 at h
  refine E_aload_n d_X3_greaterPart_0 rfl (by decide) ?_
  refine bd h (fun r1 q2 h => ?_)
  refine E_cV (as := []) (st := []) (a := v0) d_X3_greaterPart_1 mk_X3_count nl_X3_50 (by omega) ⟨rfl, rfl, Nat.le_of_ble_eq_true rfl⟩ okX3 rfl (L_X3_count q2) ?_
  refine E_istore_n d_X3_greaterPart_4 (ls' := [(2, v0), (0, v1), (0, r1), (9, 0)]) ⟨by decide, rfl⟩ ?_
  refine E_iload_n d_X3_greaterPart_5 rfl ?_
  refine E_iconst d_X3_greaterPart_6 (c32 rfl) ?_
  refine E_aload_n d_X3_greaterPart_7 rfl (by decide) ?_
  refine E_get d_X3_greaterPart_8 okX3 fl_X3_15 ⟨by decide, rfl⟩ h (fun x3 h => ?_)
  refine E_iload_n d_X3_greaterPart_11 rfl ?_
  refine E_isub d_X3_greaterPart_12 ?_
  refine E_imax d_X3_greaterPart_13 nl_X3_18 (by omega) (Nat.le_of_ble_eq_true rfl) ?_
  refine E_imin d_X3_greaterPart_16 nl_X3_24 (by omega) (Nat.le_of_ble_eq_true rfl) ?_
  refine E_istore_n d_X3_greaterPart_19 (ls' := [(2, v0), (0, v1), (0, r1), (0, imin r1 (imax 0 (w32 (x3 - v1))))]) ⟨by decide, rfl⟩ ?_
  refine E_iload_n d_X3_greaterPart_20 rfl ?_
  refine E_iload_n d_X3_greaterPart_21 rfl ?_
  refine E_iload_n d_X3_greaterPart_22 rfl ?_
  refine E_isub d_X3_greaterPart_23 ?_
  refine E_imax d_X3_greaterPart_24 nl_X3_18 (by omega) (Nat.le_of_ble_eq_true rfl) ?_
  cases h
  exact E_iret d_X3_greaterPart_27 rfl
noncomputable def f_X3_greaterPart (v0 v1 : Int) (σ : Mem) : Option (Int) := if isO Sh 3 v0 = true then f_X3_greaterPart_b0 v0 v1 σ else none
theorem L_X3_greaterPart {o : Int} {v0 v1 : Int} {σ : Mem} (h : f_X3_greaterPart v0 v1 σ = some o) : (isO Sh 3 v0 = true ∧ Cn mt_X3_greaterPart 3 [(2, v0), (0, v1)] Sh σ (some (0, o)) Sh σ) := ⟨(ite_ok h).1, Cn_of mk_X3_greaterPart.1.2.2.1 (Nat.le_of_ble_eq_true rfl) (fun sc => L_X3_greaterPart_b0 (ite_ok h).2)⟩
theorem d_X3_findQuestion_0 : decode mt_X3_findQuestion.2.1 0 = .ok (.bipush 62, 2) := by decide +kernel
theorem d_X3_findQuestion_2 : decode mt_X3_findQuestion.2.1 2 = .ok (.istore_n 2, 1) := by decide +kernel
theorem d_X3_findQuestion_3 : decode mt_X3_findQuestion.2.1 3 = .ok (.iconst 0, 1) := by decide +kernel
theorem d_X3_findQuestion_4 : decode mt_X3_findQuestion.2.1 4 = .ok (.istore_n 3, 1) := by decide +kernel
theorem d_X3_findQuestion_5 : decode mt_X3_findQuestion.2.1 5 = .ok (.iload_n 3, 1) := by decide +kernel
theorem d_X3_findQuestion_6 : decode mt_X3_findQuestion.2.1 6 = .ok (.aload_n 1, 1) := by decide +kernel
theorem d_X3_findQuestion_7 : decode mt_X3_findQuestion.2.1 7 = .ok (.getfield 27, 3) := by decide +kernel
theorem d_X3_findQuestion_10 : decode mt_X3_findQuestion.2.1 10 = .ok (.if_icmp .ge 71, 3) := by decide +kernel
theorem d_X3_findQuestion_13 : decode mt_X3_findQuestion.2.1 13 = .ok (.iconst 0, 1) := by decide +kernel
theorem d_X3_findQuestion_14 : decode mt_X3_findQuestion.2.1 14 = .ok (.istore 4, 2) := by decide +kernel
theorem d_X3_findQuestion_16 : decode mt_X3_findQuestion.2.1 16 = .ok (.iload 4, 2) := by decide +kernel
theorem d_X3_findQuestion_18 : decode mt_X3_findQuestion.2.1 18 = .ok (.aload_n 1, 1) := by decide +kernel
theorem d_X3_findQuestion_19 : decode mt_X3_findQuestion.2.1 19 = .ok (.getfield 27, 3) := by decide +kernel
theorem d_X3_findQuestion_22 : decode mt_X3_findQuestion.2.1 22 = .ok (.if_icmp .ge 53, 3) := by decide +kernel
theorem d_X3_findQuestion_25 : decode mt_X3_findQuestion.2.1 25 = .ok (.aload_n 1, 1) := by decide +kernel
theorem d_X3_findQuestion_26 : decode mt_X3_findQuestion.2.1 26 = .ok (.iload 4, 2) := by decide +kernel
theorem d_X3_findQuestion_28 : decode mt_X3_findQuestion.2.1 28 = .ok (.i2l, 1) := by decide +kernel
theorem d_X3_findQuestion_29 : decode mt_X3_findQuestion.2.1 29 = .ok (.invokevirtual 32, 3) := by decide +kernel
theorem d_X3_findQuestion_32 : decode mt_X3_findQuestion.2.1 32 = .ok (.ifCond .eq 37, 3) := by decide +kernel
theorem d_X3_findQuestion_35 : decode mt_X3_findQuestion.2.1 35 = .ok (.aload_n 0, 1) := by decide +kernel
theorem d_X3_findQuestion_36 : decode mt_X3_findQuestion.2.1 36 = .ok (.aload_n 1, 1) := by decide +kernel
theorem d_X3_findQuestion_37 : decode mt_X3_findQuestion.2.1 37 = .ok (.iload 4, 2) := by decide +kernel
theorem d_X3_findQuestion_39 : decode mt_X3_findQuestion.2.1 39 = .ok (.iload_n 3, 1) := by decide +kernel
theorem d_X3_findQuestion_40 : decode mt_X3_findQuestion.2.1 40 = .ok (.iconst 0, 1) := by decide +kernel
theorem d_X3_findQuestion_41 : decode mt_X3_findQuestion.2.1 41 = .ok (.invokevirtual 36, 3) := by decide +kernel
theorem d_X3_findQuestion_44 : decode mt_X3_findQuestion.2.1 44 = .ok (.invokevirtual 40, 3) := by decide +kernel
theorem d_X3_findQuestion_47 : decode mt_X3_findQuestion.2.1 47 = .ok (.istore 5, 2) := by decide +kernel
theorem d_X3_findQuestion_49 : decode mt_X3_findQuestion.2.1 49 = .ok (.iload 5, 2) := by decide +kernel
theorem d_X3_findQuestion_51 : decode mt_X3_findQuestion.2.1 51 = .ok (.iload_n 2, 1) := by decide +kernel
theorem d_X3_findQuestion_52 : decode mt_X3_findQuestion.2.1 52 = .ok (.if_icmp .ge 17, 3) := by decide +kernel
theorem d_X3_findQuestion_55 : decode mt_X3_findQuestion.2.1 55 = .ok (.iload 5, 2) := by decide +kernel
theorem d_X3_findQuestion_57 : decode mt_X3_findQuestion.2.1 57 = .ok (.istore_n 2, 1) := by decide +kernel
theorem d_X3_findQuestion_58 : decode mt_X3_findQuestion.2.1 58 = .ok (.aload_n 0, 1) := by decide +kernel
theorem d_X3_findQuestion_59 : decode mt_X3_findQuestion.2.1 59 = .ok (.iload_n 3, 1) := by decide +kernel
theorem d_X3_findQuestion_60 : decode mt_X3_findQuestion.2.1 60 = .ok (.putfield 44, 3) := by decide +kernel
theorem d_X3_findQuestion_63 : decode mt_X3_findQuestion.2.1 63 = .ok (.aload_n 0, 1) := by decide +kernel
theorem d_X3_findQuestion_64 : decode mt_X3_findQuestion.2.1 64 = .ok (.iload 4, 2) := by decide +kernel
theorem d_X3_findQuestion_66 : decode mt_X3_findQuestion.2.1 66 = .ok (.putfield 47, 3) := by decide +kernel
theorem d_X3_findQuestion_69 : decode mt_X3_findQuestion.2.1 69 = .ok (.iinc 4 1, 3) := by decide +kernel
theorem d_X3_findQuestion_72 : decode mt_X3_findQuestion.2.1 72 = .ok (.goto (-56), 3) := by decide +kernel
theorem d_X3_findQuestion_75 : decode mt_X3_findQuestion.2.1 75 = .ok (.iinc 3 1, 3) := by decide +kernel
theorem d_X3_findQuestion_78 : decode mt_X3_findQuestion.2.1 78 = .ok (.goto (-73), 3) := by decide +kernel
theorem d_X3_findQuestion_81 : decode mt_X3_findQuestion.2.1 81 = .ok (.return_, 1) := by decide +kernel
noncomputable def f_X3_findQuestion_b69 (k5 : (Int → Int → Int → Int → Mem → Option (Mem))) (k16 : (Int → Int → Int → Int → Int → Mem → Option (Mem))) (v0 v1 v2 v3 v4 : Int) (σ : Mem) : Option (Mem) :=
  k16 v0 v1 v2 v3 (w32 (v4 + 1)) σ
theorem L_X3_findQuestion_b69 {sc : Nat × (Nat → Int32)} {o : Mem} {k5 : (Int → Int → Int → Int → Mem → Option (Mem))} {k16 : (Int → Int → Int → Int → Int → Mem → Option (Mem))} (hk5 : ∀ {v0 v1 v2 v3 : Int} {σ : Mem}, k5 v0 v1 v2 v3 σ = some o → E sc (Fm Sh none Sh o) mt_X3_findQuestion 4 Sh Sh 5 [(2, v0), (2, v1), (0, v2), (0, v3), (9, 0), (9, 0)] [] Sh σ) (hk16 : ∀ {v0 v1 v2 v3 v4 : Int} {σ : Mem}, k16 v0 v1 v2 v3 v4 σ = some o → E sc (Fm Sh none Sh o) mt_X3_findQuestion 4 Sh Sh 16 [(2, v0), (2, v1), (0, v2), (0, v3), (0, v4), (9, 0)] [] Sh σ) {v0 v1 v2 v3 v4 : Int} {σ : Mem} (h : f_X3_findQuestion_b69 k5 k16 v0 v1 v2 v3 v4 σ = some o) : E sc (Fm Sh none Sh o) mt_X3_findQuestion 4 Sh Sh 69 [(2, v0), (2, v1), (0, v2), (0, v3), (0, v4), (9, 0)] [] Sh σ := by
  unfold f_X3_findQuestion_b69 at h
  refine E_iinc d_X3_findQuestion_69 (ls' := [(2, v0), (2, v1), (0, v2), (0, v3), (0, w32 (v4 + 1)), (9, 0)]) rfl ⟨by decide, rfl⟩ ?_
  refine E_goto (tgt := 16) d_X3_findQuestion_72 (by decide) ?_
  exact (hk16 h)
noncomputable def f_X3_findQuestion_b16 (k5 : (Int → Int → Int → Int → Mem → Option (Mem))) (k16 : (Int → Int → Int → Int → Int → Mem → Option (Mem))) (v0 v1 v2 v3 v4 : Int) (σ : Mem) : Option (Mem) :=
  (gf Sh σ 9 v1 0).bind fun x2 =>
  if x2 ≤ v4 then
    k5 v0 v1 v2 (w32 (v3 + 1)) σ
  else
    (f_X9_isStone v1 v4 σ).bind fun r3 =>
    if r3 = 0 then
      f_X3_findQuestion_b69 k5 k16 v0 v1 v2 v3 v4 σ
    else
      (f_X9_mercyFor v1 v4 v3 0 σ).bind fun r5 =>
      (f_X3_greaterPart v0 r5 σ).bind fun r7 =>
      if v2 ≤ r7 then
        f_X3_findQuestion_b69 k5 k16 v0 v1 v2 v3 v4 σ
      else
        (pf Sh σ 3 v0 2 v3).bind fun σ9 =>
        (pf Sh σ9 3 v0 3 v4).bind fun σ10 =>
        f_X3_findQuestion_b69 k5 k16 v0 v1 r7 v3 v4 σ10
theorem L_X3_findQuestion_b16 {sc : Nat × (Nat → Int32)} {o : Mem} {k5 : (Int → Int → Int → Int → Mem → Option (Mem))} {k16 : (Int → Int → Int → Int → Int → Mem → Option (Mem))} (hk5 : ∀ {v0 v1 v2 v3 : Int} {σ : Mem}, k5 v0 v1 v2 v3 σ = some o → E sc (Fm Sh none Sh o) mt_X3_findQuestion 4 Sh Sh 5 [(2, v0), (2, v1), (0, v2), (0, v3), (9, 0), (9, 0)] [] Sh σ) (hk16 : ∀ {v0 v1 v2 v3 v4 : Int} {σ : Mem}, k16 v0 v1 v2 v3 v4 σ = some o → E sc (Fm Sh none Sh o) mt_X3_findQuestion 4 Sh Sh 16 [(2, v0), (2, v1), (0, v2), (0, v3), (0, v4), (9, 0)] [] Sh σ) {v0 v1 v2 v3 v4 : Int} {σ : Mem} (h : f_X3_findQuestion_b16 k5 k16 v0 v1 v2 v3 v4 σ = some o) : E sc (Fm Sh none Sh o) mt_X3_findQuestion 4 Sh Sh 16 [(2, v0), (2, v1), (0, v2), (0, v3), (0, v4), (9, 0)] [] Sh σ := by
  unfold f_X3_findQuestion_b16 at h
  refine E_iload d_X3_findQuestion_16 rfl ?_
  refine E_aload_n d_X3_findQuestion_18 rfl (by decide) ?_
  refine E_get d_X3_findQuestion_19 okX9 fl_X3_27 ⟨by decide, rfl⟩ h (fun x2 h => ?_)
  refine E_icmp_ge (tgt := 75) d_X3_findQuestion_22 (by decide) h (fun _ h => ?_) (fun _ h => ?_)
  · refine E_iinc d_X3_findQuestion_75 (ls' := [(2, v0), (2, v1), (0, v2), (0, w32 (v3 + 1)), (0, v4), (9, 0)]) rfl ⟨by decide, rfl⟩ ?_
    refine E_goto (tgt := 5) d_X3_findQuestion_78 (by decide) ?_
    exact E_weak (ls' := [(2, v0), (2, v1), (0, v2), (0, w32 (v3 + 1)), (9, 0), (9, 0)]) ⟨Or.inr rfl, Or.inr rfl, Or.inr rfl, Or.inr rfl, Or.inl rfl, Or.inl rfl, trivial⟩ (hk5 h)
  · refine E_aload_n d_X3_findQuestion_25 rfl (by decide) ?_
    refine E_iload d_X3_findQuestion_26 rfl ?_
    refine E_i2l d_X3_findQuestion_28 ?_
    refine bd h (fun r3 q4 h => ?_)
    refine E_cV (as := [(1, v4)]) (st := []) (a := v1) d_X3_findQuestion_29 mk_X9_isStone nl_X3_32 (by omega) ⟨rfl, rfl, Nat.le_of_ble_eq_true rfl⟩ okX9 rfl (L_X9_isStone q4) ?_
    refine E_if_eq (tgt := 69) d_X3_findQuestion_32 (by decide) h (fun _ h => ?_) (fun _ h => ?_)
    · exact (L_X3_findQuestion_b69 hk5 hk16 h)
    · refine E_aload_n d_X3_findQuestion_35 rfl (by decide) ?_
      refine E_aload_n d_X3_findQuestion_36 rfl (by decide) ?_
      refine E_iload d_X3_findQuestion_37 rfl ?_
      refine E_iload_n d_X3_findQuestion_39 rfl ?_
      refine E_iconst d_X3_findQuestion_40 (c32 rfl) ?_
      refine bd h (fun r5 q6 h => ?_)
      refine E_cV (as := [(0, v4), (0, v3), (0, 0)]) (st := [(2, v0)]) (a := v1) d_X3_findQuestion_41 mk_X9_mercyFor nl_X3_36 (by omega) ⟨rfl, rfl, Nat.le_of_ble_eq_true rfl⟩ okX9 rfl (L_X9_mercyFor q6) ?_
      refine bd h (fun r7 q8 h => ?_)
      refine E_cV (as := [(0, r5)]) (st := []) (a := v0) d_X3_findQuestion_44 mk_X3_greaterPart nl_X3_40 (by omega) ⟨rfl, rfl, Nat.le_of_ble_eq_true rfl⟩ okX3 rfl (L_X3_greaterPart q8) ?_
      refine E_istore d_X3_findQuestion_47 (ls' := [(2, v0), (2, v1), (0, v2), (0, v3), (0, v4), (0, r7)]) ⟨by decide, rfl⟩ ?_
      refine E_iload d_X3_findQuestion_49 rfl ?_
      refine E_iload_n d_X3_findQuestion_51 rfl ?_
      refine E_icmp_ge (tgt := 69) d_X3_findQuestion_52 (by decide) h (fun _ h => ?_) (fun _ h => ?_)
      · exact E_weak (ls' := [(2, v0), (2, v1), (0, v2), (0, v3), (0, v4), (9, 0)]) ⟨Or.inr rfl, Or.inr rfl, Or.inr rfl, Or.inr rfl, Or.inr rfl, Or.inl rfl, trivial⟩ (L_X3_findQuestion_b69 hk5 hk16 h)
      · refine E_iload d_X3_findQuestion_55 rfl ?_
        refine E_istore_n d_X3_findQuestion_57 (ls' := [(2, v0), (2, v1), (0, r7), (0, v3), (0, v4), (0, r7)]) ⟨by decide, rfl⟩ ?_
        refine E_aload_n d_X3_findQuestion_58 rfl (by decide) ?_
        refine E_iload_n d_X3_findQuestion_59 rfl ?_
        refine E_put d_X3_findQuestion_60 okX3 fl_X3_44 ⟨by decide, rfl⟩ (Or.inl ⟨rfl, rfl⟩) (Or.inl rfl) h (fun σ9 h => ?_)
        refine E_aload_n d_X3_findQuestion_63 rfl (by decide) ?_
        refine E_iload d_X3_findQuestion_64 rfl ?_
        refine E_put d_X3_findQuestion_66 okX3 fl_X3_47 ⟨by decide, rfl⟩ (Or.inl ⟨rfl, rfl⟩) (Or.inl rfl) h (fun σ10 h => ?_)
        exact E_weak (ls' := [(2, v0), (2, v1), (0, r7), (0, v3), (0, v4), (9, 0)]) ⟨Or.inr rfl, Or.inr rfl, Or.inr rfl, Or.inr rfl, Or.inr rfl, Or.inl rfl, trivial⟩ (L_X3_findQuestion_b69 hk5 hk16 h)
noncomputable def f_X3_findQuestion_h16 (k5 : (Int → Int → Int → Int → Mem → Option (Mem))) (n : Nat) : Int → Int → Int → Int → Int → Mem → Option (Mem) := Nat.rec (motive := fun _ => Int → Int → Int → Int → Int → Mem → Option (Mem)) (fun _ _ _ _ _ _ => none) (fun _ ih => f_X3_findQuestion_b16 k5 (ih)) n
theorem L_X3_findQuestion_h16 {sc : Nat × (Nat → Int32)} {o : Mem} {k5 : (Int → Int → Int → Int → Mem → Option (Mem))} (hk5 : ∀ {v0 v1 v2 v3 : Int} {σ : Mem}, k5 v0 v1 v2 v3 σ = some o → E sc (Fm Sh none Sh o) mt_X3_findQuestion 4 Sh Sh 5 [(2, v0), (2, v1), (0, v2), (0, v3), (9, 0), (9, 0)] [] Sh σ) : ∀ (n : Nat) {v0 v1 v2 v3 v4 : Int} {σ : Mem}, f_X3_findQuestion_h16 k5 n v0 v1 v2 v3 v4 σ = some o → E sc (Fm Sh none Sh o) mt_X3_findQuestion 4 Sh Sh 16 [(2, v0), (2, v1), (0, v2), (0, v3), (0, v4), (9, 0)] [] Sh σ := by
  intro n
  induction n with
  | zero => intro v0 v1 v2 v3 v4 σ h; cases h
  | succ n ih => intro v0 v1 v2 v3 v4 σ h; exact L_X3_findQuestion_b16 hk5 (@ih) h
noncomputable def f_X3_findQuestion_b5 (k5 : (Int → Int → Int → Int → Mem → Option (Mem))) (v0 v1 v2 v3 : Int) (σ : Mem) : Option (Mem) :=
  (gf Sh σ 9 v1 0).bind fun x1 =>
  if x1 ≤ v3 then
    some σ
  else
    f_X3_findQuestion_h16 k5 FU v0 v1 v2 v3 0 σ
theorem L_X3_findQuestion_b5 {sc : Nat × (Nat → Int32)} {o : Mem} {k5 : (Int → Int → Int → Int → Mem → Option (Mem))} (hk5 : ∀ {v0 v1 v2 v3 : Int} {σ : Mem}, k5 v0 v1 v2 v3 σ = some o → E sc (Fm Sh none Sh o) mt_X3_findQuestion 4 Sh Sh 5 [(2, v0), (2, v1), (0, v2), (0, v3), (9, 0), (9, 0)] [] Sh σ) {v0 v1 v2 v3 : Int} {σ : Mem} (h : f_X3_findQuestion_b5 k5 v0 v1 v2 v3 σ = some o) : E sc (Fm Sh none Sh o) mt_X3_findQuestion 4 Sh Sh 5 [(2, v0), (2, v1), (0, v2), (0, v3), (9, 0), (9, 0)] [] Sh σ := by
  unfold f_X3_findQuestion_b5 at h
  refine E_iload_n d_X3_findQuestion_5 rfl ?_
  refine E_aload_n d_X3_findQuestion_6 rfl (by decide) ?_
  refine E_get d_X3_findQuestion_7 okX9 fl_X3_27 ⟨by decide, rfl⟩ h (fun x1 h => ?_)
  refine E_icmp_ge (tgt := 81) d_X3_findQuestion_10 (by decide) h (fun _ h => ?_) (fun _ h => ?_)
  · cases h
    exact E_vret d_X3_findQuestion_81 rfl
  · refine E_iconst d_X3_findQuestion_13 (c32 rfl) ?_
    refine E_istore d_X3_findQuestion_14 (ls' := [(2, v0), (2, v1), (0, v2), (0, v3), (0, 0), (9, 0)]) ⟨by decide, rfl⟩ ?_
    exact (L_X3_findQuestion_h16 hk5 FU h)
noncomputable def f_X3_findQuestion_h5 (n : Nat) : Int → Int → Int → Int → Mem → Option (Mem) := Nat.rec (motive := fun _ => Int → Int → Int → Int → Mem → Option (Mem)) (fun _ _ _ _ _ => none) (fun _ ih => f_X3_findQuestion_b5 (ih)) n
theorem L_X3_findQuestion_h5 {sc : Nat × (Nat → Int32)} {o : Mem} : ∀ (n : Nat) {v0 v1 v2 v3 : Int} {σ : Mem}, f_X3_findQuestion_h5 n v0 v1 v2 v3 σ = some o → E sc (Fm Sh none Sh o) mt_X3_findQuestion 4 Sh Sh 5 [(2, v0), (2, v1), (0, v2), (0, v3), (9, 0), (9, 0)] [] Sh σ := by
  intro n
  induction n with
  | zero => intro v0 v1 v2 v3 σ h; cases h
  | succ n ih => intro v0 v1 v2 v3 σ h; exact L_X3_findQuestion_b5 (@ih) h
noncomputable def f_X3_findQuestion_b0 (v0 v1 : Int) (σ : Mem) : Option (Mem) :=
  f_X3_findQuestion_h5 FU v0 v1 62 0 σ
theorem L_X3_findQuestion_b0 {sc : Nat × (Nat → Int32)} {o : Mem} {v0 v1 : Int} {σ : Mem} (h : f_X3_findQuestion_b0 v0 v1 σ = some o) : E sc (Fm Sh none Sh o) mt_X3_findQuestion 4 Sh Sh 0 [(2, v0), (2, v1), (9, 0), (9, 0), (9, 0), (9, 0)] [] Sh σ := by
  unfold f_X3_findQuestion_b0 at h
  refine E_bipush d_X3_findQuestion_0 (c8 rfl) ?_
  refine E_istore_n d_X3_findQuestion_2 (ls' := [(2, v0), (2, v1), (0, 62), (9, 0), (9, 0), (9, 0)]) ⟨by decide, rfl⟩ ?_
  refine E_iconst d_X3_findQuestion_3 (c32 rfl) ?_
  refine E_istore_n d_X3_findQuestion_4 (ls' := [(2, v0), (2, v1), (0, 62), (0, 0), (9, 0), (9, 0)]) ⟨by decide, rfl⟩ ?_
  exact (L_X3_findQuestion_h5 FU h)
noncomputable def f_X3_findQuestion (v0 v1 : Int) (σ : Mem) : Option (Mem) := if isO Sh 3 v0 = true then f_X3_findQuestion_b0 v0 v1 σ else none
theorem L_X3_findQuestion {o : Mem} {v0 v1 : Int} {σ : Mem} (h : f_X3_findQuestion v0 v1 σ = some o) : (isO Sh 3 v0 = true ∧ Cn mt_X3_findQuestion 4 [(2, v0), (2, v1)] Sh σ none Sh o) := ⟨(ite_ok h).1, Cn_of mk_X3_findQuestion.1.2.2.1 (Nat.le_of_ble_eq_true rfl) (fun sc => L_X3_findQuestion_b0 (ite_ok h).2)⟩
theorem d_X0_begin_0 : decode mt_X0_begin.2.1 0 = .ok (.aload_n 0, 1) := by decide +kernel
theorem d_X0_begin_1 : decode mt_X0_begin.2.1 1 = .ok (.iload_n 1, 1) := by decide +kernel
theorem d_X0_begin_2 : decode mt_X0_begin.2.1 2 = .ok (.putfield 22, 3) := by decide +kernel
theorem d_X0_begin_5 : decode mt_X0_begin.2.1 5 = .ok (.aload_n 0, 1) := by decide +kernel
theorem d_X0_begin_6 : decode mt_X0_begin.2.1 6 = .ok (.iload_n 1, 1) := by decide +kernel
theorem d_X0_begin_7 : decode mt_X0_begin.2.1 7 = .ok (.invokestatic 26, 3) := by decide +kernel
theorem d_X0_begin_10 : decode mt_X0_begin.2.1 10 = .ok (.iconst 2, 1) := by decide +kernel
theorem d_X0_begin_11 : decode mt_X0_begin.2.1 11 = .ok (.idiv, 1) := by decide +kernel
theorem d_X0_begin_12 : decode mt_X0_begin.2.1 12 = .ok (.putfield 32, 3) := by decide +kernel
theorem d_X0_begin_15 : decode mt_X0_begin.2.1 15 = .ok (.aload_n 0, 1) := by decide +kernel
theorem d_X0_begin_16 : decode mt_X0_begin.2.1 16 = .ok (.iconst 0, 1) := by decide +kernel
theorem d_X0_begin_17 : decode mt_X0_begin.2.1 17 = .ok (.putfield 35, 3) := by decide +kernel
theorem d_X0_begin_20 : decode mt_X0_begin.2.1 20 = .ok (.aload_n 0, 1) := by decide +kernel
theorem d_X0_begin_21 : decode mt_X0_begin.2.1 21 = .ok (.iconst 0, 1) := by decide +kernel
theorem d_X0_begin_22 : decode mt_X0_begin.2.1 22 = .ok (.putfield 38, 3) := by decide +kernel
theorem d_X0_begin_25 : decode mt_X0_begin.2.1 25 = .ok (.return_, 1) := by decide +kernel
noncomputable def f_X0_begin_b0 (v0 v1 : Int) (σ : Mem) : Option (Mem) :=
  (pf Sh σ 0 v0 5 v1).bind fun σ1 =>
  (f_JI_bitCount v1 σ1).bind fun r2 =>
  (pf Sh σ1 0 v0 6 (w32 (Int.tdiv r2 2))).bind fun σ4 =>
  (pf Sh σ4 0 v0 3 0).bind fun σ5 =>
  (pf Sh σ5 0 v0 4 0).bind fun σ6 =>
  some σ6
theorem L_X0_begin_b0 {sc : Nat × (Nat → Int32)} {o : Mem} {v0 v1 : Int} {σ : Mem} (h : f_X0_begin_b0 v0 v1 σ = some o) : E sc (Fm Sh none Sh o) mt_X0_begin 2 Sh Sh 0 [(2, v0), (0, v1)] [] Sh σ := by
  unfold f_X0_begin_b0 at h
  refine E_aload_n d_X0_begin_0 rfl (by decide) ?_
  refine E_iload_n d_X0_begin_1 rfl ?_
  refine E_put d_X0_begin_2 okX0 fl_X0_22 ⟨by decide, rfl⟩ (Or.inl ⟨rfl, rfl⟩) (Or.inl rfl) h (fun σ1 h => ?_)
  refine E_aload_n d_X0_begin_5 rfl (by decide) ?_
  refine E_iload_n d_X0_begin_6 rfl ?_
  refine bd h (fun r2 q3 h => ?_)
  refine E_cS (as := [(0, v1)]) (st := [(2, v0)]) d_X0_begin_7 mk_JI_bitCount nl_X0_26 (by omega) ⟨rfl, rfl, Nat.le_of_ble_eq_true rfl⟩ (L_JI_bitCount q3) ?_
  refine E_iconst d_X0_begin_10 (c32 rfl) ?_
  refine E_idiv d_X0_begin_11 (by decide) ?_
  refine E_put d_X0_begin_12 okX0 fl_X0_32 ⟨by decide, rfl⟩ (Or.inl ⟨rfl, rfl⟩) (Or.inl rfl) h (fun σ4 h => ?_)
  refine E_aload_n d_X0_begin_15 rfl (by decide) ?_
  refine E_iconst d_X0_begin_16 (c32 rfl) ?_
  refine E_put d_X0_begin_17 okX0 fl_X0_35 ⟨by decide, rfl⟩ (Or.inl ⟨rfl, rfl⟩) (Or.inl rfl) h (fun σ5 h => ?_)
  refine E_aload_n d_X0_begin_20 rfl (by decide) ?_
  refine E_iconst d_X0_begin_21 (c32 rfl) ?_
  refine E_put d_X0_begin_22 okX0 fl_X0_38 ⟨by decide, rfl⟩ (Or.inr (Or.inr (Or.inl ⟨rfl, rfl, (Or.inl rfl)⟩))) (Or.inl rfl) h (fun σ6 h => ?_)
  cases h
  exact E_vret d_X0_begin_25 rfl
noncomputable def f_X0_begin (v0 v1 : Int) (σ : Mem) : Option (Mem) := if isO Sh 0 v0 = true then f_X0_begin_b0 v0 v1 σ else none
theorem L_X0_begin {o : Mem} {v0 v1 : Int} {σ : Mem} (h : f_X0_begin v0 v1 σ = some o) : (isO Sh 0 v0 = true ∧ Cn mt_X0_begin 2 [(2, v0), (0, v1)] Sh σ none Sh o) := ⟨(ite_ok h).1, Cn_of mk_X0_begin.1.2.2.1 (Nat.le_of_ble_eq_true rfl) (fun sc => L_X0_begin_b0 (ite_ok h).2)⟩
theorem d_X0_tell_0 : decode mt_X0_tell.2.1 0 = .ok (.iload_n 1, 1) := by decide +kernel
theorem d_X0_tell_1 : decode mt_X0_tell.2.1 1 = .ok (.ifCond .ne 26, 3) := by decide +kernel
theorem d_X0_tell_4 : decode mt_X0_tell.2.1 4 = .ok (.aload_n 0, 1) := by decide +kernel
theorem d_X0_tell_5 : decode mt_X0_tell.2.1 5 = .ok (.aload_n 0, 1) := by decide +kernel
theorem d_X0_tell_6 : decode mt_X0_tell.2.1 6 = .ok (.getfield 38, 3) := by decide +kernel
theorem d_X0_tell_9 : decode mt_X0_tell.2.1 9 = .ok (.ifCond .ne 7, 3) := by decide +kernel
theorem d_X0_tell_12 : decode mt_X0_tell.2.1 12 = .ok (.iload_n 3, 1) := by decide +kernel
theorem d_X0_tell_13 : decode mt_X0_tell.2.1 13 = .ok (.ifCond .eq 7, 3) := by decide +kernel
theorem d_X0_tell_16 : decode mt_X0_tell.2.1 16 = .ok (.iconst 1, 1) := by decide +kernel
theorem d_X0_tell_17 : decode mt_X0_tell.2.1 17 = .ok (.goto 4, 3) := by decide +kernel
theorem d_X0_tell_20 : decode mt_X0_tell.2.1 20 = .ok (.iconst 0, 1) := by decide +kernel
theorem d_X0_tell_21 : decode mt_X0_tell.2.1 21 = .ok (.putfield 38, 3) := by decide +kernel
theorem d_X0_tell_24 : decode mt_X0_tell.2.1 24 = .ok (.goto 42, 3) := by decide +kernel
theorem d_X0_tell_27 : decode mt_X0_tell.2.1 27 = .ok (.aload_n 0, 1) := by decide +kernel
theorem d_X0_tell_28 : decode mt_X0_tell.2.1 28 = .ok (.getfield 35, 3) := by decide +kernel
theorem d_X0_tell_31 : decode mt_X0_tell.2.1 31 = .ok (.bipush 6, 2) := by decide +kernel
theorem d_X0_tell_33 : decode mt_X0_tell.2.1 33 = .ok (.if_icmp .ge 33, 3) := by decide +kernel
theorem d_X0_tell_36 : decode mt_X0_tell.2.1 36 = .ok (.aload_n 0, 1) := by decide +kernel
theorem d_X0_tell_37 : decode mt_X0_tell.2.1 37 = .ok (.getfield 9, 3) := by decide +kernel
theorem d_X0_tell_40 : decode mt_X0_tell.2.1 40 = .ok (.aload_n 0, 1) := by decide +kernel
theorem d_X0_tell_41 : decode mt_X0_tell.2.1 41 = .ok (.getfield 35, 3) := by decide +kernel
theorem d_X0_tell_44 : decode mt_X0_tell.2.1 44 = .ok (.iload_n 2, 1) := by decide +kernel
theorem d_X0_tell_45 : decode mt_X0_tell.2.1 45 = .ok (.iastore, 1) := by decide +kernel
theorem d_X0_tell_46 : decode mt_X0_tell.2.1 46 = .ok (.aload_n 0, 1) := by decide +kernel
theorem d_X0_tell_47 : decode mt_X0_tell.2.1 47 = .ok (.getfield 15, 3) := by decide +kernel
theorem d_X0_tell_50 : decode mt_X0_tell.2.1 50 = .ok (.aload_n 0, 1) := by decide +kernel
theorem d_X0_tell_51 : decode mt_X0_tell.2.1 51 = .ok (.getfield 35, 3) := by decide +kernel
theorem d_X0_tell_54 : decode mt_X0_tell.2.1 54 = .ok (.iload_n 3, 1) := by decide +kernel
theorem d_X0_tell_55 : decode mt_X0_tell.2.1 55 = .ok (.bastore, 1) := by decide +kernel
theorem d_X0_tell_56 : decode mt_X0_tell.2.1 56 = .ok (.aload_n 0, 1) := by decide +kernel
theorem d_X0_tell_57 : decode mt_X0_tell.2.1 57 = .ok (.dup, 1) := by decide +kernel
theorem d_X0_tell_58 : decode mt_X0_tell.2.1 58 = .ok (.getfield 35, 3) := by decide +kernel
theorem d_X0_tell_61 : decode mt_X0_tell.2.1 61 = .ok (.iconst 1, 1) := by decide +kernel
theorem d_X0_tell_62 : decode mt_X0_tell.2.1 62 = .ok (.iadd, 1) := by decide +kernel
theorem d_X0_tell_63 : decode mt_X0_tell.2.1 63 = .ok (.putfield 35, 3) := by decide +kernel
theorem d_X0_tell_66 : decode mt_X0_tell.2.1 66 = .ok (.return_, 1) := by decide +kernel
noncomputable def f_X0_tell_b21 (s0 s1 : Int) (σ : Mem) : Option (Mem) :=
  (bz s0).bind fun _ =>
  (pf Sh σ 0 s1 4 s0).bind fun σ11 =>
  some σ11
theorem L_X0_tell_b21 {sc : Nat × (Nat → Int32)} {o : Mem} {s0 s1 : Int} {σ : Mem} (h : f_X0_tell_b21 s0 s1 σ = some o) : E sc (Fm Sh none Sh o) mt_X0_tell 1 Sh Sh 21 [(9, 0), (9, 0), (9, 0), (9, 0)] [(0, s0), (2, s1)] Sh σ := by
  unfold f_X0_tell_b21 at h
  refine bd_bz h (fun q12 h => ?_)
  refine E_put d_X0_tell_21 okX0 fl_X0_38 ⟨by decide, rfl⟩ (Or.inr (Or.inr (Or.inl ⟨rfl, rfl, q12⟩))) (Or.inl rfl) h (fun σ11 h => ?_)
  refine E_goto (tgt := 66) d_X0_tell_24 (by decide) ?_
  cases h
  exact E_vret d_X0_tell_66 rfl
noncomputable def f_X0_tell_b16 (s0 : Int) (σ : Mem) : Option (Mem) :=
  f_X0_tell_b21 1 s0 σ
theorem L_X0_tell_b16 {sc : Nat × (Nat → Int32)} {o : Mem} {s0 : Int} {σ : Mem} (h : f_X0_tell_b16 s0 σ = some o) : E sc (Fm Sh none Sh o) mt_X0_tell 1 Sh Sh 16 [(9, 0), (9, 0), (9, 0), (9, 0)] [(2, s0)] Sh σ := by
  unfold f_X0_tell_b16 at h
  refine E_iconst d_X0_tell_16 (c32 rfl) ?_
  refine E_goto (tgt := 21) d_X0_tell_17 (by decide) ?_
  exact (L_X0_tell_b21 h)
noncomputable def f_X0_tell_b0 (v0 v1 v2 v3 : Int) (σ : Mem) : Option (Mem) :=
  if v1 = 0 then
    (gf Sh σ 0 v0 4).bind fun x1 =>
    if x1 = 0 then
      if v3 = 0 then
        f_X0_tell_b21 0 v0 σ
      else
        f_X0_tell_b16 v0 σ
    else
      f_X0_tell_b16 v0 σ
  else
    (gf Sh σ 0 v0 3).bind fun x2 =>
    if 6 ≤ x2 then
      some σ
    else
      (gf Sh σ 0 v0 0).bind fun x3 =>
      (gf Sh σ 0 v0 3).bind fun x4 =>
      (st_ Sh σ 20 x3 x4 v2).bind fun σ5 =>
      (gf Sh σ5 0 v0 1).bind fun x6 =>
      (gf Sh σ5 0 v0 3).bind fun x7 =>
      (st_ Sh σ5 23 x6 x7 (b1 v3)).bind fun σ8 =>
      (gf Sh σ8 0 v0 3).bind fun x9 =>
      (pf Sh σ8 0 v0 3 (w32 (x9 + 1))).bind fun σ10 =>
      some σ10
theorem L_X0_tell_b0 {sc : Nat × (Nat → Int32)} {o : Mem} {v0 v1 v2 v3 : Int} {σ : Mem} (h : f_X0_tell_b0 v0 v1 v2 v3 σ = some o) : E sc (Fm Sh none Sh o) mt_X0_tell 1 Sh Sh 0 [(2, v0), (0, v1), (0, v2), (0, v3)] [] Sh σ := by
  unfold f_X0_tell_b0 at h
  refine E_iload_n d_X0_tell_0 rfl ?_
  refine E_if_ne (tgt := 27) d_X0_tell_1 (by decide) h (fun _ h => ?_) (fun _ h => ?_)
  · refine E_aload_n d_X0_tell_4 rfl (by decide) ?_
    refine E_aload_n d_X0_tell_5 rfl (by decide) ?_
    refine E_get d_X0_tell_6 okX0 fl_X0_38 ⟨by decide, rfl⟩ h (fun x1 h => ?_)
    refine E_if_ne (tgt := 16) d_X0_tell_9 (by decide) h (fun _ h => ?_) (fun _ h => ?_)
    · refine E_iload_n d_X0_tell_12 rfl ?_
      refine E_if_eq (tgt := 20) d_X0_tell_13 (by decide) h (fun _ h => ?_) (fun _ h => ?_)
      · refine E_iconst d_X0_tell_20 (c32 rfl) ?_
        exact E_weak (ls' := [(9, 0), (9, 0), (9, 0), (9, 0)]) ⟨Or.inl rfl, Or.inl rfl, Or.inl rfl, Or.inl rfl, trivial⟩ (L_X0_tell_b21 h)
      · exact E_weak (ls' := [(9, 0), (9, 0), (9, 0), (9, 0)]) ⟨Or.inl rfl, Or.inl rfl, Or.inl rfl, Or.inl rfl, trivial⟩ (L_X0_tell_b16 h)
    · exact E_weak (ls' := [(9, 0), (9, 0), (9, 0), (9, 0)]) ⟨Or.inl rfl, Or.inl rfl, Or.inl rfl, Or.inl rfl, trivial⟩ (L_X0_tell_b16 h)
  · refine E_aload_n d_X0_tell_27 rfl (by decide) ?_
    refine E_get d_X0_tell_28 okX0 fl_X0_35 ⟨by decide, rfl⟩ h (fun x2 h => ?_)
    refine E_bipush d_X0_tell_31 (c8 rfl) ?_
    refine E_icmp_ge (tgt := 66) d_X0_tell_33 (by decide) h (fun _ h => ?_) (fun _ h => ?_)
    · cases h
      exact E_vret d_X0_tell_66 rfl
    · refine E_aload_n d_X0_tell_36 rfl (by decide) ?_
      refine E_get d_X0_tell_37 okX0 fl_X0_9 ⟨by decide, rfl⟩ h (fun x3 h => ?_)
      refine E_aload_n d_X0_tell_40 rfl (by decide) ?_
      refine E_get d_X0_tell_41 okX0 fl_X0_35 ⟨by decide, rfl⟩ h (fun x4 h => ?_)
      refine E_iload_n d_X0_tell_44 rfl ?_
      refine E_iastore d_X0_tell_45 h (fun σ5 h => ?_)
      refine E_aload_n d_X0_tell_46 rfl (by decide) ?_
      refine E_get d_X0_tell_47 okX0 fl_X0_15 ⟨by decide, rfl⟩ h (fun x6 h => ?_)
      refine E_aload_n d_X0_tell_50 rfl (by decide) ?_
      refine E_get d_X0_tell_51 okX0 fl_X0_35 ⟨by decide, rfl⟩ h (fun x7 h => ?_)
      refine E_iload_n d_X0_tell_54 rfl ?_
      refine E_zastore d_X0_tell_55 h (fun σ8 h => ?_)
      refine E_aload_n d_X0_tell_56 rfl (by decide) ?_
      refine E_dupT d_X0_tell_57 (by decide) ?_
      refine E_get d_X0_tell_58 okX0 fl_X0_35 ⟨by decide, rfl⟩ h (fun x9 h => ?_)
      refine E_iconst d_X0_tell_61 (c32 rfl) ?_
      refine E_iadd d_X0_tell_62 ?_
      refine E_put d_X0_tell_63 okX0 fl_X0_35 ⟨by decide, rfl⟩ (Or.inl ⟨rfl, rfl⟩) (Or.inl rfl) h (fun σ10 h => ?_)
      cases h
      exact E_vret d_X0_tell_66 rfl
noncomputable def f_X0_tell (v0 v1 v2 v3 : Int) (σ : Mem) : Option (Mem) := if isO Sh 0 v0 = true then f_X0_tell_b0 v0 v1 v2 v3 σ else none
theorem L_X0_tell {o : Mem} {v0 v1 v2 v3 : Int} {σ : Mem} (h : f_X0_tell v0 v1 v2 v3 σ = some o) : (isO Sh 0 v0 = true ∧ Cn mt_X0_tell 1 [(2, v0), (0, v1), (0, v2), (0, v3)] Sh σ none Sh o) := ⟨(ite_ok h).1, Cn_of mk_X0_tell.1.2.2.1 (Nat.le_of_ble_eq_true rfl) (fun sc => L_X0_tell_b0 (ite_ok h).2)⟩
theorem d_X0_canPart_0 : decode mt_X0_canPart.2.1 0 = .ok (.iconst 0, 1) := by decide +kernel
theorem d_X0_canPart_1 : decode mt_X0_canPart.2.1 1 = .ok (.istore_n 3, 1) := by decide +kernel
theorem d_X0_canPart_2 : decode mt_X0_canPart.2.1 2 = .ok (.iload_n 3, 1) := by decide +kernel
theorem d_X0_canPart_3 : decode mt_X0_canPart.2.1 3 = .ok (.aload_n 0, 1) := by decide +kernel
theorem d_X0_canPart_4 : decode mt_X0_canPart.2.1 4 = .ok (.getfield 35, 3) := by decide +kernel
theorem d_X0_canPart_7 : decode mt_X0_canPart.2.1 7 = .ok (.if_icmp .ge 96, 3) := by decide +kernel
theorem d_X0_canPart_10 : decode mt_X0_canPart.2.1 10 = .ok (.iconst 0, 1) := by decide +kernel
theorem d_X0_canPart_11 : decode mt_X0_canPart.2.1 11 = .ok (.istore 4, 2) := by decide +kernel
theorem d_X0_canPart_13 : decode mt_X0_canPart.2.1 13 = .ok (.iload 4, 2) := by decide +kernel
theorem d_X0_canPart_15 : decode mt_X0_canPart.2.1 15 = .ok (.aload_n 0, 1) := by decide +kernel
theorem d_X0_canPart_16 : decode mt_X0_canPart.2.1 16 = .ok (.getfield 35, 3) := by decide +kernel
theorem d_X0_canPart_19 : decode mt_X0_canPart.2.1 19 = .ok (.if_icmp .ge 78, 3) := by decide +kernel
theorem d_X0_canPart_22 : decode mt_X0_canPart.2.1 22 = .ok (.aload_n 0, 1) := by decide +kernel
theorem d_X0_canPart_23 : decode mt_X0_canPart.2.1 23 = .ok (.getfield 15, 3) := by decide +kernel
theorem d_X0_canPart_26 : decode mt_X0_canPart.2.1 26 = .ok (.iload_n 3, 1) := by decide +kernel
theorem d_X0_canPart_27 : decode mt_X0_canPart.2.1 27 = .ok (.baload, 1) := by decide +kernel
theorem d_X0_canPart_28 : decode mt_X0_canPart.2.1 28 = .ok (.ifCond .eq 69, 3) := by decide +kernel
theorem d_X0_canPart_31 : decode mt_X0_canPart.2.1 31 = .ok (.iload_n 2, 1) := by decide +kernel
theorem d_X0_canPart_32 : decode mt_X0_canPart.2.1 32 = .ok (.iload_n 1, 1) := by decide +kernel
theorem d_X0_canPart_33 : decode mt_X0_canPart.2.1 33 = .ok (.aload_n 0, 1) := by decide +kernel
theorem d_X0_canPart_34 : decode mt_X0_canPart.2.1 34 = .ok (.getfield 9, 3) := by decide +kernel
theorem d_X0_canPart_37 : decode mt_X0_canPart.2.1 37 = .ok (.iload 4, 2) := by decide +kernel
theorem d_X0_canPart_39 : decode mt_X0_canPart.2.1 39 = .ok (.iaload, 1) := by decide +kernel
theorem d_X0_canPart_40 : decode mt_X0_canPart.2.1 40 = .ok (.iand, 1) := by decide +kernel
theorem d_X0_canPart_41 : decode mt_X0_canPart.2.1 41 = .ok (.aload_n 0, 1) := by decide +kernel
theorem d_X0_canPart_42 : decode mt_X0_canPart.2.1 42 = .ok (.getfield 9, 3) := by decide +kernel
theorem d_X0_canPart_45 : decode mt_X0_canPart.2.1 45 = .ok (.iload_n 3, 1) := by decide +kernel
theorem d_X0_canPart_46 : decode mt_X0_canPart.2.1 46 = .ok (.iaload, 1) := by decide +kernel
theorem d_X0_canPart_47 : decode mt_X0_canPart.2.1 47 = .ok (.iconst (-1), 1) := by decide +kernel
theorem d_X0_canPart_48 : decode mt_X0_canPart.2.1 48 = .ok (.ixor, 1) := by decide +kernel
theorem d_X0_canPart_49 : decode mt_X0_canPart.2.1 49 = .ok (.iand, 1) := by decide +kernel
theorem d_X0_canPart_50 : decode mt_X0_canPart.2.1 50 = .ok (.invokestatic 26, 3) := by decide +kernel
theorem d_X0_canPart_53 : decode mt_X0_canPart.2.1 53 = .ok (.invokestatic 58, 3) := by decide +kernel
theorem d_X0_canPart_56 : decode mt_X0_canPart.2.1 56 = .ok (.istore 5, 2) := by decide +kernel
theorem d_X0_canPart_58 : decode mt_X0_canPart.2.1 58 = .ok (.aload_n 0, 1) := by decide +kernel
theorem d_X0_canPart_59 : decode mt_X0_canPart.2.1 59 = .ok (.getfield 15, 3) := by decide +kernel
theorem d_X0_canPart_62 : decode mt_X0_canPart.2.1 62 = .ok (.iload 4, 2) := by decide +kernel
theorem d_X0_canPart_64 : decode mt_X0_canPart.2.1 64 = .ok (.baload, 1) := by decide +kernel
theorem d_X0_canPart_65 : decode mt_X0_canPart.2.1 65 = .ok (.ifCond .ne 26, 3) := by decide +kernel
theorem d_X0_canPart_68 : decode mt_X0_canPart.2.1 68 = .ok (.aload_n 0, 1) := by decide +kernel
theorem d_X0_canPart_69 : decode mt_X0_canPart.2.1 69 = .ok (.getfield 19, 3) := by decide +kernel
theorem d_X0_canPart_72 : decode mt_X0_canPart.2.1 72 = .ok (.iload_n 3, 1) := by decide +kernel
theorem d_X0_canPart_73 : decode mt_X0_canPart.2.1 73 = .ok (.iaload, 1) := by decide +kernel
theorem d_X0_canPart_74 : decode mt_X0_canPart.2.1 74 = .ok (.aload_n 0, 1) := by decide +kernel
theorem d_X0_canPart_75 : decode mt_X0_canPart.2.1 75 = .ok (.getfield 19, 3) := by decide +kernel
theorem d_X0_canPart_78 : decode mt_X0_canPart.2.1 78 = .ok (.iload 4, 2) := by decide +kernel
theorem d_X0_canPart_80 : decode mt_X0_canPart.2.1 80 = .ok (.iaload, 1) := by decide +kernel
theorem d_X0_canPart_81 : decode mt_X0_canPart.2.1 81 = .ok (.isub, 1) := by decide +kernel
theorem d_X0_canPart_82 : decode mt_X0_canPart.2.1 82 = .ok (.iload 5, 2) := by decide +kernel
theorem d_X0_canPart_84 : decode mt_X0_canPart.2.1 84 = .ok (.iadd, 1) := by decide +kernel
theorem d_X0_canPart_85 : decode mt_X0_canPart.2.1 85 = .ok (.iconst 1, 1) := by decide +kernel
theorem d_X0_canPart_86 : decode mt_X0_canPart.2.1 86 = .ok (.if_icmp .ge 5, 3) := by decide +kernel
theorem d_X0_canPart_89 : decode mt_X0_canPart.2.1 89 = .ok (.iconst 0, 1) := by decide +kernel
theorem d_X0_canPart_90 : decode mt_X0_canPart.2.1 90 = .ok (.ireturn, 1) := by decide +kernel
theorem d_X0_canPart_91 : decode mt_X0_canPart.2.1 91 = .ok (.iinc 4 1, 3) := by decide +kernel
theorem d_X0_canPart_94 : decode mt_X0_canPart.2.1 94 = .ok (.goto (-81), 3) := by decide +kernel
theorem d_X0_canPart_97 : decode mt_X0_canPart.2.1 97 = .ok (.iinc 3 1, 3) := by decide +kernel
theorem d_X0_canPart_100 : decode mt_X0_canPart.2.1 100 = .ok (.goto (-98), 3) := by decide +kernel
theorem d_X0_canPart_103 : decode mt_X0_canPart.2.1 103 = .ok (.iconst 1, 1) := by decide +kernel
theorem d_X0_canPart_104 : decode mt_X0_canPart.2.1 104 = .ok (.ireturn, 1) := by decide +kernel
noncomputable def f_X0_canPart_b91 (k2 : (Int → Int → Int → Int → Mem → Option (Int))) (k13 : (Int → Int → Int → Int → Int → Mem → Option (Int))) (v0 v1 v2 v3 v4 : Int) (σ : Mem) : Option (Int) :=
  k13 v0 v1 v2 v3 (w32 (v4 + 1)) σ
theorem L_X0_canPart_b91 {sc : Nat × (Nat → Int32)} {o : Int} {σ : Mem} {k2 : (Int → Int → Int → Int → Mem → Option (Int))} {k13 : (Int → Int → Int → Int → Int → Mem → Option (Int))} (hk2 : ∀ {v0 v1 v2 v3 : Int}, k2 v0 v1 v2 v3 σ = some o → E sc (Fm Sh (some (0, o)) Sh σ) mt_X0_canPart 2 Sh Sh 2 [(2, v0), (0, v1), (0, v2), (0, v3), (9, 0), (9, 0)] [] Sh σ) (hk13 : ∀ {v0 v1 v2 v3 v4 : Int}, k13 v0 v1 v2 v3 v4 σ = some o → E sc (Fm Sh (some (0, o)) Sh σ) mt_X0_canPart 2 Sh Sh 13 [(2, v0), (0, v1), (0, v2), (0, v3), (0, v4), (9, 0)] [] Sh σ) {v0 v1 v2 v3 v4 : Int} (h : f_X0_canPart_b91 k2 k13 v0 v1 v2 v3 v4 σ = some o) : E sc (Fm Sh (some (0, o)) Sh σ) mt_X0_canPart 2 Sh Sh 91 [(2, v0), (0, v1), (0, v2), (0, v3), (0, v4), (9, 0)] [] Sh σ := by
  unfold f_X0_canPart_b91 at h
  refine E_iinc d_X0_canPart_91 (ls' := [(2, v0), (0, v1), (0, v2), (0, v3), (0, w32 (v4 + 1)), (9, 0)]) rfl ⟨by decide, rfl⟩ ?_
  refine E_goto (tgt := 13) d_X0_canPart_94 (by decide) ?_
  exact (hk13 h)
noncomputable def f_X0_canPart_b97 (k2 : (Int → Int → Int → Int → Mem → Option (Int))) (v0 v1 v2 v3 : Int) (σ : Mem) : Option (Int) :=
  k2 v0 v1 v2 (w32 (v3 + 1)) σ
theorem L_X0_canPart_b97 {sc : Nat × (Nat → Int32)} {o : Int} {σ : Mem} {k2 : (Int → Int → Int → Int → Mem → Option (Int))} (hk2 : ∀ {v0 v1 v2 v3 : Int}, k2 v0 v1 v2 v3 σ = some o → E sc (Fm Sh (some (0, o)) Sh σ) mt_X0_canPart 2 Sh Sh 2 [(2, v0), (0, v1), (0, v2), (0, v3), (9, 0), (9, 0)] [] Sh σ) {v0 v1 v2 v3 : Int} (h : f_X0_canPart_b97 k2 v0 v1 v2 v3 σ = some o) : E sc (Fm Sh (some (0, o)) Sh σ) mt_X0_canPart 2 Sh Sh 97 [(2, v0), (0, v1), (0, v2), (0, v3), (9, 0), (9, 0)] [] Sh σ := by
  unfold f_X0_canPart_b97 at h
  refine E_iinc d_X0_canPart_97 (ls' := [(2, v0), (0, v1), (0, v2), (0, w32 (v3 + 1)), (9, 0), (9, 0)]) rfl ⟨by decide, rfl⟩ ?_
  refine E_goto (tgt := 2) d_X0_canPart_100 (by decide) ?_
  exact (hk2 h)
noncomputable def f_X0_canPart_b13 (k2 : (Int → Int → Int → Int → Mem → Option (Int))) (k13 : (Int → Int → Int → Int → Int → Mem → Option (Int))) (v0 v1 v2 v3 v4 : Int) (σ : Mem) : Option (Int) :=
  (gf Sh σ 0 v0 3).bind fun x2 =>
  if x2 ≤ v4 then
    f_X0_canPart_b97 k2 v0 v1 v2 v3 σ
  else
    (gf Sh σ 0 v0 1).bind fun x3 =>
    (al Sh σ 23 x3 v3).bind fun x4 =>
    if x4 = 0 then
      f_X0_canPart_b97 k2 v0 v1 v2 v3 σ
    else
      (gf Sh σ 0 v0 0).bind fun x5 =>
      (al Sh σ 20 x5 v4).bind fun x6 =>
      (gf Sh σ 0 v0 0).bind fun x7 =>
      (al Sh σ 20 x7 v3).bind fun x8 =>
      (f_JI_bitCount (iand (iand v1 x6) (ixor x8 (-1))) σ).bind fun r9 =>
      (gf Sh σ 0 v0 1).bind fun x11 =>
      (al Sh σ 23 x11 v4).bind fun x12 =>
      if x12 = 0 then
        (gf Sh σ 0 v0 2).bind fun x13 =>
        (al Sh σ 20 x13 v3).bind fun x14 =>
        (gf Sh σ 0 v0 2).bind fun x15 =>
        (al Sh σ 20 x15 v4).bind fun x16 =>
        if 1 ≤ w32 (w32 (x14 - x16) + (imin v2 r9)) then
          f_X0_canPart_b91 k2 k13 v0 v1 v2 v3 v4 σ
        else
          some (0)
      else
        f_X0_canPart_b91 k2 k13 v0 v1 v2 v3 v4 σ
theorem L_X0_canPart_b13 {sc : Nat × (Nat → Int32)} {o : Int} {σ : Mem} {k2 : (Int → Int → Int → Int → Mem → Option (Int))} {k13 : (Int → Int → Int → Int → Int → Mem → Option (Int))} (hk2 : ∀ {v0 v1 v2 v3 : Int}, k2 v0 v1 v2 v3 σ = some o → E sc (Fm Sh (some (0, o)) Sh σ) mt_X0_canPart 2 Sh Sh 2 [(2, v0), (0, v1), (0, v2), (0, v3), (9, 0), (9, 0)] [] Sh σ) (hk13 : ∀ {v0 v1 v2 v3 v4 : Int}, k13 v0 v1 v2 v3 v4 σ = some o → E sc (Fm Sh (some (0, o)) Sh σ) mt_X0_canPart 2 Sh Sh 13 [(2, v0), (0, v1), (0, v2), (0, v3), (0, v4), (9, 0)] [] Sh σ) {v0 v1 v2 v3 v4 : Int} (h : f_X0_canPart_b13 k2 k13 v0 v1 v2 v3 v4 σ = some o) : E sc (Fm Sh (some (0, o)) Sh σ) mt_X0_canPart 2 Sh Sh 13 [(2, v0), (0, v1), (0, v2), (0, v3), (0, v4), (9, 0)] [] Sh σ := by
  unfold f_X0_canPart_b13 at h
  refine E_iload d_X0_canPart_13 rfl ?_
  refine E_aload_n d_X0_canPart_15 rfl (by decide) ?_
  refine E_get d_X0_canPart_16 okX0 fl_X0_35 ⟨by decide, rfl⟩ h (fun x2 h => ?_)
  refine E_icmp_ge (tgt := 97) d_X0_canPart_19 (by decide) h (fun _ h => ?_) (fun _ h => ?_)
  · exact E_weak (ls' := [(2, v0), (0, v1), (0, v2), (0, v3), (9, 0), (9, 0)]) ⟨Or.inr rfl, Or.inr rfl, Or.inr rfl, Or.inr rfl, Or.inl rfl, Or.inl rfl, trivial⟩ (L_X0_canPart_b97 hk2 h)
  · refine E_aload_n d_X0_canPart_22 rfl (by decide) ?_
    refine E_get d_X0_canPart_23 okX0 fl_X0_15 ⟨by decide, rfl⟩ h (fun x3 h => ?_)
    refine E_iload_n d_X0_canPart_26 rfl ?_
    refine E_baload d_X0_canPart_27 (by decide : 23 = 22 ∨ 23 = 23) h (fun x4 h => ?_)
    refine E_if_eq (tgt := 97) d_X0_canPart_28 (by decide) h (fun _ h => ?_) (fun _ h => ?_)
    · exact E_weak (ls' := [(2, v0), (0, v1), (0, v2), (0, v3), (9, 0), (9, 0)]) ⟨Or.inr rfl, Or.inr rfl, Or.inr rfl, Or.inr rfl, Or.inl rfl, Or.inl rfl, trivial⟩ (L_X0_canPart_b97 hk2 h)
    · refine E_iload_n d_X0_canPart_31 rfl ?_
      refine E_iload_n d_X0_canPart_32 rfl ?_
      refine E_aload_n d_X0_canPart_33 rfl (by decide) ?_
      refine E_get d_X0_canPart_34 okX0 fl_X0_9 ⟨by decide, rfl⟩ h (fun x5 h => ?_)
      refine E_iload d_X0_canPart_37 rfl ?_
      refine E_iaload d_X0_canPart_39 h (fun x6 h => ?_)
      refine E_iand d_X0_canPart_40 ?_
      refine E_aload_n d_X0_canPart_41 rfl (by decide) ?_
      refine E_get d_X0_canPart_42 okX0 fl_X0_9 ⟨by decide, rfl⟩ h (fun x7 h => ?_)
      refine E_iload_n d_X0_canPart_45 rfl ?_
      refine E_iaload d_X0_canPart_46 h (fun x8 h => ?_)
      refine E_iconst d_X0_canPart_47 (c32 rfl) ?_
      refine E_ixor d_X0_canPart_48 ?_
      refine E_iand d_X0_canPart_49 ?_
      refine bd h (fun r9 q10 h => ?_)
      refine E_cS (as := [(0, iand (iand v1 x6) (ixor x8 (-1)))]) (st := [(0, v2)]) d_X0_canPart_50 mk_JI_bitCount nl_X0_26 (by omega) ⟨rfl, rfl, Nat.le_of_ble_eq_true rfl⟩ (L_JI_bitCount q10) ?_
      refine E_imin d_X0_canPart_53 nl_X0_58 (by omega) (Nat.le_of_ble_eq_true rfl) ?_
      refine E_istore d_X0_canPart_56 (ls' := [(2, v0), (0, v1), (0, v2), (0, v3), (0, v4), (0, imin v2 r9)]) ⟨by decide, rfl⟩ ?_
      refine E_aload_n d_X0_canPart_58 rfl (by decide) ?_
      refine E_get d_X0_canPart_59 okX0 fl_X0_15 ⟨by decide, rfl⟩ h (fun x11 h => ?_)
      refine E_iload d_X0_canPart_62 rfl ?_
      refine E_baload d_X0_canPart_64 (by decide : 23 = 22 ∨ 23 = 23) h (fun x12 h => ?_)
      refine E_if_ne (tgt := 91) d_X0_canPart_65 (by decide) h (fun _ h => ?_) (fun _ h => ?_)
      · refine E_aload_n d_X0_canPart_68 rfl (by decide) ?_
        refine E_get d_X0_canPart_69 okX0 fl_X0_19 ⟨by decide, rfl⟩ h (fun x13 h => ?_)
        refine E_iload_n d_X0_canPart_72 rfl ?_
        refine E_iaload d_X0_canPart_73 h (fun x14 h => ?_)
        refine E_aload_n d_X0_canPart_74 rfl (by decide) ?_
        refine E_get d_X0_canPart_75 okX0 fl_X0_19 ⟨by decide, rfl⟩ h (fun x15 h => ?_)
        refine E_iload d_X0_canPart_78 rfl ?_
        refine E_iaload d_X0_canPart_80 h (fun x16 h => ?_)
        refine E_isub d_X0_canPart_81 ?_
        refine E_iload d_X0_canPart_82 rfl ?_
        refine E_iadd d_X0_canPart_84 ?_
        refine E_iconst d_X0_canPart_85 (c32 rfl) ?_
        refine E_icmp_ge (tgt := 91) d_X0_canPart_86 (by decide) h (fun _ h => ?_) (fun _ h => ?_)
        · exact E_weak (ls' := [(2, v0), (0, v1), (0, v2), (0, v3), (0, v4), (9, 0)]) ⟨Or.inr rfl, Or.inr rfl, Or.inr rfl, Or.inr rfl, Or.inr rfl, Or.inl rfl, trivial⟩ (L_X0_canPart_b91 hk2 hk13 h)
        · refine E_iconst d_X0_canPart_89 (c32 rfl) ?_
          cases h
          exact E_zret d_X0_canPart_90 rfl (Or.inl rfl)
      · exact E_weak (ls' := [(2, v0), (0, v1), (0, v2), (0, v3), (0, v4), (9, 0)]) ⟨Or.inr rfl, Or.inr rfl, Or.inr rfl, Or.inr rfl, Or.inr rfl, Or.inl rfl, trivial⟩ (L_X0_canPart_b91 hk2 hk13 h)
noncomputable def f_X0_canPart_h13 (k2 : (Int → Int → Int → Int → Mem → Option (Int))) (n : Nat) : Int → Int → Int → Int → Int → Mem → Option (Int) := Nat.rec (motive := fun _ => Int → Int → Int → Int → Int → Mem → Option (Int)) (fun _ _ _ _ _ _ => none) (fun _ ih => f_X0_canPart_b13 k2 (ih)) n
theorem L_X0_canPart_h13 {sc : Nat × (Nat → Int32)} {o : Int} {σ : Mem} {k2 : (Int → Int → Int → Int → Mem → Option (Int))} (hk2 : ∀ {v0 v1 v2 v3 : Int}, k2 v0 v1 v2 v3 σ = some o → E sc (Fm Sh (some (0, o)) Sh σ) mt_X0_canPart 2 Sh Sh 2 [(2, v0), (0, v1), (0, v2), (0, v3), (9, 0), (9, 0)] [] Sh σ) : ∀ (n : Nat) {v0 v1 v2 v3 v4 : Int}, f_X0_canPart_h13 k2 n v0 v1 v2 v3 v4 σ = some o → E sc (Fm Sh (some (0, o)) Sh σ) mt_X0_canPart 2 Sh Sh 13 [(2, v0), (0, v1), (0, v2), (0, v3), (0, v4), (9, 0)] [] Sh σ := by
  intro n
  induction n with
  | zero => intro v0 v1 v2 v3 v4 h; cases h
  | succ n ih => intro v0 v1 v2 v3 v4 h; exact L_X0_canPart_b13 hk2 (@ih) h
noncomputable def f_X0_canPart_b2 (k2 : (Int → Int → Int → Int → Mem → Option (Int))) (v0 v1 v2 v3 : Int) (σ : Mem) : Option (Int) :=
  (gf Sh σ 0 v0 3).bind fun x1 =>
  if x1 ≤ v3 then
    some (1)
  else
    f_X0_canPart_h13 k2 FU v0 v1 v2 v3 0 σ
theorem L_X0_canPart_b2 {sc : Nat × (Nat → Int32)} {o : Int} {σ : Mem} {k2 : (Int → Int → Int → Int → Mem → Option (Int))} (hk2 : ∀ {v0 v1 v2 v3 : Int}, k2 v0 v1 v2 v3 σ = some o → E sc (Fm Sh (some (0, o)) Sh σ) mt_X0_canPart 2 Sh Sh 2 [(2, v0), (0, v1), (0, v2), (0, v3), (9, 0), (9, 0)] [] Sh σ) {v0 v1 v2 v3 : Int} (h : f_X0_canPart_b2 k2 v0 v1 v2 v3 σ = some o) : E sc (Fm Sh (some (0, o)) Sh σ) mt_X0_canPart 2 Sh Sh 2 [(2, v0), (0, v1), (0, v2), (0, v3), (9, 0), (9, 0)] [] Sh σ := by
  unfold f_X0_canPart_b2 at h
  refine E_iload_n d_X0_canPart_2 rfl ?_
  refine E_aload_n d_X0_canPart_3 rfl (by decide) ?_
  refine E_get d_X0_canPart_4 okX0 fl_X0_35 ⟨by decide, rfl⟩ h (fun x1 h => ?_)
  refine E_icmp_ge (tgt := 103) d_X0_canPart_7 (by decide) h (fun _ h => ?_) (fun _ h => ?_)
  · refine E_iconst d_X0_canPart_103 (c32 rfl) ?_
    cases h
    exact E_zret d_X0_canPart_104 rfl (Or.inr rfl)
  · refine E_iconst d_X0_canPart_10 (c32 rfl) ?_
    refine E_istore d_X0_canPart_11 (ls' := [(2, v0), (0, v1), (0, v2), (0, v3), (0, 0), (9, 0)]) ⟨by decide, rfl⟩ ?_
    exact (L_X0_canPart_h13 hk2 FU h)
noncomputable def f_X0_canPart_h2 (n : Nat) : Int → Int → Int → Int → Mem → Option (Int) := Nat.rec (motive := fun _ => Int → Int → Int → Int → Mem → Option (Int)) (fun _ _ _ _ _ => none) (fun _ ih => f_X0_canPart_b2 (ih)) n
theorem L_X0_canPart_h2 {sc : Nat × (Nat → Int32)} {o : Int} {σ : Mem} : ∀ (n : Nat) {v0 v1 v2 v3 : Int}, f_X0_canPart_h2 n v0 v1 v2 v3 σ = some o → E sc (Fm Sh (some (0, o)) Sh σ) mt_X0_canPart 2 Sh Sh 2 [(2, v0), (0, v1), (0, v2), (0, v3), (9, 0), (9, 0)] [] Sh σ := by
  intro n
  induction n with
  | zero => intro v0 v1 v2 v3 h; cases h
  | succ n ih => intro v0 v1 v2 v3 h; exact L_X0_canPart_b2 (@ih) h
noncomputable def f_X0_canPart_b0 (v0 v1 v2 : Int) (σ : Mem) : Option (Int) :=
  f_X0_canPart_h2 FU v0 v1 v2 0 σ
theorem L_X0_canPart_b0 {sc : Nat × (Nat → Int32)} {o : Int} {σ : Mem} {v0 v1 v2 : Int} (h : f_X0_canPart_b0 v0 v1 v2 σ = some o) : E sc (Fm Sh (some (0, o)) Sh σ) mt_X0_canPart 2 Sh Sh 0 [(2, v0), (0, v1), (0, v2), (9, 0), (9, 0), (9, 0)] [] Sh σ := by
  unfold f_X0_canPart_b0 at h
  refine E_iconst d_X0_canPart_0 (c32 rfl) ?_
  refine E_istore_n d_X0_canPart_1 (ls' := [(2, v0), (0, v1), (0, v2), (0, 0), (9, 0), (9, 0)]) ⟨by decide, rfl⟩ ?_
  exact (L_X0_canPart_h2 FU h)
noncomputable def f_X0_canPart (v0 v1 v2 : Int) (σ : Mem) : Option (Int) := if isO Sh 0 v0 = true then f_X0_canPart_b0 v0 v1 v2 σ else none
theorem L_X0_canPart {o : Int} {v0 v1 v2 : Int} {σ : Mem} (h : f_X0_canPart v0 v1 v2 σ = some o) : (isO Sh 0 v0 = true ∧ Cn mt_X0_canPart 2 [(2, v0), (0, v1), (0, v2)] Sh σ (some (0, o)) Sh σ) := ⟨(ite_ok h).1, Cn_of mk_X0_canPart.1.2.2.1 (Nat.le_of_ble_eq_true rfl) (fun sc => L_X0_canPart_b0 (ite_ok h).2)⟩
theorem d_X0_canHold_0 : decode mt_X0_canHold.2.1 0 = .ok (.aload_n 0, 1) := by decide +kernel
theorem d_X0_canHold_1 : decode mt_X0_canHold.2.1 1 = .ok (.getfield 22, 3) := by decide +kernel
theorem d_X0_canHold_4 : decode mt_X0_canHold.2.1 4 = .ok (.iconst (-1), 1) := by decide +kernel
theorem d_X0_canHold_5 : decode mt_X0_canHold.2.1 5 = .ok (.iload_n 1, 1) := by decide +kernel
theorem d_X0_canHold_6 : decode mt_X0_canHold.2.1 6 = .ok (.ishl, 1) := by decide +kernel
theorem d_X0_canHold_7 : decode mt_X0_canHold.2.1 7 = .ok (.iand, 1) := by decide +kernel
theorem d_X0_canHold_8 : decode mt_X0_canHold.2.1 8 = .ok (.istore 5, 2) := by decide +kernel
theorem d_X0_canHold_10 : decode mt_X0_canHold.2.1 10 = .ok (.iconst 0, 1) := by decide +kernel
theorem d_X0_canHold_11 : decode mt_X0_canHold.2.1 11 = .ok (.istore 6, 2) := by decide +kernel
theorem d_X0_canHold_13 : decode mt_X0_canHold.2.1 13 = .ok (.iload 6, 2) := by decide +kernel
theorem d_X0_canHold_15 : decode mt_X0_canHold.2.1 15 = .ok (.aload_n 0, 1) := by decide +kernel
theorem d_X0_canHold_16 : decode mt_X0_canHold.2.1 16 = .ok (.getfield 35, 3) := by decide +kernel
theorem d_X0_canHold_19 : decode mt_X0_canHold.2.1 19 = .ok (.if_icmp .ge 142, 3) := by decide +kernel
theorem d_X0_canHold_22 : decode mt_X0_canHold.2.1 22 = .ok (.aload_n 0, 1) := by decide +kernel
theorem d_X0_canHold_23 : decode mt_X0_canHold.2.1 23 = .ok (.getfield 19, 3) := by decide +kernel
theorem d_X0_canHold_26 : decode mt_X0_canHold.2.1 26 = .ok (.iload 6, 2) := by decide +kernel
theorem d_X0_canHold_28 : decode mt_X0_canHold.2.1 28 = .ok (.aload_n 0, 1) := by decide +kernel
theorem d_X0_canHold_29 : decode mt_X0_canHold.2.1 29 = .ok (.getfield 9, 3) := by decide +kernel
theorem d_X0_canHold_32 : decode mt_X0_canHold.2.1 32 = .ok (.iload 6, 2) := by decide +kernel
theorem d_X0_canHold_34 : decode mt_X0_canHold.2.1 34 = .ok (.iaload, 1) := by decide +kernel
theorem d_X0_canHold_35 : decode mt_X0_canHold.2.1 35 = .ok (.iload_n 3, 1) := by decide +kernel
theorem d_X0_canHold_36 : decode mt_X0_canHold.2.1 36 = .ok (.iconst (-1), 1) := by decide +kernel
theorem d_X0_canHold_37 : decode mt_X0_canHold.2.1 37 = .ok (.ixor, 1) := by decide +kernel
theorem d_X0_canHold_38 : decode mt_X0_canHold.2.1 38 = .ok (.iand, 1) := by decide +kernel
theorem d_X0_canHold_39 : decode mt_X0_canHold.2.1 39 = .ok (.iload 4, 2) := by decide +kernel
theorem d_X0_canHold_41 : decode mt_X0_canHold.2.1 41 = .ok (.ior, 1) := by decide +kernel
theorem d_X0_canHold_42 : decode mt_X0_canHold.2.1 42 = .ok (.invokestatic 26, 3) := by decide +kernel
theorem d_X0_canHold_45 : decode mt_X0_canHold.2.1 45 = .ok (.iastore, 1) := by decide +kernel
theorem d_X0_canHold_46 : decode mt_X0_canHold.2.1 46 = .ok (.aload_n 0, 1) := by decide +kernel
theorem d_X0_canHold_47 : decode mt_X0_canHold.2.1 47 = .ok (.getfield 15, 3) := by decide +kernel
theorem d_X0_canHold_50 : decode mt_X0_canHold.2.1 50 = .ok (.iload 6, 2) := by decide +kernel
theorem d_X0_canHold_52 : decode mt_X0_canHold.2.1 52 = .ok (.baload, 1) := by decide +kernel
theorem d_X0_canHold_53 : decode mt_X0_canHold.2.1 53 = .ok (.ifCond .eq 18, 3) := by decide +kernel
theorem d_X0_canHold_56 : decode mt_X0_canHold.2.1 56 = .ok (.iload 5, 2) := by decide +kernel
theorem d_X0_canHold_58 : decode mt_X0_canHold.2.1 58 = .ok (.aload_n 0, 1) := by decide +kernel
theorem d_X0_canHold_59 : decode mt_X0_canHold.2.1 59 = .ok (.getfield 9, 3) := by decide +kernel
theorem d_X0_canHold_62 : decode mt_X0_canHold.2.1 62 = .ok (.iload 6, 2) := by decide +kernel
theorem d_X0_canHold_64 : decode mt_X0_canHold.2.1 64 = .ok (.iaload, 1) := by decide +kernel
theorem d_X0_canHold_65 : decode mt_X0_canHold.2.1 65 = .ok (.iconst (-1), 1) := by decide +kernel
theorem d_X0_canHold_66 : decode mt_X0_canHold.2.1 66 = .ok (.ixor, 1) := by decide +kernel
theorem d_X0_canHold_67 : decode mt_X0_canHold.2.1 67 = .ok (.iand, 1) := by decide +kernel
theorem d_X0_canHold_68 : decode mt_X0_canHold.2.1 68 = .ok (.goto 13, 3) := by decide +kernel
theorem d_X0_canHold_71 : decode mt_X0_canHold.2.1 71 = .ok (.iload 5, 2) := by decide +kernel
theorem d_X0_canHold_73 : decode mt_X0_canHold.2.1 73 = .ok (.aload_n 0, 1) := by decide +kernel
theorem d_X0_canHold_74 : decode mt_X0_canHold.2.1 74 = .ok (.getfield 9, 3) := by decide +kernel
theorem d_X0_canHold_77 : decode mt_X0_canHold.2.1 77 = .ok (.iload 6, 2) := by decide +kernel
theorem d_X0_canHold_79 : decode mt_X0_canHold.2.1 79 = .ok (.iaload, 1) := by decide +kernel
theorem d_X0_canHold_80 : decode mt_X0_canHold.2.1 80 = .ok (.iand, 1) := by decide +kernel
theorem d_X0_canHold_81 : decode mt_X0_canHold.2.1 81 = .ok (.istore 7, 2) := by decide +kernel
theorem d_X0_canHold_83 : decode mt_X0_canHold.2.1 83 = .ok (.iload_n 2, 1) := by decide +kernel
theorem d_X0_canHold_84 : decode mt_X0_canHold.2.1 84 = .ok (.iload 7, 2) := by decide +kernel
theorem d_X0_canHold_86 : decode mt_X0_canHold.2.1 86 = .ok (.invokestatic 26, 3) := by decide +kernel
theorem d_X0_canHold_89 : decode mt_X0_canHold.2.1 89 = .ok (.invokestatic 58, 3) := by decide +kernel
theorem d_X0_canHold_92 : decode mt_X0_canHold.2.1 92 = .ok (.istore 8, 2) := by decide +kernel
theorem d_X0_canHold_94 : decode mt_X0_canHold.2.1 94 = .ok (.aload_n 0, 1) := by decide +kernel
theorem d_X0_canHold_95 : decode mt_X0_canHold.2.1 95 = .ok (.getfield 15, 3) := by decide +kernel
theorem d_X0_canHold_98 : decode mt_X0_canHold.2.1 98 = .ok (.iload 6, 2) := by decide +kernel
theorem d_X0_canHold_100 : decode mt_X0_canHold.2.1 100 = .ok (.baload, 1) := by decide +kernel
theorem d_X0_canHold_101 : decode mt_X0_canHold.2.1 101 = .ok (.ifCond .eq 16, 3) := by decide +kernel
theorem d_X0_canHold_104 : decode mt_X0_canHold.2.1 104 = .ok (.aload_n 0, 1) := by decide +kernel
theorem d_X0_canHold_105 : decode mt_X0_canHold.2.1 105 = .ok (.getfield 19, 3) := by decide +kernel
theorem d_X0_canHold_108 : decode mt_X0_canHold.2.1 108 = .ok (.iload 6, 2) := by decide +kernel
theorem d_X0_canHold_110 : decode mt_X0_canHold.2.1 110 = .ok (.iaload, 1) := by decide +kernel
theorem d_X0_canHold_111 : decode mt_X0_canHold.2.1 111 = .ok (.iload 8, 2) := by decide +kernel
theorem d_X0_canHold_113 : decode mt_X0_canHold.2.1 113 = .ok (.iadd, 1) := by decide +kernel
theorem d_X0_canHold_114 : decode mt_X0_canHold.2.1 114 = .ok (.goto 13, 3) := by decide +kernel
theorem d_X0_canHold_117 : decode mt_X0_canHold.2.1 117 = .ok (.aload_n 0, 1) := by decide +kernel
theorem d_X0_canHold_118 : decode mt_X0_canHold.2.1 118 = .ok (.getfield 19, 3) := by decide +kernel
theorem d_X0_canHold_121 : decode mt_X0_canHold.2.1 121 = .ok (.iload 6, 2) := by decide +kernel
theorem d_X0_canHold_123 : decode mt_X0_canHold.2.1 123 = .ok (.iaload, 1) := by decide +kernel
theorem d_X0_canHold_124 : decode mt_X0_canHold.2.1 124 = .ok (.iload 8, 2) := by decide +kernel
theorem d_X0_canHold_126 : decode mt_X0_canHold.2.1 126 = .ok (.isub, 1) := by decide +kernel
theorem d_X0_canHold_127 : decode mt_X0_canHold.2.1 127 = .ok (.istore 9, 2) := by decide +kernel
theorem d_X0_canHold_129 : decode mt_X0_canHold.2.1 129 = .ok (.iload 9, 2) := by decide +kernel
theorem d_X0_canHold_131 : decode mt_X0_canHold.2.1 131 = .ok (.aload_n 0, 1) := by decide +kernel
theorem d_X0_canHold_132 : decode mt_X0_canHold.2.1 132 = .ok (.getfield 32, 3) := by decide +kernel
theorem d_X0_canHold_135 : decode mt_X0_canHold.2.1 135 = .ok (.if_icmp .le 7, 3) := by decide +kernel
theorem d_X0_canHold_138 : decode mt_X0_canHold.2.1 138 = .ok (.iconst 1, 1) := by decide +kernel
theorem d_X0_canHold_139 : decode mt_X0_canHold.2.1 139 = .ok (.goto 4, 3) := by decide +kernel
theorem d_X0_canHold_142 : decode mt_X0_canHold.2.1 142 = .ok (.iconst 0, 1) := by decide +kernel
theorem d_X0_canHold_143 : decode mt_X0_canHold.2.1 143 = .ok (.aload_n 0, 1) := by decide +kernel
theorem d_X0_canHold_144 : decode mt_X0_canHold.2.1 144 = .ok (.getfield 15, 3) := by decide +kernel
theorem d_X0_canHold_147 : decode mt_X0_canHold.2.1 147 = .ok (.iload 6, 2) := by decide +kernel
theorem d_X0_canHold_149 : decode mt_X0_canHold.2.1 149 = .ok (.baload, 1) := by decide +kernel
theorem d_X0_canHold_150 : decode mt_X0_canHold.2.1 150 = .ok (.if_icmp .eq 5, 3) := by decide +kernel
theorem d_X0_canHold_153 : decode mt_X0_canHold.2.1 153 = .ok (.iconst 0, 1) := by decide +kernel
theorem d_X0_canHold_154 : decode mt_X0_canHold.2.1 154 = .ok (.ireturn, 1) := by decide +kernel
theorem d_X0_canHold_155 : decode mt_X0_canHold.2.1 155 = .ok (.iinc 6 1, 3) := by decide +kernel
theorem d_X0_canHold_158 : decode mt_X0_canHold.2.1 158 = .ok (.goto (-145), 3) := by decide +kernel
theorem d_X0_canHold_161 : decode mt_X0_canHold.2.1 161 = .ok (.aload_n 0, 1) := by decide +kernel
theorem d_X0_canHold_162 : decode mt_X0_canHold.2.1 162 = .ok (.iload 5, 2) := by decide +kernel
theorem d_X0_canHold_164 : decode mt_X0_canHold.2.1 164 = .ok (.iload_n 2, 1) := by decide +kernel
theorem d_X0_canHold_165 : decode mt_X0_canHold.2.1 165 = .ok (.invokevirtual 64, 3) := by decide +kernel
theorem d_X0_canHold_168 : decode mt_X0_canHold.2.1 168 = .ok (.ireturn, 1) := by decide +kernel
noncomputable def f_X0_canHold_b143 (k13 : (Int → Int → Int → Int → Int → Int → Mem → Option (Int × Mem))) (v0 v2 v3 v4 v5 v6 s0 : Int) (σ : Mem) : Option (Int × Mem) :=
  (gf Sh σ 0 v0 1).bind fun x27 =>
  (al Sh σ 23 x27 v6).bind fun x28 =>
  if s0 = x28 then
    k13 v0 v2 v3 v4 v5 (w32 (v6 + 1)) σ
  else
    some (0, σ)
theorem L_X0_canHold_b143 {sc : Nat × (Nat → Int32)} {o : Int × Mem} {k13 : (Int → Int → Int → Int → Int → Int → Mem → Option (Int × Mem))} (hk13 : ∀ {v0 v2 v3 v4 v5 v6 : Int} {σ : Mem}, k13 v0 v2 v3 v4 v5 v6 σ = some o → E sc (Fm Sh (some (0, o.1)) Sh o.2) mt_X0_canHold 3 Sh Sh 13 [(2, v0), (9, 0), (0, v2), (0, v3), (0, v4), (0, v5), (0, v6), (9, 0), (9, 0), (9, 0)] [] Sh σ) {v0 v2 v3 v4 v5 v6 s0 : Int} {σ : Mem} (h : f_X0_canHold_b143 k13 v0 v2 v3 v4 v5 v6 s0 σ = some o) : E sc (Fm Sh (some (0, o.1)) Sh o.2) mt_X0_canHold 3 Sh Sh 143 [(2, v0), (9, 0), (0, v2), (0, v3), (0, v4), (0, v5), (0, v6), (9, 0), (9, 0), (9, 0)] [(0, s0)] Sh σ := by
  unfold f_X0_canHold_b143 at h
  refine E_aload_n d_X0_canHold_143 rfl (by decide) ?_
  refine E_get d_X0_canHold_144 okX0 fl_X0_15 ⟨by decide, rfl⟩ h (fun x27 h => ?_)
  refine E_iload d_X0_canHold_147 rfl ?_
  refine E_baload d_X0_canHold_149 (by decide : 23 = 22 ∨ 23 = 23) h (fun x28 h => ?_)
  refine E_icmp_eq (tgt := 155) d_X0_canHold_150 (by decide) h (fun _ h => ?_) (fun _ h => ?_)
  · refine E_iinc d_X0_canHold_155 (ls' := [(2, v0), (9, 0), (0, v2), (0, v3), (0, v4), (0, v5), (0, w32 (v6 + 1)), (9, 0), (9, 0), (9, 0)]) rfl ⟨by decide, rfl⟩ ?_
    refine E_goto (tgt := 13) d_X0_canHold_158 (by decide) ?_
    exact (hk13 h)
  · refine E_iconst d_X0_canHold_153 (c32 rfl) ?_
    cases h
    exact E_zret d_X0_canHold_154 rfl (Or.inl rfl)
noncomputable def f_X0_canHold_b127 (k13 : (Int → Int → Int → Int → Int → Int → Mem → Option (Int × Mem))) (v0 v2 v3 v4 v5 v6 s0 : Int) (σ : Mem) : Option (Int × Mem) :=
  (gf Sh σ 0 v0 6).bind fun x26 =>
  if s0 ≤ x26 then
    f_X0_canHold_b143 k13 v0 v2 v3 v4 v5 v6 0 σ
  else
    f_X0_canHold_b143 k13 v0 v2 v3 v4 v5 v6 1 σ
theorem L_X0_canHold_b127 {sc : Nat × (Nat → Int32)} {o : Int × Mem} {k13 : (Int → Int → Int → Int → Int → Int → Mem → Option (Int × Mem))} (hk13 : ∀ {v0 v2 v3 v4 v5 v6 : Int} {σ : Mem}, k13 v0 v2 v3 v4 v5 v6 σ = some o → E sc (Fm Sh (some (0, o.1)) Sh o.2) mt_X0_canHold 3 Sh Sh 13 [(2, v0), (9, 0), (0, v2), (0, v3), (0, v4), (0, v5), (0, v6), (9, 0), (9, 0), (9, 0)] [] Sh σ) {v0 v2 v3 v4 v5 v6 s0 : Int} {σ : Mem} (h : f_X0_canHold_b127 k13 v0 v2 v3 v4 v5 v6 s0 σ = some o) : E sc (Fm Sh (some (0, o.1)) Sh o.2) mt_X0_canHold 3 Sh Sh 127 [(2, v0), (9, 0), (0, v2), (0, v3), (0, v4), (0, v5), (0, v6), (9, 0), (9, 0), (9, 0)] [(0, s0)] Sh σ := by
  unfold f_X0_canHold_b127 at h
  refine E_istore d_X0_canHold_127 (ls' := [(2, v0), (9, 0), (0, v2), (0, v3), (0, v4), (0, v5), (0, v6), (9, 0), (9, 0), (0, s0)]) ⟨by decide, rfl⟩ ?_
  refine E_iload d_X0_canHold_129 rfl ?_
  refine E_aload_n d_X0_canHold_131 rfl (by decide) ?_
  refine E_get d_X0_canHold_132 okX0 fl_X0_32 ⟨by decide, rfl⟩ h (fun x26 h => ?_)
  refine E_icmp_le (tgt := 142) d_X0_canHold_135 (by decide) h (fun _ h => ?_) (fun _ h => ?_)
  · refine E_iconst d_X0_canHold_142 (c32 rfl) ?_
    exact E_weak (ls' := [(2, v0), (9, 0), (0, v2), (0, v3), (0, v4), (0, v5), (0, v6), (9, 0), (9, 0), (9, 0)]) ⟨Or.inr rfl, Or.inl rfl, Or.inr rfl, Or.inr rfl, Or.inr rfl, Or.inr rfl, Or.inr rfl, Or.inl rfl, Or.inl rfl, Or.inl rfl, trivial⟩ (L_X0_canHold_b143 hk13 h)
  · refine E_iconst d_X0_canHold_138 (c32 rfl) ?_
    refine E_goto (tgt := 143) d_X0_canHold_139 (by decide) ?_
    exact E_weak (ls' := [(2, v0), (9, 0), (0, v2), (0, v3), (0, v4), (0, v5), (0, v6), (9, 0), (9, 0), (9, 0)]) ⟨Or.inr rfl, Or.inl rfl, Or.inr rfl, Or.inr rfl, Or.inr rfl, Or.inr rfl, Or.inr rfl, Or.inl rfl, Or.inl rfl, Or.inl rfl, trivial⟩ (L_X0_canHold_b143 hk13 h)
noncomputable def f_X0_canHold_b81 (k13 : (Int → Int → Int → Int → Int → Int → Mem → Option (Int × Mem))) (v0 v2 v3 v4 v5 v6 s0 : Int) (σ : Mem) : Option (Int × Mem) :=
  (f_JI_bitCount s0 σ).bind fun r18 =>
  (gf Sh σ 0 v0 1).bind fun x20 =>
  (al Sh σ 23 x20 v6).bind fun x21 =>
  if x21 = 0 then
    (gf Sh σ 0 v0 2).bind fun x22 =>
    (al Sh σ 20 x22 v6).bind fun x23 =>
    f_X0_canHold_b127 k13 v0 v2 v3 v4 v5 v6 (w32 (x23 - (imin v2 r18))) σ
  else
    (gf Sh σ 0 v0 2).bind fun x24 =>
    (al Sh σ 20 x24 v6).bind fun x25 =>
    f_X0_canHold_b127 k13 v0 v2 v3 v4 v5 v6 (w32 (x25 + (imin v2 r18))) σ
theorem L_X0_canHold_b81 {sc : Nat × (Nat → Int32)} {o : Int × Mem} {k13 : (Int → Int → Int → Int → Int → Int → Mem → Option (Int × Mem))} (hk13 : ∀ {v0 v2 v3 v4 v5 v6 : Int} {σ : Mem}, k13 v0 v2 v3 v4 v5 v6 σ = some o → E sc (Fm Sh (some (0, o.1)) Sh o.2) mt_X0_canHold 3 Sh Sh 13 [(2, v0), (9, 0), (0, v2), (0, v3), (0, v4), (0, v5), (0, v6), (9, 0), (9, 0), (9, 0)] [] Sh σ) {v0 v2 v3 v4 v5 v6 s0 : Int} {σ : Mem} (h : f_X0_canHold_b81 k13 v0 v2 v3 v4 v5 v6 s0 σ = some o) : E sc (Fm Sh (some (0, o.1)) Sh o.2) mt_X0_canHold 3 Sh Sh 81 [(2, v0), (9, 0), (0, v2), (0, v3), (0, v4), (0, v5), (0, v6), (9, 0), (9, 0), (9, 0)] [(0, s0)] Sh σ := by
  unfold f_X0_canHold_b81 at h
  refine E_istore d_X0_canHold_81 (ls' := [(2, v0), (9, 0), (0, v2), (0, v3), (0, v4), (0, v5), (0, v6), (0, s0), (9, 0), (9, 0)]) ⟨by decide, rfl⟩ ?_
  refine E_iload_n d_X0_canHold_83 rfl ?_
  refine E_iload d_X0_canHold_84 rfl ?_
  refine bd h (fun r18 q19 h => ?_)
  refine E_cS (as := [(0, s0)]) (st := [(0, v2)]) d_X0_canHold_86 mk_JI_bitCount nl_X0_26 (by omega) ⟨rfl, rfl, Nat.le_of_ble_eq_true rfl⟩ (L_JI_bitCount q19) ?_
  refine E_imin d_X0_canHold_89 nl_X0_58 (by omega) (Nat.le_of_ble_eq_true rfl) ?_
  refine E_istore d_X0_canHold_92 (ls' := [(2, v0), (9, 0), (0, v2), (0, v3), (0, v4), (0, v5), (0, v6), (0, s0), (0, imin v2 r18), (9, 0)]) ⟨by decide, rfl⟩ ?_
  refine E_aload_n d_X0_canHold_94 rfl (by decide) ?_
  refine E_get d_X0_canHold_95 okX0 fl_X0_15 ⟨by decide, rfl⟩ h (fun x20 h => ?_)
  refine E_iload d_X0_canHold_98 rfl ?_
  refine E_baload d_X0_canHold_100 (by decide : 23 = 22 ∨ 23 = 23) h (fun x21 h => ?_)
  refine E_if_eq (tgt := 117) d_X0_canHold_101 (by decide) h (fun _ h => ?_) (fun _ h => ?_)
  · refine E_aload_n d_X0_canHold_117 rfl (by decide) ?_
    refine E_get d_X0_canHold_118 okX0 fl_X0_19 ⟨by decide, rfl⟩ h (fun x22 h => ?_)
    refine E_iload d_X0_canHold_121 rfl ?_
    refine E_iaload d_X0_canHold_123 h (fun x23 h => ?_)
    refine E_iload d_X0_canHold_124 rfl ?_
    refine E_isub d_X0_canHold_126 ?_
    exact E_weak (ls' := [(2, v0), (9, 0), (0, v2), (0, v3), (0, v4), (0, v5), (0, v6), (9, 0), (9, 0), (9, 0)]) ⟨Or.inr rfl, Or.inl rfl, Or.inr rfl, Or.inr rfl, Or.inr rfl, Or.inr rfl, Or.inr rfl, Or.inl rfl, Or.inl rfl, Or.inl rfl, trivial⟩ (L_X0_canHold_b127 hk13 h)
  · refine E_aload_n d_X0_canHold_104 rfl (by decide) ?_
    refine E_get d_X0_canHold_105 okX0 fl_X0_19 ⟨by decide, rfl⟩ h (fun x24 h => ?_)
    refine E_iload d_X0_canHold_108 rfl ?_
    refine E_iaload d_X0_canHold_110 h (fun x25 h => ?_)
    refine E_iload d_X0_canHold_111 rfl ?_
    refine E_iadd d_X0_canHold_113 ?_
    refine E_goto (tgt := 127) d_X0_canHold_114 (by decide) ?_
    exact E_weak (ls' := [(2, v0), (9, 0), (0, v2), (0, v3), (0, v4), (0, v5), (0, v6), (9, 0), (9, 0), (9, 0)]) ⟨Or.inr rfl, Or.inl rfl, Or.inr rfl, Or.inr rfl, Or.inr rfl, Or.inr rfl, Or.inr rfl, Or.inl rfl, Or.inl rfl, Or.inl rfl, trivial⟩ (L_X0_canHold_b127 hk13 h)
noncomputable def f_X0_canHold_b13 (k13 : (Int → Int → Int → Int → Int → Int → Mem → Option (Int × Mem))) (v0 v2 v3 v4 v5 v6 : Int) (σ : Mem) : Option (Int × Mem) :=
  (gf Sh σ 0 v0 3).bind fun x2 =>
  if x2 ≤ v6 then
    (f_X0_canPart v0 v5 v2 σ).bind fun r3 =>
    (bz r3).bind fun _ =>
    some (r3, σ)
  else
    (gf Sh σ 0 v0 2).bind fun x6 =>
    (gf Sh σ 0 v0 0).bind fun x7 =>
    (al Sh σ 20 x7 v6).bind fun x8 =>
    (f_JI_bitCount (ior (iand x8 (ixor v3 (-1))) v4) σ).bind fun r9 =>
    (st_ Sh σ 20 x6 v6 r9).bind fun σ11 =>
    (gf Sh σ11 0 v0 1).bind fun x12 =>
    (al Sh σ11 23 x12 v6).bind fun x13 =>
    if x13 = 0 then
      (gf Sh σ11 0 v0 0).bind fun x14 =>
      (al Sh σ11 20 x14 v6).bind fun x15 =>
      f_X0_canHold_b81 k13 v0 v2 v3 v4 v5 v6 (iand v5 x15) σ11
    else
      (gf Sh σ11 0 v0 0).bind fun x16 =>
      (al Sh σ11 20 x16 v6).bind fun x17 =>
      f_X0_canHold_b81 k13 v0 v2 v3 v4 v5 v6 (iand v5 (ixor x17 (-1))) σ11
theorem L_X0_canHold_b13 {sc : Nat × (Nat → Int32)} {o : Int × Mem} {k13 : (Int → Int → Int → Int → Int → Int → Mem → Option (Int × Mem))} (hk13 : ∀ {v0 v2 v3 v4 v5 v6 : Int} {σ : Mem}, k13 v0 v2 v3 v4 v5 v6 σ = some o → E sc (Fm Sh (some (0, o.1)) Sh o.2) mt_X0_canHold 3 Sh Sh 13 [(2, v0), (9, 0), (0, v2), (0, v3), (0, v4), (0, v5), (0, v6), (9, 0), (9, 0), (9, 0)] [] Sh σ) {v0 v2 v3 v4 v5 v6 : Int} {σ : Mem} (h : f_X0_canHold_b13 k13 v0 v2 v3 v4 v5 v6 σ = some o) : E sc (Fm Sh (some (0, o.1)) Sh o.2) mt_X0_canHold 3 Sh Sh 13 [(2, v0), (9, 0), (0, v2), (0, v3), (0, v4), (0, v5), (0, v6), (9, 0), (9, 0), (9, 0)] [] Sh σ := by
  unfold f_X0_canHold_b13 at h
  refine E_iload d_X0_canHold_13 rfl ?_
  refine E_aload_n d_X0_canHold_15 rfl (by decide) ?_
  refine E_get d_X0_canHold_16 okX0 fl_X0_35 ⟨by decide, rfl⟩ h (fun x2 h => ?_)
  refine E_icmp_ge (tgt := 161) d_X0_canHold_19 (by decide) h (fun _ h => ?_) (fun _ h => ?_)
  · refine E_aload_n d_X0_canHold_161 rfl (by decide) ?_
    refine E_iload d_X0_canHold_162 rfl ?_
    refine E_iload_n d_X0_canHold_164 rfl ?_
    refine bd h (fun r3 q4 h => ?_)
    refine E_cV (as := [(0, v5), (0, v2)]) (st := []) (a := v0) d_X0_canHold_165 mk_X0_canPart nl_X0_64 (by omega) ⟨rfl, rfl, Nat.le_of_ble_eq_true rfl⟩ okX0 rfl (L_X0_canPart q4) ?_
    refine bd_bz h (fun q5 h => ?_)
    cases h
    exact E_zret d_X0_canHold_168 rfl q5
  · refine E_aload_n d_X0_canHold_22 rfl (by decide) ?_
    refine E_get d_X0_canHold_23 okX0 fl_X0_19 ⟨by decide, rfl⟩ h (fun x6 h => ?_)
    refine E_iload d_X0_canHold_26 rfl ?_
    refine E_aload_n d_X0_canHold_28 rfl (by decide) ?_
    refine E_get d_X0_canHold_29 okX0 fl_X0_9 ⟨by decide, rfl⟩ h (fun x7 h => ?_)
    refine E_iload d_X0_canHold_32 rfl ?_
    refine E_iaload d_X0_canHold_34 h (fun x8 h => ?_)
    refine E_iload_n d_X0_canHold_35 rfl ?_
    refine E_iconst d_X0_canHold_36 (c32 rfl) ?_
    refine E_ixor d_X0_canHold_37 ?_
    refine E_iand d_X0_canHold_38 ?_
    refine E_iload d_X0_canHold_39 rfl ?_
    refine E_ior d_X0_canHold_41 ?_
    refine bd h (fun r9 q10 h => ?_)
    refine E_cS (as := [(0, ior (iand x8 (ixor v3 (-1))) v4)]) (st := [(0, v6), (2, x6)]) d_X0_canHold_42 mk_JI_bitCount nl_X0_26 (by omega) ⟨rfl, rfl, Nat.le_of_ble_eq_true rfl⟩ (L_JI_bitCount q10) ?_
    refine E_iastore d_X0_canHold_45 h (fun σ11 h => ?_)
    refine E_aload_n d_X0_canHold_46 rfl (by decide) ?_
    refine E_get d_X0_canHold_47 okX0 fl_X0_15 ⟨by decide, rfl⟩ h (fun x12 h => ?_)
    refine E_iload d_X0_canHold_50 rfl ?_
    refine E_baload d_X0_canHold_52 (by decide : 23 = 22 ∨ 23 = 23) h (fun x13 h => ?_)
    refine E_if_eq (tgt := 71) d_X0_canHold_53 (by decide) h (fun _ h => ?_) (fun _ h => ?_)
    · refine E_iload d_X0_canHold_71 rfl ?_
      refine E_aload_n d_X0_canHold_73 rfl (by decide) ?_
      refine E_get d_X0_canHold_74 okX0 fl_X0_9 ⟨by decide, rfl⟩ h (fun x14 h => ?_)
      refine E_iload d_X0_canHold_77 rfl ?_
      refine E_iaload d_X0_canHold_79 h (fun x15 h => ?_)
      refine E_iand d_X0_canHold_80 ?_
      exact (L_X0_canHold_b81 hk13 h)
    · refine E_iload d_X0_canHold_56 rfl ?_
      refine E_aload_n d_X0_canHold_58 rfl (by decide) ?_
      refine E_get d_X0_canHold_59 okX0 fl_X0_9 ⟨by decide, rfl⟩ h (fun x16 h => ?_)
      refine E_iload d_X0_canHold_62 rfl ?_
      refine E_iaload d_X0_canHold_64 h (fun x17 h => ?_)
      refine E_iconst d_X0_canHold_65 (c32 rfl) ?_
      refine E_ixor d_X0_canHold_66 ?_
      refine E_iand d_X0_canHold_67 ?_
      refine E_goto (tgt := 81) d_X0_canHold_68 (by decide) ?_
      exact (L_X0_canHold_b81 hk13 h)
noncomputable def f_X0_canHold_h13 (n : Nat) : Int → Int → Int → Int → Int → Int → Mem → Option (Int × Mem) := Nat.rec (motive := fun _ => Int → Int → Int → Int → Int → Int → Mem → Option (Int × Mem)) (fun _ _ _ _ _ _ _ => none) (fun _ ih => f_X0_canHold_b13 (ih)) n
theorem L_X0_canHold_h13 {sc : Nat × (Nat → Int32)} {o : Int × Mem} : ∀ (n : Nat) {v0 v2 v3 v4 v5 v6 : Int} {σ : Mem}, f_X0_canHold_h13 n v0 v2 v3 v4 v5 v6 σ = some o → E sc (Fm Sh (some (0, o.1)) Sh o.2) mt_X0_canHold 3 Sh Sh 13 [(2, v0), (9, 0), (0, v2), (0, v3), (0, v4), (0, v5), (0, v6), (9, 0), (9, 0), (9, 0)] [] Sh σ := by
  intro n
  induction n with
  | zero => intro v0 v2 v3 v4 v5 v6 σ h; cases h
  | succ n ih => intro v0 v2 v3 v4 v5 v6 σ h; exact L_X0_canHold_b13 (@ih) h
noncomputable def f_X0_canHold_b0 (v0 v1 v2 v3 v4 : Int) (σ : Mem) : Option (Int × Mem) :=
  (gf Sh σ 0 v0 5).bind fun x1 =>
  f_X0_canHold_h13 FU v0 v2 v3 v4 (iand x1 (ishl (-1) v1)) 0 σ
theorem L_X0_canHold_b0 {sc : Nat × (Nat → Int32)} {o : Int × Mem} {v0 v1 v2 v3 v4 : Int} {σ : Mem} (h : f_X0_canHold_b0 v0 v1 v2 v3 v4 σ = some o) : E sc (Fm Sh (some (0, o.1)) Sh o.2) mt_X0_canHold 3 Sh Sh 0 [(2, v0), (0, v1), (0, v2), (0, v3), (0, v4), (9, 0), (9, 0), (9, 0), (9, 0), (9, 0)] [] Sh σ := by
  unfold f_X0_canHold_b0 at h
  refine E_aload_n d_X0_canHold_0 rfl (by decide) ?_
  refine E_get d_X0_canHold_1 okX0 fl_X0_22 ⟨by decide, rfl⟩ h (fun x1 h => ?_)
  refine E_iconst d_X0_canHold_4 (c32 rfl) ?_
  refine E_iload_n d_X0_canHold_5 rfl ?_
  refine E_ishl d_X0_canHold_6 ?_
  refine E_iand d_X0_canHold_7 ?_
  refine E_istore d_X0_canHold_8 (ls' := [(2, v0), (0, v1), (0, v2), (0, v3), (0, v4), (0, iand x1 (ishl (-1) v1)), (9, 0), (9, 0), (9, 0), (9, 0)]) ⟨by decide, rfl⟩ ?_
  refine E_iconst d_X0_canHold_10 (c32 rfl) ?_
  refine E_istore d_X0_canHold_11 (ls' := [(2, v0), (0, v1), (0, v2), (0, v3), (0, v4), (0, iand x1 (ishl (-1) v1)), (0, 0), (9, 0), (9, 0), (9, 0)]) ⟨by decide, rfl⟩ ?_
  exact E_weak (ls' := [(2, v0), (9, 0), (0, v2), (0, v3), (0, v4), (0, iand x1 (ishl (-1) v1)), (0, 0), (9, 0), (9, 0), (9, 0)]) ⟨Or.inr rfl, Or.inl rfl, Or.inr rfl, Or.inr rfl, Or.inr rfl, Or.inr rfl, Or.inr rfl, Or.inl rfl, Or.inl rfl, Or.inl rfl, trivial⟩ (L_X0_canHold_h13 FU h)
noncomputable def f_X0_canHold (v0 v1 v2 v3 v4 : Int) (σ : Mem) : Option (Int × Mem) := if isO Sh 0 v0 = true then f_X0_canHold_b0 v0 v1 v2 v3 v4 σ else none
theorem L_X0_canHold {o : Int × Mem} {v0 v1 v2 v3 v4 : Int} {σ : Mem} (h : f_X0_canHold v0 v1 v2 v3 v4 σ = some o) : (isO Sh 0 v0 = true ∧ Cn mt_X0_canHold 3 [(2, v0), (0, v1), (0, v2), (0, v3), (0, v4)] Sh σ (some (0, o.1)) Sh o.2) := ⟨(ite_ok h).1, Cn_of mk_X0_canHold.1.2.2.1 (Nat.le_of_ble_eq_true rfl) (fun sc => L_X0_canHold_b0 (ite_ok h).2)⟩
theorem d_X0_cutFrom_0 : decode mt_X0_cutFrom.2.1 0 = .ok (.iload_n 1, 1) := by decide +kernel
theorem d_X0_cutFrom_1 : decode mt_X0_cutFrom.2.1 1 = .ok (.bipush 10, 2) := by decide +kernel
theorem d_X0_cutFrom_3 : decode mt_X0_cutFrom.2.1 3 = .ok (.if_icmp .gt 15, 3) := by decide +kernel
theorem d_X0_cutFrom_6 : decode mt_X0_cutFrom.2.1 6 = .ok (.aload_n 0, 1) := by decide +kernel
theorem d_X0_cutFrom_7 : decode mt_X0_cutFrom.2.1 7 = .ok (.iload_n 1, 1) := by decide +kernel
theorem d_X0_cutFrom_8 : decode mt_X0_cutFrom.2.1 8 = .ok (.iload_n 2, 1) := by decide +kernel
theorem d_X0_cutFrom_9 : decode mt_X0_cutFrom.2.1 9 = .ok (.iload_n 3, 1) := by decide +kernel
theorem d_X0_cutFrom_10 : decode mt_X0_cutFrom.2.1 10 = .ok (.iload 4, 2) := by decide +kernel
theorem d_X0_cutFrom_12 : decode mt_X0_cutFrom.2.1 12 = .ok (.invokevirtual 49, 3) := by decide +kernel
theorem d_X0_cutFrom_15 : decode mt_X0_cutFrom.2.1 15 = .ok (.ifCond .ne 5, 3) := by decide +kernel
theorem d_X0_cutFrom_18 : decode mt_X0_cutFrom.2.1 18 = .ok (.iconst 0, 1) := by decide +kernel
theorem d_X0_cutFrom_19 : decode mt_X0_cutFrom.2.1 19 = .ok (.ireturn, 1) := by decide +kernel
theorem d_X0_cutFrom_20 : decode mt_X0_cutFrom.2.1 20 = .ok (.iload_n 2, 1) := by decide +kernel
theorem d_X0_cutFrom_21 : decode mt_X0_cutFrom.2.1 21 = .ok (.ifCond .eq 9, 3) := by decide +kernel
theorem d_X0_cutFrom_24 : decode mt_X0_cutFrom.2.1 24 = .ok (.iload_n 1, 1) := by decide +kernel
theorem d_X0_cutFrom_25 : decode mt_X0_cutFrom.2.1 25 = .ok (.bipush 10, 2) := by decide +kernel
theorem d_X0_cutFrom_27 : decode mt_X0_cutFrom.2.1 27 = .ok (.if_icmp .ne 16, 3) := by decide +kernel
theorem d_X0_cutFrom_30 : decode mt_X0_cutFrom.2.1 30 = .ok (.aload_n 0, 1) := by decide +kernel
theorem d_X0_cutFrom_31 : decode mt_X0_cutFrom.2.1 31 = .ok (.iload_n 3, 1) := by decide +kernel
theorem d_X0_cutFrom_32 : decode mt_X0_cutFrom.2.1 32 = .ok (.putfield 52, 3) := by decide +kernel
theorem d_X0_cutFrom_35 : decode mt_X0_cutFrom.2.1 35 = .ok (.aload_n 0, 1) := by decide +kernel
theorem d_X0_cutFrom_36 : decode mt_X0_cutFrom.2.1 36 = .ok (.iload 4, 2) := by decide +kernel
theorem d_X0_cutFrom_38 : decode mt_X0_cutFrom.2.1 38 = .ok (.putfield 55, 3) := by decide +kernel
theorem d_X0_cutFrom_41 : decode mt_X0_cutFrom.2.1 41 = .ok (.iconst 1, 1) := by decide +kernel
theorem d_X0_cutFrom_42 : decode mt_X0_cutFrom.2.1 42 = .ok (.ireturn, 1) := by decide +kernel
theorem d_X0_cutFrom_43 : decode mt_X0_cutFrom.2.1 43 = .ok (.aload_n 0, 1) := by decide +kernel
theorem d_X0_cutFrom_44 : decode mt_X0_cutFrom.2.1 44 = .ok (.getfield 22, 3) := by decide +kernel
theorem d_X0_cutFrom_47 : decode mt_X0_cutFrom.2.1 47 = .ok (.iconst 1, 1) := by decide +kernel
theorem d_X0_cutFrom_48 : decode mt_X0_cutFrom.2.1 48 = .ok (.iload_n 1, 1) := by decide +kernel
theorem d_X0_cutFrom_49 : decode mt_X0_cutFrom.2.1 49 = .ok (.ishl, 1) := by decide +kernel
theorem d_X0_cutFrom_50 : decode mt_X0_cutFrom.2.1 50 = .ok (.iand, 1) := by decide +kernel
theorem d_X0_cutFrom_51 : decode mt_X0_cutFrom.2.1 51 = .ok (.istore 5, 2) := by decide +kernel
theorem d_X0_cutFrom_53 : decode mt_X0_cutFrom.2.1 53 = .ok (.aload_n 0, 1) := by decide +kernel
theorem d_X0_cutFrom_54 : decode mt_X0_cutFrom.2.1 54 = .ok (.iload_n 1, 1) := by decide +kernel
theorem d_X0_cutFrom_55 : decode mt_X0_cutFrom.2.1 55 = .ok (.iconst 1, 1) := by decide +kernel
theorem d_X0_cutFrom_56 : decode mt_X0_cutFrom.2.1 56 = .ok (.iadd, 1) := by decide +kernel
theorem d_X0_cutFrom_57 : decode mt_X0_cutFrom.2.1 57 = .ok (.iload_n 2, 1) := by decide +kernel
theorem d_X0_cutFrom_58 : decode mt_X0_cutFrom.2.1 58 = .ok (.iload_n 3, 1) := by decide +kernel
theorem d_X0_cutFrom_59 : decode mt_X0_cutFrom.2.1 59 = .ok (.iload 4, 2) := by decide +kernel
theorem d_X0_cutFrom_61 : decode mt_X0_cutFrom.2.1 61 = .ok (.invokevirtual 42, 3) := by decide +kernel
theorem d_X0_cutFrom_64 : decode mt_X0_cutFrom.2.1 64 = .ok (.ifCond .eq 5, 3) := by decide +kernel
theorem d_X0_cutFrom_67 : decode mt_X0_cutFrom.2.1 67 = .ok (.iconst 1, 1) := by decide +kernel
theorem d_X0_cutFrom_68 : decode mt_X0_cutFrom.2.1 68 = .ok (.ireturn, 1) := by decide +kernel
theorem d_X0_cutFrom_69 : decode mt_X0_cutFrom.2.1 69 = .ok (.iload 5, 2) := by decide +kernel
theorem d_X0_cutFrom_71 : decode mt_X0_cutFrom.2.1 71 = .ok (.ifCond .eq 45, 3) := by decide +kernel
theorem d_X0_cutFrom_74 : decode mt_X0_cutFrom.2.1 74 = .ok (.aload_n 0, 1) := by decide +kernel
theorem d_X0_cutFrom_75 : decode mt_X0_cutFrom.2.1 75 = .ok (.iload_n 1, 1) := by decide +kernel
theorem d_X0_cutFrom_76 : decode mt_X0_cutFrom.2.1 76 = .ok (.iconst 1, 1) := by decide +kernel
theorem d_X0_cutFrom_77 : decode mt_X0_cutFrom.2.1 77 = .ok (.iadd, 1) := by decide +kernel
theorem d_X0_cutFrom_78 : decode mt_X0_cutFrom.2.1 78 = .ok (.iload_n 2, 1) := by decide +kernel
theorem d_X0_cutFrom_79 : decode mt_X0_cutFrom.2.1 79 = .ok (.iconst 1, 1) := by decide +kernel
theorem d_X0_cutFrom_80 : decode mt_X0_cutFrom.2.1 80 = .ok (.isub, 1) := by decide +kernel
theorem d_X0_cutFrom_81 : decode mt_X0_cutFrom.2.1 81 = .ok (.iload_n 3, 1) := by decide +kernel
theorem d_X0_cutFrom_82 : decode mt_X0_cutFrom.2.1 82 = .ok (.iload 5, 2) := by decide +kernel
theorem d_X0_cutFrom_84 : decode mt_X0_cutFrom.2.1 84 = .ok (.ior, 1) := by decide +kernel
theorem d_X0_cutFrom_85 : decode mt_X0_cutFrom.2.1 85 = .ok (.iload 4, 2) := by decide +kernel
theorem d_X0_cutFrom_87 : decode mt_X0_cutFrom.2.1 87 = .ok (.invokevirtual 42, 3) := by decide +kernel
theorem d_X0_cutFrom_90 : decode mt_X0_cutFrom.2.1 90 = .ok (.ifCond .ne 22, 3) := by decide +kernel
theorem d_X0_cutFrom_93 : decode mt_X0_cutFrom.2.1 93 = .ok (.aload_n 0, 1) := by decide +kernel
theorem d_X0_cutFrom_94 : decode mt_X0_cutFrom.2.1 94 = .ok (.iload_n 1, 1) := by decide +kernel
theorem d_X0_cutFrom_95 : decode mt_X0_cutFrom.2.1 95 = .ok (.iconst 1, 1) := by decide +kernel
theorem d_X0_cutFrom_96 : decode mt_X0_cutFrom.2.1 96 = .ok (.iadd, 1) := by decide +kernel
theorem d_X0_cutFrom_97 : decode mt_X0_cutFrom.2.1 97 = .ok (.iload_n 2, 1) := by decide +kernel
theorem d_X0_cutFrom_98 : decode mt_X0_cutFrom.2.1 98 = .ok (.iconst 1, 1) := by decide +kernel
theorem d_X0_cutFrom_99 : decode mt_X0_cutFrom.2.1 99 = .ok (.isub, 1) := by decide +kernel
theorem d_X0_cutFrom_100 : decode mt_X0_cutFrom.2.1 100 = .ok (.iload_n 3, 1) := by decide +kernel
theorem d_X0_cutFrom_101 : decode mt_X0_cutFrom.2.1 101 = .ok (.iload 4, 2) := by decide +kernel
theorem d_X0_cutFrom_103 : decode mt_X0_cutFrom.2.1 103 = .ok (.iload 5, 2) := by decide +kernel
theorem d_X0_cutFrom_105 : decode mt_X0_cutFrom.2.1 105 = .ok (.ior, 1) := by decide +kernel
theorem d_X0_cutFrom_106 : decode mt_X0_cutFrom.2.1 106 = .ok (.invokevirtual 42, 3) := by decide +kernel
theorem d_X0_cutFrom_109 : decode mt_X0_cutFrom.2.1 109 = .ok (.ifCond .eq 7, 3) := by decide +kernel
theorem d_X0_cutFrom_112 : decode mt_X0_cutFrom.2.1 112 = .ok (.iconst 1, 1) := by decide +kernel
theorem d_X0_cutFrom_113 : decode mt_X0_cutFrom.2.1 113 = .ok (.goto 4, 3) := by decide +kernel
theorem d_X0_cutFrom_116 : decode mt_X0_cutFrom.2.1 116 = .ok (.iconst 0, 1) := by decide +kernel
theorem d_X0_cutFrom_117 : decode mt_X0_cutFrom.2.1 117 = .ok (.ireturn, 1) := by decide +kernel
noncomputable def f_X0_cutFrom_b30 (r_X0_cutFrom : (Int → Int → Int → Int → Int → Mem → Option (Int × Mem))) (v0 v3 v4 : Int) (σ : Mem) : Option (Int × Mem) :=
  (pf Sh σ 0 v0 7 v3).bind fun σ10 =>
  (pf Sh σ10 0 v0 8 v4).bind fun σ11 =>
  some (1, σ11)
theorem L_X0_cutFrom_b30 {sc : Nat × (Nat → Int32)} {D : Nat} {o : Int × Mem} {r_X0_cutFrom : (Int → Int → Int → Int → Int → Mem → Option (Int × Mem))} (hr_X0_cutFrom : ∀ {y0 y1 y2 y3 y4 : Int} {σ : Mem} {o : Int × Mem}, r_X0_cutFrom y0 y1 y2 y3 y4 σ = some o → (isO Sh 0 y0 = true ∧ Cn mt_X0_cutFrom D [(2, y0), (0, y1), (0, y2), (0, y3), (0, y4)] Sh σ (some (0, o.1)) Sh o.2)) {v0 v3 v4 : Int} {σ : Mem} (h : f_X0_cutFrom_b30 r_X0_cutFrom v0 v3 v4 σ = some o) : E sc (Fm Sh (some (0, o.1)) Sh o.2) mt_X0_cutFrom (D + 4) Sh Sh 30 [(2, v0), (9, 0), (9, 0), (0, v3), (0, v4), (9, 0)] [] Sh σ := by
  unfold f_X0_cutFrom_b30 at h
  refine E_aload_n d_X0_cutFrom_30 rfl (by decide) ?_
  refine E_iload_n d_X0_cutFrom_31 rfl ?_
  refine E_put d_X0_cutFrom_32 okX0 fl_X0_52 ⟨by decide, rfl⟩ (Or.inl ⟨rfl, rfl⟩) (Or.inl rfl) h (fun σ10 h => ?_)
  refine E_aload_n d_X0_cutFrom_35 rfl (by decide) ?_
  refine E_iload d_X0_cutFrom_36 rfl ?_
  refine E_put d_X0_cutFrom_38 okX0 fl_X0_55 ⟨by decide, rfl⟩ (Or.inl ⟨rfl, rfl⟩) (Or.inl rfl) h (fun σ11 h => ?_)
  refine E_iconst d_X0_cutFrom_41 (c32 rfl) ?_
  cases h
  exact E_zret d_X0_cutFrom_42 rfl (Or.inr rfl)
noncomputable def f_X0_cutFrom_b112 (r_X0_cutFrom : (Int → Int → Int → Int → Int → Mem → Option (Int × Mem))) (σ : Mem) : Option (Int × Mem) :=
  some (1, σ)
theorem L_X0_cutFrom_b112 {sc : Nat × (Nat → Int32)} {D : Nat} {o : Int × Mem} {r_X0_cutFrom : (Int → Int → Int → Int → Int → Mem → Option (Int × Mem))} (hr_X0_cutFrom : ∀ {y0 y1 y2 y3 y4 : Int} {σ : Mem} {o : Int × Mem}, r_X0_cutFrom y0 y1 y2 y3 y4 σ = some o → (isO Sh 0 y0 = true ∧ Cn mt_X0_cutFrom D [(2, y0), (0, y1), (0, y2), (0, y3), (0, y4)] Sh σ (some (0, o.1)) Sh o.2)) {σ : Mem} (h : f_X0_cutFrom_b112 r_X0_cutFrom  σ = some o) : E sc (Fm Sh (some (0, o.1)) Sh o.2) mt_X0_cutFrom (D + 4) Sh Sh 112 [(9, 0), (9, 0), (9, 0), (9, 0), (9, 0), (9, 0)] [] Sh σ := by
  unfold f_X0_cutFrom_b112 at h
  refine E_iconst d_X0_cutFrom_112 (c32 rfl) ?_
  refine E_goto (tgt := 117) d_X0_cutFrom_113 (by decide) ?_
  cases h
  exact E_zret d_X0_cutFrom_117 rfl (Or.inr rfl)
noncomputable def f_X0_cutFrom_b0 (r_X0_cutFrom : (Int → Int → Int → Int → Int → Mem → Option (Int × Mem))) (v0 v1 v2 v3 v4 : Int) (σ : Mem) : Option (Int × Mem) :=
  if 10 < v1 then
    some (0, σ)
  else
    (f_X0_canHold v0 v1 v2 v3 v4 σ).bind fun r1 =>
    if r1.1 = 0 then
      some (0, r1.2)
    else
      if v2 = 0 then
        f_X0_cutFrom_b30 r_X0_cutFrom v0 v3 v4 r1.2
      else
        if v1 = 10 then
          f_X0_cutFrom_b30 r_X0_cutFrom v0 v3 v4 r1.2
        else
          (gf Sh r1.2 0 v0 5).bind fun x3 =>
          (r_X0_cutFrom v0 (w32 (v1 + 1)) v2 v3 v4 r1.2).bind fun r4 =>
          if r4.1 = 0 then
            if iand x3 (ishl 1 v1) = 0 then
              some (0, r4.2)
            else
              (r_X0_cutFrom v0 (w32 (v1 + 1)) (w32 (v2 - 1)) (ior v3 (iand x3 (ishl 1 v1))) v4 r4.2).bind fun r6 =>
              if r6.1 = 0 then
                (r_X0_cutFrom v0 (w32 (v1 + 1)) (w32 (v2 - 1)) v3 (ior v4 (iand x3 (ishl 1 v1))) r6.2).bind fun r8 =>
                if r8.1 = 0 then
                  some (0, r8.2)
                else
                  f_X0_cutFrom_b112 r_X0_cutFrom  r8.2
              else
                f_X0_cutFrom_b112 r_X0_cutFrom  r6.2
          else
            some (1, r4.2)
theorem L_X0_cutFrom_b0 {sc : Nat × (Nat → Int32)} {D : Nat} {o : Int × Mem} {r_X0_cutFrom : (Int → Int → Int → Int → Int → Mem → Option (Int × Mem))} (hr_X0_cutFrom : ∀ {y0 y1 y2 y3 y4 : Int} {σ : Mem} {o : Int × Mem}, r_X0_cutFrom y0 y1 y2 y3 y4 σ = some o → (isO Sh 0 y0 = true ∧ Cn mt_X0_cutFrom D [(2, y0), (0, y1), (0, y2), (0, y3), (0, y4)] Sh σ (some (0, o.1)) Sh o.2)) {v0 v1 v2 v3 v4 : Int} {σ : Mem} (h : f_X0_cutFrom_b0 r_X0_cutFrom v0 v1 v2 v3 v4 σ = some o) : E sc (Fm Sh (some (0, o.1)) Sh o.2) mt_X0_cutFrom (D + 4) Sh Sh 0 [(2, v0), (0, v1), (0, v2), (0, v3), (0, v4), (9, 0)] [] Sh σ := by
  unfold f_X0_cutFrom_b0 at h
  refine E_iload_n d_X0_cutFrom_0 rfl ?_
  refine E_bipush d_X0_cutFrom_1 (c8 rfl) ?_
  refine E_icmp_gt (tgt := 18) d_X0_cutFrom_3 (by decide) h (fun _ h => ?_) (fun _ h => ?_)
  · refine E_iconst d_X0_cutFrom_18 (c32 rfl) ?_
    cases h
    exact E_zret d_X0_cutFrom_19 rfl (Or.inl rfl)
  · refine E_aload_n d_X0_cutFrom_6 rfl (by decide) ?_
    refine E_iload_n d_X0_cutFrom_7 rfl ?_
    refine E_iload_n d_X0_cutFrom_8 rfl ?_
    refine E_iload_n d_X0_cutFrom_9 rfl ?_
    refine E_iload d_X0_cutFrom_10 rfl ?_
    refine bd h (fun r1 q2 h => ?_)
    refine E_cV (as := [(0, v1), (0, v2), (0, v3), (0, v4)]) (st := []) (a := v0) d_X0_cutFrom_12 mk_X0_canHold nl_X0_49 (by omega) ⟨rfl, rfl, Nat.le_of_ble_eq_true rfl⟩ okX0 rfl (L_X0_canHold q2) ?_
    refine E_if_ne (tgt := 20) d_X0_cutFrom_15 (by decide) h (fun _ h => ?_) (fun _ h => ?_)
    · refine E_iconst d_X0_cutFrom_18 (c32 rfl) ?_
      cases h
      exact E_zret d_X0_cutFrom_19 rfl (Or.inl rfl)
    · refine E_iload_n d_X0_cutFrom_20 rfl ?_
      refine E_if_eq (tgt := 30) d_X0_cutFrom_21 (by decide) h (fun _ h => ?_) (fun _ h => ?_)
      · exact E_weak (ls' := [(2, v0), (9, 0), (9, 0), (0, v3), (0, v4), (9, 0)]) ⟨Or.inr rfl, Or.inl rfl, Or.inl rfl, Or.inr rfl, Or.inr rfl, Or.inl rfl, trivial⟩ (L_X0_cutFrom_b30 hr_X0_cutFrom h)
      · refine E_iload_n d_X0_cutFrom_24 rfl ?_
        refine E_bipush d_X0_cutFrom_25 (c8 rfl) ?_
        refine E_icmp_ne (tgt := 43) d_X0_cutFrom_27 (by decide) h (fun _ h => ?_) (fun _ h => ?_)
        · exact E_weak (ls' := [(2, v0), (9, 0), (9, 0), (0, v3), (0, v4), (9, 0)]) ⟨Or.inr rfl, Or.inl rfl, Or.inl rfl, Or.inr rfl, Or.inr rfl, Or.inl rfl, trivial⟩ (L_X0_cutFrom_b30 hr_X0_cutFrom h)
        · refine E_aload_n d_X0_cutFrom_43 rfl (by decide) ?_
          refine E_get d_X0_cutFrom_44 okX0 fl_X0_22 ⟨by decide, rfl⟩ h (fun x3 h => ?_)
          refine E_iconst d_X0_cutFrom_47 (c32 rfl) ?_
          refine E_iload_n d_X0_cutFrom_48 rfl ?_
          refine E_ishl d_X0_cutFrom_49 ?_
          refine E_iand d_X0_cutFrom_50 ?_
          refine E_istore d_X0_cutFrom_51 (ls' := [(2, v0), (0, v1), (0, v2), (0, v3), (0, v4), (0, iand x3 (ishl 1 v1))]) ⟨by decide, rfl⟩ ?_
          refine E_aload_n d_X0_cutFrom_53 rfl (by decide) ?_
          refine E_iload_n d_X0_cutFrom_54 rfl ?_
          refine E_iconst d_X0_cutFrom_55 (c32 rfl) ?_
          refine E_iadd d_X0_cutFrom_56 ?_
          refine E_iload_n d_X0_cutFrom_57 rfl ?_
          refine E_iload_n d_X0_cutFrom_58 rfl ?_
          refine E_iload d_X0_cutFrom_59 rfl ?_
          refine bd h (fun r4 q5 h => ?_)
          refine E_cV (as := [(0, w32 (v1 + 1)), (0, v2), (0, v3), (0, v4)]) (st := []) (a := v0) d_X0_cutFrom_61 mk_X0_cutFrom nl_X0_42 (by omega) ⟨rfl, rfl, Nat.le_of_ble_eq_true rfl⟩ okX0 rfl (hr_X0_cutFrom q5) ?_
          refine E_if_eq (tgt := 69) d_X0_cutFrom_64 (by decide) h (fun _ h => ?_) (fun _ h => ?_)
          · refine E_iload d_X0_cutFrom_69 rfl ?_
            refine E_if_eq (tgt := 116) d_X0_cutFrom_71 (by decide) h (fun _ h => ?_) (fun _ h => ?_)
            · refine E_iconst d_X0_cutFrom_116 (c32 rfl) ?_
              cases h
              exact E_zret d_X0_cutFrom_117 rfl (Or.inl rfl)
            · refine E_aload_n d_X0_cutFrom_74 rfl (by decide) ?_
              refine E_iload_n d_X0_cutFrom_75 rfl ?_
              refine E_iconst d_X0_cutFrom_76 (c32 rfl) ?_
              refine E_iadd d_X0_cutFrom_77 ?_
              refine E_iload_n d_X0_cutFrom_78 rfl ?_
              refine E_iconst d_X0_cutFrom_79 (c32 rfl) ?_
              refine E_isub d_X0_cutFrom_80 ?_
              refine E_iload_n d_X0_cutFrom_81 rfl ?_
              refine E_iload d_X0_cutFrom_82 rfl ?_
              refine E_ior d_X0_cutFrom_84 ?_
              refine E_iload d_X0_cutFrom_85 rfl ?_
              refine bd h (fun r6 q7 h => ?_)
              refine E_cV (as := [(0, w32 (v1 + 1)), (0, w32 (v2 - 1)), (0, ior v3 (iand x3 (ishl 1 v1))), (0, v4)]) (st := []) (a := v0) d_X0_cutFrom_87 mk_X0_cutFrom nl_X0_42 (by omega) ⟨rfl, rfl, Nat.le_of_ble_eq_true rfl⟩ okX0 rfl (hr_X0_cutFrom q7) ?_
              refine E_if_ne (tgt := 112) d_X0_cutFrom_90 (by decide) h (fun _ h => ?_) (fun _ h => ?_)
              · refine E_aload_n d_X0_cutFrom_93 rfl (by decide) ?_
                refine E_iload_n d_X0_cutFrom_94 rfl ?_
                refine E_iconst d_X0_cutFrom_95 (c32 rfl) ?_
                refine E_iadd d_X0_cutFrom_96 ?_
                refine E_iload_n d_X0_cutFrom_97 rfl ?_
                refine E_iconst d_X0_cutFrom_98 (c32 rfl) ?_
                refine E_isub d_X0_cutFrom_99 ?_
                refine E_iload_n d_X0_cutFrom_100 rfl ?_
                refine E_iload d_X0_cutFrom_101 rfl ?_
                refine E_iload d_X0_cutFrom_103 rfl ?_
                refine E_ior d_X0_cutFrom_105 ?_
                refine bd h (fun r8 q9 h => ?_)
                refine E_cV (as := [(0, w32 (v1 + 1)), (0, w32 (v2 - 1)), (0, v3), (0, ior v4 (iand x3 (ishl 1 v1)))]) (st := []) (a := v0) d_X0_cutFrom_106 mk_X0_cutFrom nl_X0_42 (by omega) ⟨rfl, rfl, Nat.le_of_ble_eq_true rfl⟩ okX0 rfl (hr_X0_cutFrom q9) ?_
                refine E_if_eq (tgt := 116) d_X0_cutFrom_109 (by decide) h (fun _ h => ?_) (fun _ h => ?_)
                · refine E_iconst d_X0_cutFrom_116 (c32 rfl) ?_
                  cases h
                  exact E_zret d_X0_cutFrom_117 rfl (Or.inl rfl)
                · exact E_weak (ls' := [(9, 0), (9, 0), (9, 0), (9, 0), (9, 0), (9, 0)]) ⟨Or.inl rfl, Or.inl rfl, Or.inl rfl, Or.inl rfl, Or.inl rfl, Or.inl rfl, trivial⟩ (L_X0_cutFrom_b112 hr_X0_cutFrom h)
              · exact E_weak (ls' := [(9, 0), (9, 0), (9, 0), (9, 0), (9, 0), (9, 0)]) ⟨Or.inl rfl, Or.inl rfl, Or.inl rfl, Or.inl rfl, Or.inl rfl, Or.inl rfl, trivial⟩ (L_X0_cutFrom_b112 hr_X0_cutFrom h)
          · refine E_iconst d_X0_cutFrom_67 (c32 rfl) ?_
            cases h
            exact E_zret d_X0_cutFrom_68 rfl (Or.inr rfl)
noncomputable def f_X0_cutFrom_body (r_X0_cutFrom : (Int → Int → Int → Int → Int → Mem → Option (Int × Mem))) (v0 v1 v2 v3 v4 : Int) (σ : Mem) : Option (Int × Mem) := if isO Sh 0 v0 = true then f_X0_cutFrom_b0 r_X0_cutFrom v0 v1 v2 v3 v4 σ else none
theorem L_X0_cutFrom_body {D : Nat} {o : Int × Mem} {r_X0_cutFrom : (Int → Int → Int → Int → Int → Mem → Option (Int × Mem))} (hr_X0_cutFrom : ∀ {y0 y1 y2 y3 y4 : Int} {σ : Mem} {o : Int × Mem}, r_X0_cutFrom y0 y1 y2 y3 y4 σ = some o → (isO Sh 0 y0 = true ∧ Cn mt_X0_cutFrom D [(2, y0), (0, y1), (0, y2), (0, y3), (0, y4)] Sh σ (some (0, o.1)) Sh o.2)) {v0 v1 v2 v3 v4 : Int} {σ : Mem} (h : f_X0_cutFrom_body r_X0_cutFrom v0 v1 v2 v3 v4 σ = some o) : (isO Sh 0 v0 = true ∧ Cn mt_X0_cutFrom (D + 4) [(2, v0), (0, v1), (0, v2), (0, v3), (0, v4)] Sh σ (some (0, o.1)) Sh o.2) := ⟨(ite_ok h).1, Cn_of mk_X0_cutFrom.1.2.2.1 (Nat.le_of_ble_eq_true rfl) (fun sc => L_X0_cutFrom_b0 hr_X0_cutFrom (ite_ok h).2)⟩
noncomputable def f_X0_cutFrom (n : Nat) : Int → Int → Int → Int → Int → Mem → Option (Int × Mem) := Nat.rec (motive := fun _ => Int → Int → Int → Int → Int → Mem → Option (Int × Mem)) (fun _ _ _ _ _ _ => none) (fun _ ih => f_X0_cutFrom_body ih) n
theorem L_X0_cutFrom : ∀ (n : Nat) {v0 v1 v2 v3 v4 : Int} {σ : Mem} {o : Int × Mem}, f_X0_cutFrom n v0 v1 v2 v3 v4 σ = some o → (isO Sh 0 v0 = true ∧ Cn mt_X0_cutFrom (n * 4) [(2, v0), (0, v1), (0, v2), (0, v3), (0, v4)] Sh σ (some (0, o.1)) Sh o.2) := by
  intro n
  induction n with
  | zero => intro v0 v1 v2 v3 v4 σ o h; cases h
  | succ n ih => intro v0 v1 v2 v3 v4 σ o h; rw [Nat.succ_mul]; exact L_X0_cutFrom_body (@ih) h
theorem d_X0_findWay_0 : decode mt_X0_findWay.2.1 0 = .ok (.aload_n 0, 1) := by decide +kernel
theorem d_X0_findWay_1 : decode mt_X0_findWay.2.1 1 = .ok (.getfield 38, 3) := by decide +kernel
theorem d_X0_findWay_4 : decode mt_X0_findWay.2.1 4 = .ok (.ifCond .eq 7, 3) := by decide +kernel
theorem d_X0_findWay_7 : decode mt_X0_findWay.2.1 7 = .ok (.iconst (-1), 1) := by decide +kernel
theorem d_X0_findWay_8 : decode mt_X0_findWay.2.1 8 = .ok (.goto 10, 3) := by decide +kernel
theorem d_X0_findWay_11 : decode mt_X0_findWay.2.1 11 = .ok (.aload_n 0, 1) := by decide +kernel
theorem d_X0_findWay_12 : decode mt_X0_findWay.2.1 12 = .ok (.getfield 22, 3) := by decide +kernel
theorem d_X0_findWay_15 : decode mt_X0_findWay.2.1 15 = .ok (.invokestatic 26, 3) := by decide +kernel
theorem d_X0_findWay_18 : decode mt_X0_findWay.2.1 18 = .ok (.istore_n 1, 1) := by decide +kernel
theorem d_X0_findWay_19 : decode mt_X0_findWay.2.1 19 = .ok (.iconst 0, 1) := by decide +kernel
theorem d_X0_findWay_20 : decode mt_X0_findWay.2.1 20 = .ok (.istore_n 2, 1) := by decide +kernel
theorem d_X0_findWay_21 : decode mt_X0_findWay.2.1 21 = .ok (.iload_n 2, 1) := by decide +kernel
theorem d_X0_findWay_22 : decode mt_X0_findWay.2.1 22 = .ok (.iload_n 1, 1) := by decide +kernel
theorem d_X0_findWay_23 : decode mt_X0_findWay.2.1 23 = .ok (.if_icmp .gt 27, 3) := by decide +kernel
theorem d_X0_findWay_26 : decode mt_X0_findWay.2.1 26 = .ok (.aload_n 0, 1) := by decide +kernel
theorem d_X0_findWay_27 : decode mt_X0_findWay.2.1 27 = .ok (.iconst 0, 1) := by decide +kernel
theorem d_X0_findWay_28 : decode mt_X0_findWay.2.1 28 = .ok (.iload_n 2, 1) := by decide +kernel
theorem d_X0_findWay_29 : decode mt_X0_findWay.2.1 29 = .ok (.iconst 0, 1) := by decide +kernel
theorem d_X0_findWay_30 : decode mt_X0_findWay.2.1 30 = .ok (.iconst 0, 1) := by decide +kernel
theorem d_X0_findWay_31 : decode mt_X0_findWay.2.1 31 = .ok (.invokevirtual 42, 3) := by decide +kernel
theorem d_X0_findWay_34 : decode mt_X0_findWay.2.1 34 = .ok (.ifCond .eq 10, 3) := by decide +kernel
theorem d_X0_findWay_37 : decode mt_X0_findWay.2.1 37 = .ok (.aload_n 0, 1) := by decide +kernel
theorem d_X0_findWay_38 : decode mt_X0_findWay.2.1 38 = .ok (.iload_n 2, 1) := by decide +kernel
theorem d_X0_findWay_39 : decode mt_X0_findWay.2.1 39 = .ok (.putfield 46, 3) := by decide +kernel
theorem d_X0_findWay_42 : decode mt_X0_findWay.2.1 42 = .ok (.iconst 1, 1) := by decide +kernel
theorem d_X0_findWay_43 : decode mt_X0_findWay.2.1 43 = .ok (.ireturn, 1) := by decide +kernel
theorem d_X0_findWay_44 : decode mt_X0_findWay.2.1 44 = .ok (.iinc 2 1, 3) := by decide +kernel
theorem d_X0_findWay_47 : decode mt_X0_findWay.2.1 47 = .ok (.goto (-26), 3) := by decide +kernel
theorem d_X0_findWay_50 : decode mt_X0_findWay.2.1 50 = .ok (.iconst 0, 1) := by decide +kernel
theorem d_X0_findWay_51 : decode mt_X0_findWay.2.1 51 = .ok (.ireturn, 1) := by decide +kernel
noncomputable def f_X0_findWay_b21 (k21 : (Int → Int → Int → Mem → Option (Int × Mem))) (v0 v1 v2 : Int) (σ : Mem) : Option (Int × Mem) :=
  if v1 < v2 then
    some (0, σ)
  else
    (f_X0_cutFrom FR v0 0 v2 0 0 σ).bind fun r5 =>
    if r5.1 = 0 then
      k21 v0 v1 (w32 (v2 + 1)) r5.2
    else
      (pf Sh r5.2 0 v0 9 v2).bind fun σ7 =>
      some (1, σ7)
theorem L_X0_findWay_b21 {sc : Nat × (Nat → Int32)} {o : Int × Mem} {k21 : (Int → Int → Int → Mem → Option (Int × Mem))} (hk21 : ∀ {v0 v1 v2 : Int} {σ : Mem}, k21 v0 v1 v2 σ = some o → E sc (Fm Sh (some (0, o.1)) Sh o.2) mt_X0_findWay 161 Sh Sh 21 [(2, v0), (0, v1), (0, v2)] [] Sh σ) {v0 v1 v2 : Int} {σ : Mem} (h : f_X0_findWay_b21 k21 v0 v1 v2 σ = some o) : E sc (Fm Sh (some (0, o.1)) Sh o.2) mt_X0_findWay 161 Sh Sh 21 [(2, v0), (0, v1), (0, v2)] [] Sh σ := by
  unfold f_X0_findWay_b21 at h
  refine E_iload_n d_X0_findWay_21 rfl ?_
  refine E_iload_n d_X0_findWay_22 rfl ?_
  refine E_icmp_gt (tgt := 50) d_X0_findWay_23 (by decide) h (fun _ h => ?_) (fun _ h => ?_)
  · refine E_iconst d_X0_findWay_50 (c32 rfl) ?_
    cases h
    exact E_zret d_X0_findWay_51 rfl (Or.inl rfl)
  · refine E_aload_n d_X0_findWay_26 rfl (by decide) ?_
    refine E_iconst d_X0_findWay_27 (c32 rfl) ?_
    refine E_iload_n d_X0_findWay_28 rfl ?_
    refine E_iconst d_X0_findWay_29 (c32 rfl) ?_
    refine E_iconst d_X0_findWay_30 (c32 rfl) ?_
    refine bd h (fun r5 q6 h => ?_)
    refine E_cV (as := [(0, 0), (0, v2), (0, 0), (0, 0)]) (st := []) (a := v0) d_X0_findWay_31 mk_X0_cutFrom nl_X0_42 (by decide) ⟨rfl, rfl, Nat.le_of_ble_eq_true rfl⟩ okX0 rfl (L_X0_cutFrom FR q6) ?_
    refine E_if_eq (tgt := 44) d_X0_findWay_34 (by decide) h (fun _ h => ?_) (fun _ h => ?_)
    · refine E_iinc d_X0_findWay_44 (ls' := [(2, v0), (0, v1), (0, w32 (v2 + 1))]) rfl ⟨by decide, rfl⟩ ?_
      refine E_goto (tgt := 21) d_X0_findWay_47 (by decide) ?_
      exact (hk21 h)
    · refine E_aload_n d_X0_findWay_37 rfl (by decide) ?_
      refine E_iload_n d_X0_findWay_38 rfl ?_
      refine E_put d_X0_findWay_39 okX0 fl_X0_46 ⟨by decide, rfl⟩ (Or.inl ⟨rfl, rfl⟩) (Or.inl rfl) h (fun σ7 h => ?_)
      refine E_iconst d_X0_findWay_42 (c32 rfl) ?_
      cases h
      exact E_zret d_X0_findWay_43 rfl (Or.inr rfl)
noncomputable def f_X0_findWay_h21 (n : Nat) : Int → Int → Int → Mem → Option (Int × Mem) := Nat.rec (motive := fun _ => Int → Int → Int → Mem → Option (Int × Mem)) (fun _ _ _ _ => none) (fun _ ih => f_X0_findWay_b21 (ih)) n
theorem L_X0_findWay_h21 {sc : Nat × (Nat → Int32)} {o : Int × Mem} : ∀ (n : Nat) {v0 v1 v2 : Int} {σ : Mem}, f_X0_findWay_h21 n v0 v1 v2 σ = some o → E sc (Fm Sh (some (0, o.1)) Sh o.2) mt_X0_findWay 161 Sh Sh 21 [(2, v0), (0, v1), (0, v2)] [] Sh σ := by
  intro n
  induction n with
  | zero => intro v0 v1 v2 σ h; cases h
  | succ n ih => intro v0 v1 v2 σ h; exact L_X0_findWay_b21 (@ih) h
noncomputable def f_X0_findWay_b18 (v0 s0 : Int) (σ : Mem) : Option (Int × Mem) :=
  f_X0_findWay_h21 FU v0 s0 0 σ
theorem L_X0_findWay_b18 {sc : Nat × (Nat → Int32)} {o : Int × Mem} {v0 s0 : Int} {σ : Mem} (h : f_X0_findWay_b18 v0 s0 σ = some o) : E sc (Fm Sh (some (0, o.1)) Sh o.2) mt_X0_findWay 161 Sh Sh 18 [(2, v0), (9, 0), (9, 0)] [(0, s0)] Sh σ := by
  unfold f_X0_findWay_b18 at h
  refine E_istore_n d_X0_findWay_18 (ls' := [(2, v0), (0, s0), (9, 0)]) ⟨by decide, rfl⟩ ?_
  refine E_iconst d_X0_findWay_19 (c32 rfl) ?_
  refine E_istore_n d_X0_findWay_20 (ls' := [(2, v0), (0, s0), (0, 0)]) ⟨by decide, rfl⟩ ?_
  exact (L_X0_findWay_h21 FU h)
noncomputable def f_X0_findWay_b0 (v0 : Int) (σ : Mem) : Option (Int × Mem) :=
  (gf Sh σ 0 v0 4).bind fun x1 =>
  if x1 = 0 then
    (gf Sh σ 0 v0 5).bind fun x2 =>
    (f_JI_bitCount x2 σ).bind fun r3 =>
    f_X0_findWay_b18 v0 r3 σ
  else
    f_X0_findWay_b18 v0 (-1) σ
theorem L_X0_findWay_b0 {sc : Nat × (Nat → Int32)} {o : Int × Mem} {v0 : Int} {σ : Mem} (h : f_X0_findWay_b0 v0 σ = some o) : E sc (Fm Sh (some (0, o.1)) Sh o.2) mt_X0_findWay 161 Sh Sh 0 [(2, v0), (9, 0), (9, 0)] [] Sh σ := by
  unfold f_X0_findWay_b0 at h
  refine E_aload_n d_X0_findWay_0 rfl (by decide) ?_
  refine E_get d_X0_findWay_1 okX0 fl_X0_38 ⟨by decide, rfl⟩ h (fun x1 h => ?_)
  refine E_if_eq (tgt := 11) d_X0_findWay_4 (by decide) h (fun _ h => ?_) (fun _ h => ?_)
  · refine E_aload_n d_X0_findWay_11 rfl (by decide) ?_
    refine E_get d_X0_findWay_12 okX0 fl_X0_22 ⟨by decide, rfl⟩ h (fun x2 h => ?_)
    refine bd h (fun r3 q4 h => ?_)
    refine E_cS (as := [(0, x2)]) (st := []) d_X0_findWay_15 mk_JI_bitCount nl_X0_26 (by omega) ⟨rfl, rfl, Nat.le_of_ble_eq_true rfl⟩ (L_JI_bitCount q4) ?_
    exact (L_X0_findWay_b18 h)
  · refine E_iconst d_X0_findWay_7 (c32 rfl) ?_
    refine E_goto (tgt := 18) d_X0_findWay_8 (by decide) ?_
    exact (L_X0_findWay_b18 h)
noncomputable def f_X0_findWay (v0 : Int) (σ : Mem) : Option (Int × Mem) := if isO Sh 0 v0 = true then f_X0_findWay_b0 v0 σ else none
theorem L_X0_findWay {o : Int × Mem} {v0 : Int} {σ : Mem} (h : f_X0_findWay v0 σ = some o) : (isO Sh 0 v0 = true ∧ Cn mt_X0_findWay 161 [(2, v0)] Sh σ (some (0, o.1)) Sh o.2) := ⟨(ite_ok h).1, Cn_of mk_X0_findWay.1.2.2.1 (Nat.le_of_ble_eq_true rfl) (fun sc => L_X0_findWay_b0 (ite_ok h).2)⟩
theorem d_X0_cutOn_0 : decode mt_X0_cutOn.2.1 0 = .ok (.aload_n 0, 1) := by decide +kernel
theorem d_X0_cutOn_1 : decode mt_X0_cutOn.2.1 1 = .ok (.getfield 52, 3) := by decide +kernel
theorem d_X0_cutOn_4 : decode mt_X0_cutOn.2.1 4 = .ok (.iload_n 1, 1) := by decide +kernel
theorem d_X0_cutOn_5 : decode mt_X0_cutOn.2.1 5 = .ok (.ishr, 1) := by decide +kernel
theorem d_X0_cutOn_6 : decode mt_X0_cutOn.2.1 6 = .ok (.iconst 1, 1) := by decide +kernel
theorem d_X0_cutOn_7 : decode mt_X0_cutOn.2.1 7 = .ok (.iand, 1) := by decide +kernel
theorem d_X0_cutOn_8 : decode mt_X0_cutOn.2.1 8 = .ok (.iconst 1, 1) := by decide +kernel
theorem d_X0_cutOn_9 : decode mt_X0_cutOn.2.1 9 = .ok (.if_icmp .ne 5, 3) := by decide +kernel
theorem d_X0_cutOn_12 : decode mt_X0_cutOn.2.1 12 = .ok (.iconst 1, 1) := by decide +kernel
theorem d_X0_cutOn_13 : decode mt_X0_cutOn.2.1 13 = .ok (.ireturn, 1) := by decide +kernel
theorem d_X0_cutOn_14 : decode mt_X0_cutOn.2.1 14 = .ok (.aload_n 0, 1) := by decide +kernel
theorem d_X0_cutOn_15 : decode mt_X0_cutOn.2.1 15 = .ok (.getfield 55, 3) := by decide +kernel
theorem d_X0_cutOn_18 : decode mt_X0_cutOn.2.1 18 = .ok (.iload_n 1, 1) := by decide +kernel
theorem d_X0_cutOn_19 : decode mt_X0_cutOn.2.1 19 = .ok (.ishr, 1) := by decide +kernel
theorem d_X0_cutOn_20 : decode mt_X0_cutOn.2.1 20 = .ok (.iconst 1, 1) := by decide +kernel
theorem d_X0_cutOn_21 : decode mt_X0_cutOn.2.1 21 = .ok (.iand, 1) := by decide +kernel
theorem d_X0_cutOn_22 : decode mt_X0_cutOn.2.1 22 = .ok (.iconst 1, 1) := by decide +kernel
theorem d_X0_cutOn_23 : decode mt_X0_cutOn.2.1 23 = .ok (.if_icmp .ne 7, 3) := by decide +kernel
theorem d_X0_cutOn_26 : decode mt_X0_cutOn.2.1 26 = .ok (.iconst 2, 1) := by decide +kernel
theorem d_X0_cutOn_27 : decode mt_X0_cutOn.2.1 27 = .ok (.goto 4, 3) := by decide +kernel
theorem d_X0_cutOn_30 : decode mt_X0_cutOn.2.1 30 = .ok (.iconst 0, 1) := by decide +kernel
theorem d_X0_cutOn_31 : decode mt_X0_cutOn.2.1 31 = .ok (.ireturn, 1) := by decide +kernel
noncomputable def f_X0_cutOn_b0 (v0 v1 : Int) (σ : Mem) : Option (Int) :=
  (gf Sh σ 0 v0 7).bind fun x1 =>
  if iand (ishr x1 v1) 1 = 1 then
    some (1)
  else
    (gf Sh σ 0 v0 8).bind fun x2 =>
    if iand (ishr x2 v1) 1 = 1 then
      some (2)
    else
      some (0)
theorem L_X0_cutOn_b0 {sc : Nat × (Nat → Int32)} {o : Int} {σ : Mem} {v0 v1 : Int} (h : f_X0_cutOn_b0 v0 v1 σ = some o) : E sc (Fm Sh (some (0, o)) Sh σ) mt_X0_cutOn 1 Sh Sh 0 [(2, v0), (0, v1)] [] Sh σ := by
  unfold f_X0_cutOn_b0 at h
  refine E_aload_n d_X0_cutOn_0 rfl (by decide) ?_
  refine E_get d_X0_cutOn_1 okX0 fl_X0_52 ⟨by decide, rfl⟩ h (fun x1 h => ?_)
  refine E_iload_n d_X0_cutOn_4 rfl ?_
  refine E_ishr d_X0_cutOn_5 ?_
  refine E_iconst d_X0_cutOn_6 (c32 rfl) ?_
  refine E_iand d_X0_cutOn_7 ?_
  refine E_iconst d_X0_cutOn_8 (c32 rfl) ?_
  refine E_icmp_ne (tgt := 14) d_X0_cutOn_9 (by decide) h (fun _ h => ?_) (fun _ h => ?_)
  · refine E_iconst d_X0_cutOn_12 (c32 rfl) ?_
    cases h
    exact E_iret d_X0_cutOn_13 rfl
  · refine E_aload_n d_X0_cutOn_14 rfl (by decide) ?_
    refine E_get d_X0_cutOn_15 okX0 fl_X0_55 ⟨by decide, rfl⟩ h (fun x2 h => ?_)
    refine E_iload_n d_X0_cutOn_18 rfl ?_
    refine E_ishr d_X0_cutOn_19 ?_
    refine E_iconst d_X0_cutOn_20 (c32 rfl) ?_
    refine E_iand d_X0_cutOn_21 ?_
    refine E_iconst d_X0_cutOn_22 (c32 rfl) ?_
    refine E_icmp_ne (tgt := 30) d_X0_cutOn_23 (by decide) h (fun _ h => ?_) (fun _ h => ?_)
    · refine E_iconst d_X0_cutOn_26 (c32 rfl) ?_
      refine E_goto (tgt := 31) d_X0_cutOn_27 (by decide) ?_
      cases h
      exact E_iret d_X0_cutOn_31 rfl
    · refine E_iconst d_X0_cutOn_30 (c32 rfl) ?_
      cases h
      exact E_iret d_X0_cutOn_31 rfl
noncomputable def f_X0_cutOn (v0 v1 : Int) (σ : Mem) : Option (Int) := if isO Sh 0 v0 = true then f_X0_cutOn_b0 v0 v1 σ else none
theorem L_X0_cutOn {o : Int} {v0 v1 : Int} {σ : Mem} (h : f_X0_cutOn v0 v1 σ = some o) : (isO Sh 0 v0 = true ∧ Cn mt_X0_cutOn 1 [(2, v0), (0, v1)] Sh σ (some (0, o)) Sh σ) := ⟨(ite_ok h).1, Cn_of mk_X0_cutOn.1.2.2.1 (Nat.le_of_ble_eq_true rfl) (fun sc => L_X0_cutOn_b0 (ite_ok h).2)⟩
theorem d_X9_windowsFor_0 : decode mt_X9_windowsFor.2.1 0 = .ok (.aload_n 0, 1) := by decide +kernel
theorem d_X9_windowsFor_1 : decode mt_X9_windowsFor.2.1 1 = .ok (.iload_n 1, 1) := by decide +kernel
theorem d_X9_windowsFor_2 : decode mt_X9_windowsFor.2.1 2 = .ok (.iload_n 2, 1) := by decide +kernel
theorem d_X9_windowsFor_3 : decode mt_X9_windowsFor.2.1 3 = .ok (.iconst 0, 1) := by decide +kernel
theorem d_X9_windowsFor_4 : decode mt_X9_windowsFor.2.1 4 = .ok (.invokevirtual 104, 3) := by decide +kernel
theorem d_X9_windowsFor_7 : decode mt_X9_windowsFor.2.1 7 = .ok (.istore_n 3, 1) := by decide +kernel
theorem d_X9_windowsFor_8 : decode mt_X9_windowsFor.2.1 8 = .ok (.iconst 2, 1) := by decide +kernel
theorem d_X9_windowsFor_9 : decode mt_X9_windowsFor.2.1 9 = .ok (.iload_n 3, 1) := by decide +kernel
theorem d_X9_windowsFor_10 : decode mt_X9_windowsFor.2.1 10 = .ok (.invokestatic 63, 3) := by decide +kernel
theorem d_X9_windowsFor_13 : decode mt_X9_windowsFor.2.1 13 = .ok (.imul, 1) := by decide +kernel
theorem d_X9_windowsFor_14 : decode mt_X9_windowsFor.2.1 14 = .ok (.aload_n 0, 1) := by decide +kernel
theorem d_X9_windowsFor_15 : decode mt_X9_windowsFor.2.1 15 = .ok (.invokevirtual 121, 3) := by decide +kernel
theorem d_X9_windowsFor_18 : decode mt_X9_windowsFor.2.1 18 = .ok (.isub, 1) := by decide +kernel
theorem d_X9_windowsFor_19 : decode mt_X9_windowsFor.2.1 19 = .ok (.istore 4, 2) := by decide +kernel
theorem d_X9_windowsFor_21 : decode mt_X9_windowsFor.2.1 21 = .ok (.iload 4, 2) := by decide +kernel
theorem d_X9_windowsFor_23 : decode mt_X9_windowsFor.2.1 23 = .ok (.ifCond .le 8, 3) := by decide +kernel
theorem d_X9_windowsFor_26 : decode mt_X9_windowsFor.2.1 26 = .ok (.iload 4, 2) := by decide +kernel
theorem d_X9_windowsFor_28 : decode mt_X9_windowsFor.2.1 28 = .ok (.goto 7, 3) := by decide +kernel
theorem d_X9_windowsFor_31 : decode mt_X9_windowsFor.2.1 31 = .ok (.iconst 1, 1) := by decide +kernel
theorem d_X9_windowsFor_32 : decode mt_X9_windowsFor.2.1 32 = .ok (.iload 4, 2) := by decide +kernel
theorem d_X9_windowsFor_34 : decode mt_X9_windowsFor.2.1 34 = .ok (.isub, 1) := by decide +kernel
theorem d_X9_windowsFor_35 : decode mt_X9_windowsFor.2.1 35 = .ok (.istore 5, 2) := by decide +kernel
theorem d_X9_windowsFor_37 : decode mt_X9_windowsFor.2.1 37 = .ok (.iload 4, 2) := by decide +kernel
theorem d_X9_windowsFor_39 : decode mt_X9_windowsFor.2.1 39 = .ok (.ifCond .le 7, 3) := by decide +kernel
theorem d_X9_windowsFor_42 : decode mt_X9_windowsFor.2.1 42 = .ok (.iload_n 3, 1) := by decide +kernel
theorem d_X9_windowsFor_43 : decode mt_X9_windowsFor.2.1 43 = .ok (.goto 11, 3) := by decide +kernel
theorem d_X9_windowsFor_46 : decode mt_X9_windowsFor.2.1 46 = .ok (.aload_n 0, 1) := by decide +kernel
theorem d_X9_windowsFor_47 : decode mt_X9_windowsFor.2.1 47 = .ok (.getfield 45, 3) := by decide +kernel
theorem d_X9_windowsFor_50 : decode mt_X9_windowsFor.2.1 50 = .ok (.iload_n 3, 1) := by decide +kernel
theorem d_X9_windowsFor_51 : decode mt_X9_windowsFor.2.1 51 = .ok (.iconst (-1), 1) := by decide +kernel
theorem d_X9_windowsFor_52 : decode mt_X9_windowsFor.2.1 52 = .ok (.ixor, 1) := by decide +kernel
theorem d_X9_windowsFor_53 : decode mt_X9_windowsFor.2.1 53 = .ok (.iand, 1) := by decide +kernel
theorem d_X9_windowsFor_54 : decode mt_X9_windowsFor.2.1 54 = .ok (.iconst 1, 1) := by decide +kernel
theorem d_X9_windowsFor_55 : decode mt_X9_windowsFor.2.1 55 = .ok (.iload_n 2, 1) := by decide +kernel
theorem d_X9_windowsFor_56 : decode mt_X9_windowsFor.2.1 56 = .ok (.ishl, 1) := by decide +kernel
theorem d_X9_windowsFor_57 : decode mt_X9_windowsFor.2.1 57 = .ok (.iconst (-1), 1) := by decide +kernel
theorem d_X9_windowsFor_58 : decode mt_X9_windowsFor.2.1 58 = .ok (.ixor, 1) := by decide +kernel
theorem d_X9_windowsFor_59 : decode mt_X9_windowsFor.2.1 59 = .ok (.iand, 1) := by decide +kernel
theorem d_X9_windowsFor_60 : decode mt_X9_windowsFor.2.1 60 = .ok (.istore 6, 2) := by decide +kernel
theorem d_X9_windowsFor_62 : decode mt_X9_windowsFor.2.1 62 = .ok (.iconst 0, 1) := by decide +kernel
theorem d_X9_windowsFor_63 : decode mt_X9_windowsFor.2.1 63 = .ok (.istore 7, 2) := by decide +kernel
theorem d_X9_windowsFor_65 : decode mt_X9_windowsFor.2.1 65 = .ok (.iconst 0, 1) := by decide +kernel
theorem d_X9_windowsFor_66 : decode mt_X9_windowsFor.2.1 66 = .ok (.istore 8, 2) := by decide +kernel
theorem d_X9_windowsFor_68 : decode mt_X9_windowsFor.2.1 68 = .ok (.iload 8, 2) := by decide +kernel
theorem d_X9_windowsFor_70 : decode mt_X9_windowsFor.2.1 70 = .ok (.aload_n 0, 1) := by decide +kernel
theorem d_X9_windowsFor_71 : decode mt_X9_windowsFor.2.1 71 = .ok (.getfield 42, 3) := by decide +kernel
theorem d_X9_windowsFor_74 : decode mt_X9_windowsFor.2.1 74 = .ok (.if_icmp .ge 37, 3) := by decide +kernel
theorem d_X9_windowsFor_77 : decode mt_X9_windowsFor.2.1 77 = .ok (.iload 5, 2) := by decide +kernel
theorem d_X9_windowsFor_79 : decode mt_X9_windowsFor.2.1 79 = .ok (.ifCond .le 32, 3) := by decide +kernel
theorem d_X9_windowsFor_82 : decode mt_X9_windowsFor.2.1 82 = .ok (.iload 6, 2) := by decide +kernel
theorem d_X9_windowsFor_84 : decode mt_X9_windowsFor.2.1 84 = .ok (.iload 8, 2) := by decide +kernel
theorem d_X9_windowsFor_86 : decode mt_X9_windowsFor.2.1 86 = .ok (.ishr, 1) := by decide +kernel
theorem d_X9_windowsFor_87 : decode mt_X9_windowsFor.2.1 87 = .ok (.iconst 1, 1) := by decide +kernel
theorem d_X9_windowsFor_88 : decode mt_X9_windowsFor.2.1 88 = .ok (.iand, 1) := by decide +kernel
theorem d_X9_windowsFor_89 : decode mt_X9_windowsFor.2.1 89 = .ok (.iconst 1, 1) := by decide +kernel
theorem d_X9_windowsFor_90 : decode mt_X9_windowsFor.2.1 90 = .ok (.if_icmp .ne 15, 3) := by decide +kernel
theorem d_X9_windowsFor_93 : decode mt_X9_windowsFor.2.1 93 = .ok (.iload 7, 2) := by decide +kernel
theorem d_X9_windowsFor_95 : decode mt_X9_windowsFor.2.1 95 = .ok (.iconst 1, 1) := by decide +kernel
theorem d_X9_windowsFor_96 : decode mt_X9_windowsFor.2.1 96 = .ok (.iload 8, 2) := by decide +kernel
theorem d_X9_windowsFor_98 : decode mt_X9_windowsFor.2.1 98 = .ok (.ishl, 1) := by decide +kernel
theorem d_X9_windowsFor_99 : decode mt_X9_windowsFor.2.1 99 = .ok (.ior, 1) := by decide +kernel
theorem d_X9_windowsFor_100 : decode mt_X9_windowsFor.2.1 100 = .ok (.istore 7, 2) := by decide +kernel
theorem d_X9_windowsFor_102 : decode mt_X9_windowsFor.2.1 102 = .ok (.iinc 5 (-1), 3) := by decide +kernel
theorem d_X9_windowsFor_105 : decode mt_X9_windowsFor.2.1 105 = .ok (.iinc 8 1, 3) := by decide +kernel
theorem d_X9_windowsFor_108 : decode mt_X9_windowsFor.2.1 108 = .ok (.goto (-40), 3) := by decide +kernel
theorem d_X9_windowsFor_111 : decode mt_X9_windowsFor.2.1 111 = .ok (.iload 5, 2) := by decide +kernel
theorem d_X9_windowsFor_113 : decode mt_X9_windowsFor.2.1 113 = .ok (.ifCond .le 7, 3) := by decide +kernel
theorem d_X9_windowsFor_116 : decode mt_X9_windowsFor.2.1 116 = .ok (.iconst (-1), 1) := by decide +kernel
theorem d_X9_windowsFor_117 : decode mt_X9_windowsFor.2.1 117 = .ok (.goto 5, 3) := by decide +kernel
theorem d_X9_windowsFor_120 : decode mt_X9_windowsFor.2.1 120 = .ok (.iload 7, 2) := by decide +kernel
theorem d_X9_windowsFor_122 : decode mt_X9_windowsFor.2.1 122 = .ok (.ireturn, 1) := by decide +kernel
noncomputable def f_X9_windowsFor_b105 (k68 : (Int → Int → Int → Int → Int → Mem → Option (Int))) (v0 v5 v6 v7 v8 : Int) (σ : Mem) : Option (Int) :=
  k68 v0 v5 v6 v7 (w32 (v8 + 1)) σ
theorem L_X9_windowsFor_b105 {sc : Nat × (Nat → Int32)} {o : Int} {σ : Mem} {k68 : (Int → Int → Int → Int → Int → Mem → Option (Int))} (hk68 : ∀ {v0 v5 v6 v7 v8 : Int}, k68 v0 v5 v6 v7 v8 σ = some o → E sc (Fm Sh (some (0, o)) Sh σ) mt_X9_windowsFor 4 Sh Sh 68 [(2, v0), (9, 0), (9, 0), (9, 0), (9, 0), (0, v5), (0, v6), (0, v7), (0, v8)] [] Sh σ) {v0 v5 v6 v7 v8 : Int} (h : f_X9_windowsFor_b105 k68 v0 v5 v6 v7 v8 σ = some o) : E sc (Fm Sh (some (0, o)) Sh σ) mt_X9_windowsFor 4 Sh Sh 105 [(2, v0), (9, 0), (9, 0), (9, 0), (9, 0), (0, v5), (0, v6), (0, v7), (0, v8)] [] Sh σ := by
  unfold f_X9_windowsFor_b105 at h
  refine E_iinc d_X9_windowsFor_105 (ls' := [(2, v0), (9, 0), (9, 0), (9, 0), (9, 0), (0, v5), (0, v6), (0, v7), (0, w32 (v8 + 1))]) rfl ⟨by decide, rfl⟩ ?_
  refine E_goto (tgt := 68) d_X9_windowsFor_108 (by decide) ?_
  exact (hk68 h)
noncomputable def f_X9_windowsFor_b111 (v5 v7 : Int) (σ : Mem) : Option (Int) :=
  if v5 ≤ 0 then
    some (v7)
  else
    some ((-1))
theorem L_X9_windowsFor_b111 {sc : Nat × (Nat → Int32)} {o : Int} {σ : Mem} {v5 v7 : Int} (h : f_X9_windowsFor_b111 v5 v7 σ = some o) : E sc (Fm Sh (some (0, o)) Sh σ) mt_X9_windowsFor 4 Sh Sh 111 [(9, 0), (9, 0), (9, 0), (9, 0), (9, 0), (0, v5), (9, 0), (0, v7), (9, 0)] [] Sh σ := by
  unfold f_X9_windowsFor_b111 at h
  refine E_iload d_X9_windowsFor_111 rfl ?_
  refine E_if_le (tgt := 120) d_X9_windowsFor_113 (by decide) h (fun _ h => ?_) (fun _ h => ?_)
  · refine E_iload d_X9_windowsFor_120 rfl ?_
    cases h
    exact E_iret d_X9_windowsFor_122 rfl
  · refine E_iconst d_X9_windowsFor_116 (c32 rfl) ?_
    refine E_goto (tgt := 122) d_X9_windowsFor_117 (by decide) ?_
    cases h
    exact E_iret d_X9_windowsFor_122 rfl
noncomputable def f_X9_windowsFor_b68 (k68 : (Int → Int → Int → Int → Int → Mem → Option (Int))) (v0 v5 v6 v7 v8 : Int) (σ : Mem) : Option (Int) :=
  (gf Sh σ 9 v0 0).bind fun x8 =>
  if x8 ≤ v8 then
    f_X9_windowsFor_b111 v5 v7 σ
  else
    if v5 ≤ 0 then
      f_X9_windowsFor_b111 v5 v7 σ
    else
      if iand (ishr v6 v8) 1 = 1 then
        f_X9_windowsFor_b105 k68 v0 (w32 (v5 + (-1))) v6 (ior v7 (ishl 1 v8)) v8 σ
      else
        f_X9_windowsFor_b105 k68 v0 v5 v6 v7 v8 σ
theorem L_X9_windowsFor_b68 {sc : Nat × (Nat → Int32)} {o : Int} {σ : Mem} {k68 : (Int → Int → Int → Int → Int → Mem → Option (Int))} (hk68 : ∀ {v0 v5 v6 v7 v8 : Int}, k68 v0 v5 v6 v7 v8 σ = some o → E sc (Fm Sh (some (0, o)) Sh σ) mt_X9_windowsFor 4 Sh Sh 68 [(2, v0), (9, 0), (9, 0), (9, 0), (9, 0), (0, v5), (0, v6), (0, v7), (0, v8)] [] Sh σ) {v0 v5 v6 v7 v8 : Int} (h : f_X9_windowsFor_b68 k68 v0 v5 v6 v7 v8 σ = some o) : E sc (Fm Sh (some (0, o)) Sh σ) mt_X9_windowsFor 4 Sh Sh 68 [(2, v0), (9, 0), (9, 0), (9, 0), (9, 0), (0, v5), (0, v6), (0, v7), (0, v8)] [] Sh σ := by
  unfold f_X9_windowsFor_b68 at h
  refine E_iload d_X9_windowsFor_68 rfl ?_
  refine E_aload_n d_X9_windowsFor_70 rfl (by decide) ?_
  refine E_get d_X9_windowsFor_71 okX9 fl_X9_42 ⟨by decide, rfl⟩ h (fun x8 h => ?_)
  refine E_icmp_ge (tgt := 111) d_X9_windowsFor_74 (by decide) h (fun _ h => ?_) (fun _ h => ?_)
  · exact E_weak (ls' := [(9, 0), (9, 0), (9, 0), (9, 0), (9, 0), (0, v5), (9, 0), (0, v7), (9, 0)]) ⟨Or.inl rfl, Or.inl rfl, Or.inl rfl, Or.inl rfl, Or.inl rfl, Or.inr rfl, Or.inl rfl, Or.inr rfl, Or.inl rfl, trivial⟩ (L_X9_windowsFor_b111 h)
  · refine E_iload d_X9_windowsFor_77 rfl ?_
    refine E_if_le (tgt := 111) d_X9_windowsFor_79 (by decide) h (fun _ h => ?_) (fun _ h => ?_)
    · exact E_weak (ls' := [(9, 0), (9, 0), (9, 0), (9, 0), (9, 0), (0, v5), (9, 0), (0, v7), (9, 0)]) ⟨Or.inl rfl, Or.inl rfl, Or.inl rfl, Or.inl rfl, Or.inl rfl, Or.inr rfl, Or.inl rfl, Or.inr rfl, Or.inl rfl, trivial⟩ (L_X9_windowsFor_b111 h)
    · refine E_iload d_X9_windowsFor_82 rfl ?_
      refine E_iload d_X9_windowsFor_84 rfl ?_
      refine E_ishr d_X9_windowsFor_86 ?_
      refine E_iconst d_X9_windowsFor_87 (c32 rfl) ?_
      refine E_iand d_X9_windowsFor_88 ?_
      refine E_iconst d_X9_windowsFor_89 (c32 rfl) ?_
      refine E_icmp_ne (tgt := 105) d_X9_windowsFor_90 (by decide) h (fun _ h => ?_) (fun _ h => ?_)
      · refine E_iload d_X9_windowsFor_93 rfl ?_
        refine E_iconst d_X9_windowsFor_95 (c32 rfl) ?_
        refine E_iload d_X9_windowsFor_96 rfl ?_
        refine E_ishl d_X9_windowsFor_98 ?_
        refine E_ior d_X9_windowsFor_99 ?_
        refine E_istore d_X9_windowsFor_100 (ls' := [(2, v0), (9, 0), (9, 0), (9, 0), (9, 0), (0, v5), (0, v6), (0, ior v7 (ishl 1 v8)), (0, v8)]) ⟨by decide, rfl⟩ ?_
        refine E_iinc d_X9_windowsFor_102 (ls' := [(2, v0), (9, 0), (9, 0), (9, 0), (9, 0), (0, w32 (v5 + (-1))), (0, v6), (0, ior v7 (ishl 1 v8)), (0, v8)]) rfl ⟨by decide, rfl⟩ ?_
        exact (L_X9_windowsFor_b105 hk68 h)
      · exact (L_X9_windowsFor_b105 hk68 h)
noncomputable def f_X9_windowsFor_h68 (n : Nat) : Int → Int → Int → Int → Int → Mem → Option (Int) := Nat.rec (motive := fun _ => Int → Int → Int → Int → Int → Mem → Option (Int)) (fun _ _ _ _ _ _ => none) (fun _ ih => f_X9_windowsFor_b68 (ih)) n
theorem L_X9_windowsFor_h68 {sc : Nat × (Nat → Int32)} {o : Int} {σ : Mem} : ∀ (n : Nat) {v0 v5 v6 v7 v8 : Int}, f_X9_windowsFor_h68 n v0 v5 v6 v7 v8 σ = some o → E sc (Fm Sh (some (0, o)) Sh σ) mt_X9_windowsFor 4 Sh Sh 68 [(2, v0), (9, 0), (9, 0), (9, 0), (9, 0), (0, v5), (0, v6), (0, v7), (0, v8)] [] Sh σ := by
  intro n
  induction n with
  | zero => intro v0 v5 v6 v7 v8 h; cases h
  | succ n ih => intro v0 v5 v6 v7 v8 h; exact L_X9_windowsFor_b68 (@ih) h
noncomputable def f_X9_windowsFor_b54 (v0 v2 v5 s0 : Int) (σ : Mem) : Option (Int) :=
  f_X9_windowsFor_h68 FU v0 v5 (iand s0 (ixor (ishl 1 v2) (-1))) 0 0 σ
theorem L_X9_windowsFor_b54 {sc : Nat × (Nat → Int32)} {o : Int} {σ : Mem} {v0 v2 v5 s0 : Int} (h : f_X9_windowsFor_b54 v0 v2 v5 s0 σ = some o) : E sc (Fm Sh (some (0, o)) Sh σ) mt_X9_windowsFor 4 Sh Sh 54 [(2, v0), (9, 0), (0, v2), (9, 0), (9, 0), (0, v5), (9, 0), (9, 0), (9, 0)] [(0, s0)] Sh σ := by
  unfold f_X9_windowsFor_b54 at h
  refine E_iconst d_X9_windowsFor_54 (c32 rfl) ?_
  refine E_iload_n d_X9_windowsFor_55 rfl ?_
  refine E_ishl d_X9_windowsFor_56 ?_
  refine E_iconst d_X9_windowsFor_57 (c32 rfl) ?_
  refine E_ixor d_X9_windowsFor_58 ?_
  refine E_iand d_X9_windowsFor_59 ?_
  refine E_istore d_X9_windowsFor_60 (ls' := [(2, v0), (9, 0), (0, v2), (9, 0), (9, 0), (0, v5), (0, iand s0 (ixor (ishl 1 v2) (-1))), (9, 0), (9, 0)]) ⟨by decide, rfl⟩ ?_
  refine E_iconst d_X9_windowsFor_62 (c32 rfl) ?_
  refine E_istore d_X9_windowsFor_63 (ls' := [(2, v0), (9, 0), (0, v2), (9, 0), (9, 0), (0, v5), (0, iand s0 (ixor (ishl 1 v2) (-1))), (0, 0), (9, 0)]) ⟨by decide, rfl⟩ ?_
  refine E_iconst d_X9_windowsFor_65 (c32 rfl) ?_
  refine E_istore d_X9_windowsFor_66 (ls' := [(2, v0), (9, 0), (0, v2), (9, 0), (9, 0), (0, v5), (0, iand s0 (ixor (ishl 1 v2) (-1))), (0, 0), (0, 0)]) ⟨by decide, rfl⟩ ?_
  exact E_weak (ls' := [(2, v0), (9, 0), (9, 0), (9, 0), (9, 0), (0, v5), (0, iand s0 (ixor (ishl 1 v2) (-1))), (0, 0), (0, 0)]) ⟨Or.inr rfl, Or.inl rfl, Or.inl rfl, Or.inl rfl, Or.inl rfl, Or.inr rfl, Or.inr rfl, Or.inr rfl, Or.inr rfl, trivial⟩ (L_X9_windowsFor_h68 FU h)
noncomputable def f_X9_windowsFor_b35 (v0 v2 v3 v4 s0 : Int) (σ : Mem) : Option (Int) :=
  if v4 ≤ 0 then
    (gf Sh σ 9 v0 1).bind fun x7 =>
    f_X9_windowsFor_b54 v0 v2 s0 (iand x7 (ixor v3 (-1))) σ
  else
    f_X9_windowsFor_b54 v0 v2 s0 v3 σ
theorem L_X9_windowsFor_b35 {sc : Nat × (Nat → Int32)} {o : Int} {σ : Mem} {v0 v2 v3 v4 s0 : Int} (h : f_X9_windowsFor_b35 v0 v2 v3 v4 s0 σ = some o) : E sc (Fm Sh (some (0, o)) Sh σ) mt_X9_windowsFor 4 Sh Sh 35 [(2, v0), (9, 0), (0, v2), (0, v3), (0, v4), (9, 0), (9, 0), (9, 0), (9, 0)] [(0, s0)] Sh σ := by
  unfold f_X9_windowsFor_b35 at h
  refine E_istore d_X9_windowsFor_35 (ls' := [(2, v0), (9, 0), (0, v2), (0, v3), (0, v4), (0, s0), (9, 0), (9, 0), (9, 0)]) ⟨by decide, rfl⟩ ?_
  refine E_iload d_X9_windowsFor_37 rfl ?_
  refine E_if_le (tgt := 46) d_X9_windowsFor_39 (by decide) h (fun _ h => ?_) (fun _ h => ?_)
  · refine E_aload_n d_X9_windowsFor_46 rfl (by decide) ?_
    refine E_get d_X9_windowsFor_47 okX9 fl_X9_45 ⟨by decide, rfl⟩ h (fun x7 h => ?_)
    refine E_iload_n d_X9_windowsFor_50 rfl ?_
    refine E_iconst d_X9_windowsFor_51 (c32 rfl) ?_
    refine E_ixor d_X9_windowsFor_52 ?_
    refine E_iand d_X9_windowsFor_53 ?_
    exact E_weak (ls' := [(2, v0), (9, 0), (0, v2), (9, 0), (9, 0), (0, s0), (9, 0), (9, 0), (9, 0)]) ⟨Or.inr rfl, Or.inl rfl, Or.inr rfl, Or.inl rfl, Or.inl rfl, Or.inr rfl, Or.inl rfl, Or.inl rfl, Or.inl rfl, trivial⟩ (L_X9_windowsFor_b54 h)
  · refine E_iload_n d_X9_windowsFor_42 rfl ?_
    refine E_goto (tgt := 54) d_X9_windowsFor_43 (by decide) ?_
    exact E_weak (ls' := [(2, v0), (9, 0), (0, v2), (9, 0), (9, 0), (0, s0), (9, 0), (9, 0), (9, 0)]) ⟨Or.inr rfl, Or.inl rfl, Or.inr rfl, Or.inl rfl, Or.inl rfl, Or.inr rfl, Or.inl rfl, Or.inl rfl, Or.inl rfl, trivial⟩ (L_X9_windowsFor_b54 h)
noncomputable def f_X9_windowsFor_b0 (v0 v1 v2 : Int) (σ : Mem) : Option (Int) :=
  (f_X9_turningFrom v0 v1 v2 0 σ).bind fun r1 =>
  (f_JI_bitCount r1 σ).bind fun r3 =>
  (f_X9_stoneCount v0 σ).bind fun r5 =>
  if w32 (w32 (2 * r3) - r5) ≤ 0 then
    f_X9_windowsFor_b35 v0 v2 r1 (w32 (w32 (2 * r3) - r5)) (w32 (1 - (w32 (w32 (2 * r3) - r5)))) σ
  else
    f_X9_windowsFor_b35 v0 v2 r1 (w32 (w32 (2 * r3) - r5)) (w32 (w32 (2 * r3) - r5)) σ
theorem L_X9_windowsFor_b0 {sc : Nat × (Nat → Int32)} {o : Int} {σ : Mem} {v0 v1 v2 : Int} (h : f_X9_windowsFor_b0 v0 v1 v2 σ = some o) : E sc (Fm Sh (some (0, o)) Sh σ) mt_X9_windowsFor 4 Sh Sh 0 [(2, v0), (0, v1), (0, v2), (9, 0), (9, 0), (9, 0), (9, 0), (9, 0), (9, 0)] [] Sh σ := by
  unfold f_X9_windowsFor_b0 at h
  refine E_aload_n d_X9_windowsFor_0 rfl (by decide) ?_
  refine E_iload_n d_X9_windowsFor_1 rfl ?_
  refine E_iload_n d_X9_windowsFor_2 rfl ?_
  refine E_iconst d_X9_windowsFor_3 (c32 rfl) ?_
  refine bd h (fun r1 q2 h => ?_)
  refine E_cV (as := [(0, v1), (0, v2), (0, 0)]) (st := []) (a := v0) d_X9_windowsFor_4 mk_X9_turningFrom nl_X9_104 (by omega) ⟨rfl, rfl, Nat.le_of_ble_eq_true rfl⟩ okX9 rfl (L_X9_turningFrom q2) ?_
  refine E_istore_n d_X9_windowsFor_7 (ls' := [(2, v0), (0, v1), (0, v2), (0, r1), (9, 0), (9, 0), (9, 0), (9, 0), (9, 0)]) ⟨by decide, rfl⟩ ?_
  refine E_iconst d_X9_windowsFor_8 (c32 rfl) ?_
  refine E_iload_n d_X9_windowsFor_9 rfl ?_
  refine bd h (fun r3 q4 h => ?_)
  refine E_cS (as := [(0, r1)]) (st := [(0, 2)]) d_X9_windowsFor_10 mk_JI_bitCount nl_X9_63 (by omega) ⟨rfl, rfl, Nat.le_of_ble_eq_true rfl⟩ (L_JI_bitCount q4) ?_
  refine E_imul d_X9_windowsFor_13 ?_
  refine E_aload_n d_X9_windowsFor_14 rfl (by decide) ?_
  refine bd h (fun r5 q6 h => ?_)
  refine E_cV (as := []) (st := [(0, w32 (2 * r3))]) (a := v0) d_X9_windowsFor_15 mk_X9_stoneCount nl_X9_121 (by omega) ⟨rfl, rfl, Nat.le_of_ble_eq_true rfl⟩ okX9 rfl (L_X9_stoneCount q6) ?_
  refine E_isub d_X9_windowsFor_18 ?_
  refine E_istore d_X9_windowsFor_19 (ls' := [(2, v0), (0, v1), (0, v2), (0, r1), (0, w32 (w32 (2 * r3) - r5)), (9, 0), (9, 0), (9, 0), (9, 0)]) ⟨by decide, rfl⟩ ?_
  refine E_iload d_X9_windowsFor_21 rfl ?_
  refine E_if_le (tgt := 31) d_X9_windowsFor_23 (by decide) h (fun _ h => ?_) (fun _ h => ?_)
  · refine E_iconst d_X9_windowsFor_31 (c32 rfl) ?_
    refine E_iload d_X9_windowsFor_32 rfl ?_
    refine E_isub d_X9_windowsFor_34 ?_
    exact E_weak (ls' := [(2, v0), (9, 0), (0, v2), (0, r1), (0, w32 (w32 (2 * r3) - r5)), (9, 0), (9, 0), (9, 0), (9, 0)]) ⟨Or.inr rfl, Or.inl rfl, Or.inr rfl, Or.inr rfl, Or.inr rfl, Or.inl rfl, Or.inl rfl, Or.inl rfl, Or.inl rfl, trivial⟩ (L_X9_windowsFor_b35 h)
  · refine E_iload d_X9_windowsFor_26 rfl ?_
    refine E_goto (tgt := 35) d_X9_windowsFor_28 (by decide) ?_
    exact E_weak (ls' := [(2, v0), (9, 0), (0, v2), (0, r1), (0, w32 (w32 (2 * r3) - r5)), (9, 0), (9, 0), (9, 0), (9, 0)]) ⟨Or.inr rfl, Or.inl rfl, Or.inr rfl, Or.inr rfl, Or.inr rfl, Or.inl rfl, Or.inl rfl, Or.inl rfl, Or.inl rfl, trivial⟩ (L_X9_windowsFor_b35 h)
noncomputable def f_X9_windowsFor (v0 v1 v2 : Int) (σ : Mem) : Option (Int) := if isO Sh 9 v0 = true then f_X9_windowsFor_b0 v0 v1 v2 σ else none
theorem L_X9_windowsFor {o : Int} {v0 v1 v2 : Int} {σ : Mem} (h : f_X9_windowsFor v0 v1 v2 σ = some o) : (isO Sh 9 v0 = true ∧ Cn mt_X9_windowsFor 4 [(2, v0), (0, v1), (0, v2)] Sh σ (some (0, o)) Sh σ) := ⟨(ite_ok h).1, Cn_of mk_X9_windowsFor.1.2.2.1 (Nat.le_of_ble_eq_true rfl) (fun sc => L_X9_windowsFor_b0 (ite_ok h).2)⟩
theorem d_X9_around_0 : decode mt_X9_around.2.1 0 = .ok (.aload_n 0, 1) := by decide +kernel
theorem d_X9_around_1 : decode mt_X9_around.2.1 1 = .ok (.getfield 42, 3) := by decide +kernel
theorem d_X9_around_4 : decode mt_X9_around.2.1 4 = .ok (.ifCond .ne 7, 3) := by decide +kernel
theorem d_X9_around_7 : decode mt_X9_around.2.1 7 = .ok (.iconst (-1), 1) := by decide +kernel
theorem d_X9_around_8 : decode mt_X9_around.2.1 8 = .ok (.goto 13, 3) := by decide +kernel
theorem d_X9_around_11 : decode mt_X9_around.2.1 11 = .ok (.iload_n 1, 1) := by decide +kernel
theorem d_X9_around_12 : decode mt_X9_around.2.1 12 = .ok (.iload_n 2, 1) := by decide +kernel
theorem d_X9_around_13 : decode mt_X9_around.2.1 13 = .ok (.iadd, 1) := by decide +kernel
theorem d_X9_around_14 : decode mt_X9_around.2.1 14 = .ok (.aload_n 0, 1) := by decide +kernel
theorem d_X9_around_15 : decode mt_X9_around.2.1 15 = .ok (.getfield 42, 3) := by decide +kernel
theorem d_X9_around_18 : decode mt_X9_around.2.1 18 = .ok (.invokestatic 125, 3) := by decide +kernel
theorem d_X9_around_21 : decode mt_X9_around.2.1 21 = .ok (.ireturn, 1) := by decide +kernel
noncomputable def f_X9_around_b0 (v0 v1 v2 : Int) (σ : Mem) : Option (Int) :=
  (gf Sh σ 9 v0 0).bind fun x1 =>
  if x1 = 0 then
    some ((-1))
  else
    (gf Sh σ 9 v0 0).bind fun x2 =>
    (nz x2).bind fun _ =>
    some (ifm (w32 (v1 + v2)) x2)
theorem L_X9_around_b0 {sc : Nat × (Nat → Int32)} {o : Int} {σ : Mem} {v0 v1 v2 : Int} (h : f_X9_around_b0 v0 v1 v2 σ = some o) : E sc (Fm Sh (some (0, o)) Sh σ) mt_X9_around 2 Sh Sh 0 [(2, v0), (0, v1), (0, v2)] [] Sh σ := by
  unfold f_X9_around_b0 at h
  refine E_aload_n d_X9_around_0 rfl (by decide) ?_
  refine E_get d_X9_around_1 okX9 fl_X9_42 ⟨by decide, rfl⟩ h (fun x1 h => ?_)
  refine E_if_ne (tgt := 11) d_X9_around_4 (by decide) h (fun _ h => ?_) (fun _ h => ?_)
  · refine E_iconst d_X9_around_7 (c32 rfl) ?_
    refine E_goto (tgt := 21) d_X9_around_8 (by decide) ?_
    cases h
    exact E_iret d_X9_around_21 rfl
  · refine E_iload_n d_X9_around_11 rfl ?_
    refine E_iload_n d_X9_around_12 rfl ?_
    refine E_iadd d_X9_around_13 ?_
    refine E_aload_n d_X9_around_14 rfl (by decide) ?_
    refine E_get d_X9_around_15 okX9 fl_X9_42 ⟨by decide, rfl⟩ h (fun x2 h => ?_)
    refine bd_nz h (fun q3 h => ?_)
    refine E_ifm d_X9_around_18 nl_X9_125 (by omega) (Nat.le_of_ble_eq_true rfl) q3 ?_
    cases h
    exact E_iret d_X9_around_21 rfl
noncomputable def f_X9_around (v0 v1 v2 : Int) (σ : Mem) : Option (Int) := if isO Sh 9 v0 = true then f_X9_around_b0 v0 v1 v2 σ else none
theorem L_X9_around {o : Int} {v0 v1 v2 : Int} {σ : Mem} (h : f_X9_around v0 v1 v2 σ = some o) : (isO Sh 9 v0 = true ∧ Cn mt_X9_around 2 [(2, v0), (0, v1), (0, v2)] Sh σ (some (0, o)) Sh σ) := ⟨(ite_ok h).1, Cn_of mk_X9_around.1.2.2.1 (Nat.le_of_ble_eq_true rfl) (fun sc => L_X9_around_b0 (ite_ok h).2)⟩
theorem d_X9_isRowOfStones_0 : decode mt_X9_isRowOfStones.2.1 0 = .ok (.iconst 0, 1) := by decide +kernel
theorem d_X9_isRowOfStones_1 : decode mt_X9_isRowOfStones.2.1 1 = .ok (.istore_n 3, 1) := by decide +kernel
theorem d_X9_isRowOfStones_2 : decode mt_X9_isRowOfStones.2.1 2 = .ok (.iload_n 3, 1) := by decide +kernel
theorem d_X9_isRowOfStones_3 : decode mt_X9_isRowOfStones.2.1 3 = .ok (.iload_n 2, 1) := by decide +kernel
theorem d_X9_isRowOfStones_4 : decode mt_X9_isRowOfStones.2.1 4 = .ok (.if_icmp .gt 25, 3) := by decide +kernel
theorem d_X9_isRowOfStones_7 : decode mt_X9_isRowOfStones.2.1 7 = .ok (.aload_n 0, 1) := by decide +kernel
theorem d_X9_isRowOfStones_8 : decode mt_X9_isRowOfStones.2.1 8 = .ok (.aload_n 0, 1) := by decide +kernel
theorem d_X9_isRowOfStones_9 : decode mt_X9_isRowOfStones.2.1 9 = .ok (.iload_n 1, 1) := by decide +kernel
theorem d_X9_isRowOfStones_10 : decode mt_X9_isRowOfStones.2.1 10 = .ok (.iload_n 3, 1) := by decide +kernel
theorem d_X9_isRowOfStones_11 : decode mt_X9_isRowOfStones.2.1 11 = .ok (.invokevirtual 132, 3) := by decide +kernel
theorem d_X9_isRowOfStones_14 : decode mt_X9_isRowOfStones.2.1 14 = .ok (.i2l, 1) := by decide +kernel
theorem d_X9_isRowOfStones_15 : decode mt_X9_isRowOfStones.2.1 15 = .ok (.invokevirtual 87, 3) := by decide +kernel
theorem d_X9_isRowOfStones_18 : decode mt_X9_isRowOfStones.2.1 18 = .ok (.ifCond .ne 5, 3) := by decide +kernel
theorem d_X9_isRowOfStones_21 : decode mt_X9_isRowOfStones.2.1 21 = .ok (.iconst 0, 1) := by decide +kernel
theorem d_X9_isRowOfStones_22 : decode mt_X9_isRowOfStones.2.1 22 = .ok (.ireturn, 1) := by decide +kernel
theorem d_X9_isRowOfStones_23 : decode mt_X9_isRowOfStones.2.1 23 = .ok (.iinc 3 1, 3) := by decide +kernel
theorem d_X9_isRowOfStones_26 : decode mt_X9_isRowOfStones.2.1 26 = .ok (.goto (-24), 3) := by decide +kernel
theorem d_X9_isRowOfStones_29 : decode mt_X9_isRowOfStones.2.1 29 = .ok (.iconst 1, 1) := by decide +kernel
theorem d_X9_isRowOfStones_30 : decode mt_X9_isRowOfStones.2.1 30 = .ok (.ireturn, 1) := by decide +kernel
noncomputable def f_X9_isRowOfStones_b2 (k2 : (Int → Int → Int → Int → Mem → Option (Int))) (v0 v1 v2 v3 : Int) (σ : Mem) : Option (Int) :=
  if v2 < v3 then
    some (1)
  else
    (f_X9_around v0 v1 v3 σ).bind fun r1 =>
    (f_X9_isStone v0 r1 σ).bind fun r3 =>
    if r3 = 0 then
      some (0)
    else
      k2 v0 v1 v2 (w32 (v3 + 1)) σ
theorem L_X9_isRowOfStones_b2 {sc : Nat × (Nat → Int32)} {o : Int} {σ : Mem} {k2 : (Int → Int → Int → Int → Mem → Option (Int))} (hk2 : ∀ {v0 v1 v2 v3 : Int}, k2 v0 v1 v2 v3 σ = some o → E sc (Fm Sh (some (0, o)) Sh σ) mt_X9_isRowOfStones 3 Sh Sh 2 [(2, v0), (0, v1), (0, v2), (0, v3)] [] Sh σ) {v0 v1 v2 v3 : Int} (h : f_X9_isRowOfStones_b2 k2 v0 v1 v2 v3 σ = some o) : E sc (Fm Sh (some (0, o)) Sh σ) mt_X9_isRowOfStones 3 Sh Sh 2 [(2, v0), (0, v1), (0, v2), (0, v3)] [] Sh σ := by
  unfold f_X9_isRowOfStones_b2 at h
  refine E_iload_n d_X9_isRowOfStones_2 rfl ?_
  refine E_iload_n d_X9_isRowOfStones_3 rfl ?_
  refine E_icmp_gt (tgt := 29) d_X9_isRowOfStones_4 (by decide) h (fun _ h => ?_) (fun _ h => ?_)
  · refine E_iconst d_X9_isRowOfStones_29 (c32 rfl) ?_
    cases h
    exact E_zret d_X9_isRowOfStones_30 rfl (Or.inr rfl)
  · refine E_aload_n d_X9_isRowOfStones_7 rfl (by decide) ?_
    refine E_aload_n d_X9_isRowOfStones_8 rfl (by decide) ?_
    refine E_iload_n d_X9_isRowOfStones_9 rfl ?_
    refine E_iload_n d_X9_isRowOfStones_10 rfl ?_
    refine bd h (fun r1 q2 h => ?_)
    refine E_cV (as := [(0, v1), (0, v3)]) (st := [(2, v0)]) (a := v0) d_X9_isRowOfStones_11 mk_X9_around nl_X9_132 (by omega) ⟨rfl, rfl, Nat.le_of_ble_eq_true rfl⟩ okX9 rfl (L_X9_around q2) ?_
    refine E_i2l d_X9_isRowOfStones_14 ?_
    refine bd h (fun r3 q4 h => ?_)
    refine E_cV (as := [(1, r1)]) (st := []) (a := v0) d_X9_isRowOfStones_15 mk_X9_isStone nl_X9_87 (by omega) ⟨rfl, rfl, Nat.le_of_ble_eq_true rfl⟩ okX9 rfl (L_X9_isStone q4) ?_
    refine E_if_ne (tgt := 23) d_X9_isRowOfStones_18 (by decide) h (fun _ h => ?_) (fun _ h => ?_)
    · refine E_iconst d_X9_isRowOfStones_21 (c32 rfl) ?_
      cases h
      exact E_zret d_X9_isRowOfStones_22 rfl (Or.inl rfl)
    · refine E_iinc d_X9_isRowOfStones_23 (ls' := [(2, v0), (0, v1), (0, v2), (0, w32 (v3 + 1))]) rfl ⟨by decide, rfl⟩ ?_
      refine E_goto (tgt := 2) d_X9_isRowOfStones_26 (by decide) ?_
      exact (hk2 h)
noncomputable def f_X9_isRowOfStones_h2 (n : Nat) : Int → Int → Int → Int → Mem → Option (Int) := Nat.rec (motive := fun _ => Int → Int → Int → Int → Mem → Option (Int)) (fun _ _ _ _ _ => none) (fun _ ih => f_X9_isRowOfStones_b2 (ih)) n
theorem L_X9_isRowOfStones_h2 {sc : Nat × (Nat → Int32)} {o : Int} {σ : Mem} : ∀ (n : Nat) {v0 v1 v2 v3 : Int}, f_X9_isRowOfStones_h2 n v0 v1 v2 v3 σ = some o → E sc (Fm Sh (some (0, o)) Sh σ) mt_X9_isRowOfStones 3 Sh Sh 2 [(2, v0), (0, v1), (0, v2), (0, v3)] [] Sh σ := by
  intro n
  induction n with
  | zero => intro v0 v1 v2 v3 h; cases h
  | succ n ih => intro v0 v1 v2 v3 h; exact L_X9_isRowOfStones_b2 (@ih) h
noncomputable def f_X9_isRowOfStones_b0 (v0 v1 v2 : Int) (σ : Mem) : Option (Int) :=
  f_X9_isRowOfStones_h2 FU v0 v1 v2 0 σ
theorem L_X9_isRowOfStones_b0 {sc : Nat × (Nat → Int32)} {o : Int} {σ : Mem} {v0 v1 v2 : Int} (h : f_X9_isRowOfStones_b0 v0 v1 v2 σ = some o) : E sc (Fm Sh (some (0, o)) Sh σ) mt_X9_isRowOfStones 3 Sh Sh 0 [(2, v0), (0, v1), (0, v2), (9, 0)] [] Sh σ := by
  unfold f_X9_isRowOfStones_b0 at h
  refine E_iconst d_X9_isRowOfStones_0 (c32 rfl) ?_
  refine E_istore_n d_X9_isRowOfStones_1 (ls' := [(2, v0), (0, v1), (0, v2), (0, 0)]) ⟨by decide, rfl⟩ ?_
  exact (L_X9_isRowOfStones_h2 FU h)
noncomputable def f_X9_isRowOfStones (v0 v1 v2 : Int) (σ : Mem) : Option (Int) := if isO Sh 9 v0 = true then f_X9_isRowOfStones_b0 v0 v1 v2 σ else none
theorem L_X9_isRowOfStones {o : Int} {v0 v1 v2 : Int} {σ : Mem} (h : f_X9_isRowOfStones v0 v1 v2 σ = some o) : (isO Sh 9 v0 = true ∧ Cn mt_X9_isRowOfStones 3 [(2, v0), (0, v1), (0, v2)] Sh σ (some (0, o)) Sh σ) := ⟨(ite_ok h).1, Cn_of mk_X9_isRowOfStones.1.2.2.1 (Nat.le_of_ble_eq_true rfl) (fun sc => L_X9_isRowOfStones_b0 (ite_ok h).2)⟩
theorem d_X9_walkTo_0 : decode mt_X9_walkTo.2.1 0 = .ok (.aload_n 0, 1) := by decide +kernel
theorem d_X9_walkTo_1 : decode mt_X9_walkTo.2.1 1 = .ok (.getfield 42, 3) := by decide +kernel
theorem d_X9_walkTo_4 : decode mt_X9_walkTo.2.1 4 = .ok (.ifCond .ne 6, 3) := by decide +kernel
theorem d_X9_walkTo_7 : decode mt_X9_walkTo.2.1 7 = .ok (.bipush 10, 2) := by decide +kernel
theorem d_X9_walkTo_9 : decode mt_X9_walkTo.2.1 9 = .ok (.ireturn, 1) := by decide +kernel
theorem d_X9_walkTo_10 : decode mt_X9_walkTo.2.1 10 = .ok (.iload_n 2, 1) := by decide +kernel
theorem d_X9_walkTo_11 : decode mt_X9_walkTo.2.1 11 = .ok (.iload_n 1, 1) := by decide +kernel
theorem d_X9_walkTo_12 : decode mt_X9_walkTo.2.1 12 = .ok (.isub, 1) := by decide +kernel
theorem d_X9_walkTo_13 : decode mt_X9_walkTo.2.1 13 = .ok (.aload_n 0, 1) := by decide +kernel
theorem d_X9_walkTo_14 : decode mt_X9_walkTo.2.1 14 = .ok (.getfield 42, 3) := by decide +kernel
theorem d_X9_walkTo_17 : decode mt_X9_walkTo.2.1 17 = .ok (.invokestatic 125, 3) := by decide +kernel
theorem d_X9_walkTo_20 : decode mt_X9_walkTo.2.1 20 = .ok (.istore_n 3, 1) := by decide +kernel
theorem d_X9_walkTo_21 : decode mt_X9_walkTo.2.1 21 = .ok (.iload_n 1, 1) := by decide +kernel
theorem d_X9_walkTo_22 : decode mt_X9_walkTo.2.1 22 = .ok (.iload_n 2, 1) := by decide +kernel
theorem d_X9_walkTo_23 : decode mt_X9_walkTo.2.1 23 = .ok (.isub, 1) := by decide +kernel
theorem d_X9_walkTo_24 : decode mt_X9_walkTo.2.1 24 = .ok (.aload_n 0, 1) := by decide +kernel
theorem d_X9_walkTo_25 : decode mt_X9_walkTo.2.1 25 = .ok (.getfield 42, 3) := by decide +kernel
theorem d_X9_walkTo_28 : decode mt_X9_walkTo.2.1 28 = .ok (.invokestatic 125, 3) := by decide +kernel
theorem d_X9_walkTo_31 : decode mt_X9_walkTo.2.1 31 = .ok (.istore 4, 2) := by decide +kernel
theorem d_X9_walkTo_33 : decode mt_X9_walkTo.2.1 33 = .ok (.aload_n 0, 1) := by decide +kernel
theorem d_X9_walkTo_34 : decode mt_X9_walkTo.2.1 34 = .ok (.iload_n 1, 1) := by decide +kernel
theorem d_X9_walkTo_35 : decode mt_X9_walkTo.2.1 35 = .ok (.iload_n 3, 1) := by decide +kernel
theorem d_X9_walkTo_36 : decode mt_X9_walkTo.2.1 36 = .ok (.invokevirtual 128, 3) := by decide +kernel
theorem d_X9_walkTo_39 : decode mt_X9_walkTo.2.1 39 = .ok (.istore 5, 2) := by decide +kernel
theorem d_X9_walkTo_41 : decode mt_X9_walkTo.2.1 41 = .ok (.aload_n 0, 1) := by decide +kernel
theorem d_X9_walkTo_42 : decode mt_X9_walkTo.2.1 42 = .ok (.iload_n 2, 1) := by decide +kernel
theorem d_X9_walkTo_43 : decode mt_X9_walkTo.2.1 43 = .ok (.iload 4, 2) := by decide +kernel
theorem d_X9_walkTo_45 : decode mt_X9_walkTo.2.1 45 = .ok (.invokevirtual 128, 3) := by decide +kernel
theorem d_X9_walkTo_48 : decode mt_X9_walkTo.2.1 48 = .ok (.istore 6, 2) := by decide +kernel
theorem d_X9_walkTo_50 : decode mt_X9_walkTo.2.1 50 = .ok (.iload 5, 2) := by decide +kernel
theorem d_X9_walkTo_52 : decode mt_X9_walkTo.2.1 52 = .ok (.ifCond .eq 16, 3) := by decide +kernel
theorem d_X9_walkTo_55 : decode mt_X9_walkTo.2.1 55 = .ok (.iload_n 3, 1) := by decide +kernel
theorem d_X9_walkTo_56 : decode mt_X9_walkTo.2.1 56 = .ok (.iload 4, 2) := by decide +kernel
theorem d_X9_walkTo_58 : decode mt_X9_walkTo.2.1 58 = .ok (.if_icmp .le 8, 3) := by decide +kernel
theorem d_X9_walkTo_61 : decode mt_X9_walkTo.2.1 61 = .ok (.iload 6, 2) := by decide +kernel
theorem d_X9_walkTo_63 : decode mt_X9_walkTo.2.1 63 = .ok (.ifCond .ne 5, 3) := by decide +kernel
theorem d_X9_walkTo_66 : decode mt_X9_walkTo.2.1 66 = .ok (.iload_n 3, 1) := by decide +kernel
theorem d_X9_walkTo_67 : decode mt_X9_walkTo.2.1 67 = .ok (.ireturn, 1) := by decide +kernel
theorem d_X9_walkTo_68 : decode mt_X9_walkTo.2.1 68 = .ok (.iload 6, 2) := by decide +kernel
theorem d_X9_walkTo_70 : decode mt_X9_walkTo.2.1 70 = .ok (.ifCond .eq 9, 3) := by decide +kernel
theorem d_X9_walkTo_73 : decode mt_X9_walkTo.2.1 73 = .ok (.iload 4, 2) := by decide +kernel
theorem d_X9_walkTo_75 : decode mt_X9_walkTo.2.1 75 = .ok (.ineg, 1) := by decide +kernel
theorem d_X9_walkTo_76 : decode mt_X9_walkTo.2.1 76 = .ok (.goto 5, 3) := by decide +kernel
theorem d_X9_walkTo_79 : decode mt_X9_walkTo.2.1 79 = .ok (.bipush 10, 2) := by decide +kernel
theorem d_X9_walkTo_81 : decode mt_X9_walkTo.2.1 81 = .ok (.ireturn, 1) := by decide +kernel
noncomputable def f_X9_walkTo_b68 (v4 v6 : Int) (σ : Mem) : Option (Int) :=
  if v6 = 0 then
    some (10)
  else
    some (w32 (-v4))
theorem L_X9_walkTo_b68 {sc : Nat × (Nat → Int32)} {o : Int} {σ : Mem} {v4 v6 : Int} (h : f_X9_walkTo_b68 v4 v6 σ = some o) : E sc (Fm Sh (some (0, o)) Sh σ) mt_X9_walkTo 4 Sh Sh 68 [(9, 0), (9, 0), (9, 0), (9, 0), (0, v4), (9, 0), (0, v6)] [] Sh σ := by
  unfold f_X9_walkTo_b68 at h
  refine E_iload d_X9_walkTo_68 rfl ?_
  refine E_if_eq (tgt := 79) d_X9_walkTo_70 (by decide) h (fun _ h => ?_) (fun _ h => ?_)
  · refine E_bipush d_X9_walkTo_79 (c8 rfl) ?_
    cases h
    exact E_iret d_X9_walkTo_81 rfl
  · refine E_iload d_X9_walkTo_73 rfl ?_
    refine E_ineg d_X9_walkTo_75 ?_
    refine E_goto (tgt := 81) d_X9_walkTo_76 (by decide) ?_
    cases h
    exact E_iret d_X9_walkTo_81 rfl
noncomputable def f_X9_walkTo_b0 (v0 v1 v2 : Int) (σ : Mem) : Option (Int) :=
  (gf Sh σ 9 v0 0).bind fun x1 =>
  if x1 = 0 then
    some (10)
  else
    (gf Sh σ 9 v0 0).bind fun x2 =>
    (nz x2).bind fun _ =>
    (gf Sh σ 9 v0 0).bind fun x4 =>
    (nz x4).bind fun _ =>
    (f_X9_isRowOfStones v0 v1 (ifm (w32 (v2 - v1)) x2) σ).bind fun r6 =>
    (f_X9_isRowOfStones v0 v2 (ifm (w32 (v1 - v2)) x4) σ).bind fun r8 =>
    if r6 = 0 then
      f_X9_walkTo_b68 (ifm (w32 (v1 - v2)) x4) r8 σ
    else
      if ifm (w32 (v2 - v1)) x2 ≤ ifm (w32 (v1 - v2)) x4 then
        some (ifm (w32 (v2 - v1)) x2)
      else
        if r8 = 0 then
          some (ifm (w32 (v2 - v1)) x2)
        else
          f_X9_walkTo_b68 (ifm (w32 (v1 - v2)) x4) r8 σ
theorem L_X9_walkTo_b0 {sc : Nat × (Nat → Int32)} {o : Int} {σ : Mem} {v0 v1 v2 : Int} (h : f_X9_walkTo_b0 v0 v1 v2 σ = some o) : E sc (Fm Sh (some (0, o)) Sh σ) mt_X9_walkTo 4 Sh Sh 0 [(2, v0), (0, v1), (0, v2), (9, 0), (9, 0), (9, 0), (9, 0)] [] Sh σ := by
  unfold f_X9_walkTo_b0 at h
  refine E_aload_n d_X9_walkTo_0 rfl (by decide) ?_
  refine E_get d_X9_walkTo_1 okX9 fl_X9_42 ⟨by decide, rfl⟩ h (fun x1 h => ?_)
  refine E_if_ne (tgt := 10) d_X9_walkTo_4 (by decide) h (fun _ h => ?_) (fun _ h => ?_)
  · refine E_bipush d_X9_walkTo_7 (c8 rfl) ?_
    cases h
    exact E_iret d_X9_walkTo_9 rfl
  · refine E_iload_n d_X9_walkTo_10 rfl ?_
    refine E_iload_n d_X9_walkTo_11 rfl ?_
    refine E_isub d_X9_walkTo_12 ?_
    refine E_aload_n d_X9_walkTo_13 rfl (by decide) ?_
    refine E_get d_X9_walkTo_14 okX9 fl_X9_42 ⟨by decide, rfl⟩ h (fun x2 h => ?_)
    refine bd_nz h (fun q3 h => ?_)
    refine E_ifm d_X9_walkTo_17 nl_X9_125 (by omega) (Nat.le_of_ble_eq_true rfl) q3 ?_
    refine E_istore_n d_X9_walkTo_20 (ls' := [(2, v0), (0, v1), (0, v2), (0, ifm (w32 (v2 - v1)) x2), (9, 0), (9, 0), (9, 0)]) ⟨by decide, rfl⟩ ?_
    refine E_iload_n d_X9_walkTo_21 rfl ?_
    refine E_iload_n d_X9_walkTo_22 rfl ?_
    refine E_isub d_X9_walkTo_23 ?_
    refine E_aload_n d_X9_walkTo_24 rfl (by decide) ?_
    refine E_get d_X9_walkTo_25 okX9 fl_X9_42 ⟨by decide, rfl⟩ h (fun x4 h => ?_)
    refine bd_nz h (fun q5 h => ?_)
    refine E_ifm d_X9_walkTo_28 nl_X9_125 (by omega) (Nat.le_of_ble_eq_true rfl) q5 ?_
    refine E_istore d_X9_walkTo_31 (ls' := [(2, v0), (0, v1), (0, v2), (0, ifm (w32 (v2 - v1)) x2), (0, ifm (w32 (v1 - v2)) x4), (9, 0), (9, 0)]) ⟨by decide, rfl⟩ ?_
    refine E_aload_n d_X9_walkTo_33 rfl (by decide) ?_
    refine E_iload_n d_X9_walkTo_34 rfl ?_
    refine E_iload_n d_X9_walkTo_35 rfl ?_
    refine bd h (fun r6 q7 h => ?_)
    refine E_cV (as := [(0, v1), (0, ifm (w32 (v2 - v1)) x2)]) (st := []) (a := v0) d_X9_walkTo_36 mk_X9_isRowOfStones nl_X9_128 (by omega) ⟨rfl, rfl, Nat.le_of_ble_eq_true rfl⟩ okX9 rfl (L_X9_isRowOfStones q7) ?_
    refine E_istore d_X9_walkTo_39 (ls' := [(2, v0), (0, v1), (0, v2), (0, ifm (w32 (v2 - v1)) x2), (0, ifm (w32 (v1 - v2)) x4), (0, r6), (9, 0)]) ⟨by decide, rfl⟩ ?_
    refine E_aload_n d_X9_walkTo_41 rfl (by decide) ?_
    refine E_iload_n d_X9_walkTo_42 rfl ?_
    refine E_iload d_X9_walkTo_43 rfl ?_
    refine bd h (fun r8 q9 h => ?_)
    refine E_cV (as := [(0, v2), (0, ifm (w32 (v1 - v2)) x4)]) (st := []) (a := v0) d_X9_walkTo_45 mk_X9_isRowOfStones nl_X9_128 (by omega) ⟨rfl, rfl, Nat.le_of_ble_eq_true rfl⟩ okX9 rfl (L_X9_isRowOfStones q9) ?_
    refine E_istore d_X9_walkTo_48 (ls' := [(2, v0), (0, v1), (0, v2), (0, ifm (w32 (v2 - v1)) x2), (0, ifm (w32 (v1 - v2)) x4), (0, r6), (0, r8)]) ⟨by decide, rfl⟩ ?_
    refine E_iload d_X9_walkTo_50 rfl ?_
    refine E_if_eq (tgt := 68) d_X9_walkTo_52 (by decide) h (fun _ h => ?_) (fun _ h => ?_)
    · exact E_weak (ls' := [(9, 0), (9, 0), (9, 0), (9, 0), (0, ifm (w32 (v1 - v2)) x4), (9, 0), (0, r8)]) ⟨Or.inl rfl, Or.inl rfl, Or.inl rfl, Or.inl rfl, Or.inr rfl, Or.inl rfl, Or.inr rfl, trivial⟩ (L_X9_walkTo_b68 h)
    · refine E_iload_n d_X9_walkTo_55 rfl ?_
      refine E_iload d_X9_walkTo_56 rfl ?_
      refine E_icmp_le (tgt := 66) d_X9_walkTo_58 (by decide) h (fun _ h => ?_) (fun _ h => ?_)
      · refine E_iload_n d_X9_walkTo_66 rfl ?_
        cases h
        exact E_iret d_X9_walkTo_67 rfl
      · refine E_iload d_X9_walkTo_61 rfl ?_
        refine E_if_ne (tgt := 68) d_X9_walkTo_63 (by decide) h (fun _ h => ?_) (fun _ h => ?_)
        · refine E_iload_n d_X9_walkTo_66 rfl ?_
          cases h
          exact E_iret d_X9_walkTo_67 rfl
        · exact E_weak (ls' := [(9, 0), (9, 0), (9, 0), (9, 0), (0, ifm (w32 (v1 - v2)) x4), (9, 0), (0, r8)]) ⟨Or.inl rfl, Or.inl rfl, Or.inl rfl, Or.inl rfl, Or.inr rfl, Or.inl rfl, Or.inr rfl, trivial⟩ (L_X9_walkTo_b68 h)
noncomputable def f_X9_walkTo (v0 v1 v2 : Int) (σ : Mem) : Option (Int) := if isO Sh 9 v0 = true then f_X9_walkTo_b0 v0 v1 v2 σ else none
theorem L_X9_walkTo {o : Int} {v0 v1 v2 : Int} {σ : Mem} (h : f_X9_walkTo v0 v1 v2 σ = some o) : (isO Sh 9 v0 = true ∧ Cn mt_X9_walkTo 4 [(2, v0), (0, v1), (0, v2)] Sh σ (some (0, o)) Sh σ) := ⟨(ite_ok h).1, Cn_of mk_X9_walkTo.1.2.2.1 (Nat.le_of_ble_eq_true rfl) (fun sc => L_X9_walkTo_b0 (ite_ok h).2)⟩
