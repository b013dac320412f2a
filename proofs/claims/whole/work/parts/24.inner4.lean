theorem d_X9_longestRow_0 : decode mt_X9_longestRow.2.1 0 = .ok (.iconst 0, 1) := by decide +kernel
theorem d_X9_longestRow_1 : decode mt_X9_longestRow.2.1 1 = .ok (.istore_n 1, 1) := by decide +kernel
theorem d_X9_longestRow_2 : decode mt_X9_longestRow.2.1 2 = .ok (.iconst 0, 1) := by decide +kernel
theorem d_X9_longestRow_3 : decode mt_X9_longestRow.2.1 3 = .ok (.istore_n 2, 1) := by decide +kernel
theorem d_X9_longestRow_4 : decode mt_X9_longestRow.2.1 4 = .ok (.iconst 0, 1) := by decide +kernel
theorem d_X9_longestRow_5 : decode mt_X9_longestRow.2.1 5 = .ok (.istore_n 3, 1) := by decide +kernel
theorem d_X9_longestRow_6 : decode mt_X9_longestRow.2.1 6 = .ok (.iload_n 3, 1) := by decide +kernel
theorem d_X9_longestRow_7 : decode mt_X9_longestRow.2.1 7 = .ok (.iconst 2, 1) := by decide +kernel
theorem d_X9_longestRow_8 : decode mt_X9_longestRow.2.1 8 = .ok (.aload_n 0, 1) := by decide +kernel
theorem d_X9_longestRow_9 : decode mt_X9_longestRow.2.1 9 = .ok (.getfield 42, 3) := by decide +kernel
theorem d_X9_longestRow_12 : decode mt_X9_longestRow.2.1 12 = .ok (.imul, 1) := by decide +kernel
theorem d_X9_longestRow_13 : decode mt_X9_longestRow.2.1 13 = .ok (.if_icmp .ge 37, 3) := by decide +kernel
theorem d_X9_longestRow_16 : decode mt_X9_longestRow.2.1 16 = .ok (.aload_n 0, 1) := by decide +kernel
theorem d_X9_longestRow_17 : decode mt_X9_longestRow.2.1 17 = .ok (.aload_n 0, 1) := by decide +kernel
theorem d_X9_longestRow_18 : decode mt_X9_longestRow.2.1 18 = .ok (.iconst 0, 1) := by decide +kernel
theorem d_X9_longestRow_19 : decode mt_X9_longestRow.2.1 19 = .ok (.iload_n 3, 1) := by decide +kernel
theorem d_X9_longestRow_20 : decode mt_X9_longestRow.2.1 20 = .ok (.invokevirtual 132, 3) := by decide +kernel
theorem d_X9_longestRow_23 : decode mt_X9_longestRow.2.1 23 = .ok (.i2l, 1) := by decide +kernel
theorem d_X9_longestRow_24 : decode mt_X9_longestRow.2.1 24 = .ok (.invokevirtual 87, 3) := by decide +kernel
theorem d_X9_longestRow_27 : decode mt_X9_longestRow.2.1 27 = .ok (.ifCond .eq 9, 3) := by decide +kernel
theorem d_X9_longestRow_30 : decode mt_X9_longestRow.2.1 30 = .ok (.iload_n 2, 1) := by decide +kernel
theorem d_X9_longestRow_31 : decode mt_X9_longestRow.2.1 31 = .ok (.iconst 1, 1) := by decide +kernel
theorem d_X9_longestRow_32 : decode mt_X9_longestRow.2.1 32 = .ok (.iadd, 1) := by decide +kernel
theorem d_X9_longestRow_33 : decode mt_X9_longestRow.2.1 33 = .ok (.goto 4, 3) := by decide +kernel
theorem d_X9_longestRow_36 : decode mt_X9_longestRow.2.1 36 = .ok (.iconst 0, 1) := by decide +kernel
theorem d_X9_longestRow_37 : decode mt_X9_longestRow.2.1 37 = .ok (.istore_n 2, 1) := by decide +kernel
theorem d_X9_longestRow_38 : decode mt_X9_longestRow.2.1 38 = .ok (.iload_n 1, 1) := by decide +kernel
theorem d_X9_longestRow_39 : decode mt_X9_longestRow.2.1 39 = .ok (.iload_n 2, 1) := by decide +kernel
theorem d_X9_longestRow_40 : decode mt_X9_longestRow.2.1 40 = .ok (.invokestatic 135, 3) := by decide +kernel
theorem d_X9_longestRow_43 : decode mt_X9_longestRow.2.1 43 = .ok (.istore_n 1, 1) := by decide +kernel
theorem d_X9_longestRow_44 : decode mt_X9_longestRow.2.1 44 = .ok (.iinc 3 1, 3) := by decide +kernel
theorem d_X9_longestRow_47 : decode mt_X9_longestRow.2.1 47 = .ok (.goto (-41), 3) := by decide +kernel
theorem d_X9_longestRow_50 : decode mt_X9_longestRow.2.1 50 = .ok (.iload_n 1, 1) := by decide +kernel
theorem d_X9_longestRow_51 : decode mt_X9_longestRow.2.1 51 = .ok (.aload_n 0, 1) := by decide +kernel
theorem d_X9_longestRow_52 : decode mt_X9_longestRow.2.1 52 = .ok (.getfield 42, 3) := by decide +kernel
theorem d_X9_longestRow_55 : decode mt_X9_longestRow.2.1 55 = .ok (.invokestatic 91, 3) := by decide +kernel
theorem d_X9_longestRow_58 : decode mt_X9_longestRow.2.1 58 = .ok (.ireturn, 1) := by decide +kernel
noncomputable def f_X9_longestRow_b37 (k6 : (Int → Int → Int → Int → Mem → Option (Int))) (v0 v1 v3 s0 : Int) (σ : Mem) : Option (Int) :=
  k6 v0 (imax v1 s0) s0 (w32 (v3 + 1)) σ
theorem L_X9_longestRow_b37 {sc : Nat × (Nat → Int32)} {o : Int} {σ : Mem} {k6 : (Int → Int → Int → Int → Mem → Option (Int))} (hk6 : ∀ {v0 v1 v2 v3 : Int}, k6 v0 v1 v2 v3 σ = some o → E sc (Fm Sh (some (0, o)) Sh σ) mt_X9_longestRow 3 Sh Sh 6 [(2, v0), (0, v1), (0, v2), (0, v3)] [] Sh σ) {v0 v1 v3 s0 : Int} (h : f_X9_longestRow_b37 k6 v0 v1 v3 s0 σ = some o) : E sc (Fm Sh (some (0, o)) Sh σ) mt_X9_longestRow 3 Sh Sh 37 [(2, v0), (0, v1), (9, 0), (0, v3)] [(0, s0)] Sh σ := by
  unfold f_X9_longestRow_b37 at h
  refine E_istore_n d_X9_longestRow_37 (ls' := [(2, v0), (0, v1), (0, s0), (0, v3)]) ⟨by decide, rfl⟩ ?_
  refine E_iload_n d_X9_longestRow_38 rfl ?_
  refine E_iload_n d_X9_longestRow_39 rfl ?_
  refine E_imax d_X9_longestRow_40 nl_X9_135 (by omega) (Nat.le_of_ble_eq_true rfl) ?_
  refine E_istore_n d_X9_longestRow_43 (ls' := [(2, v0), (0, imax v1 s0), (0, s0), (0, v3)]) ⟨by decide, rfl⟩ ?_
  refine E_iinc d_X9_longestRow_44 (ls' := [(2, v0), (0, imax v1 s0), (0, s0), (0, w32 (v3 + 1))]) rfl ⟨by decide, rfl⟩ ?_
  refine E_goto (tgt := 6) d_X9_longestRow_47 (by decide) ?_
  exact (hk6 h)
noncomputable def f_X9_longestRow_b6 (k6 : (Int → Int → Int → Int → Mem → Option (Int))) (v0 v1 v2 v3 : Int) (σ : Mem) : Option (Int) :=
  (gf Sh σ 9 v0 0).bind fun x1 =>
  if w32 (2 * x1) ≤ v3 then
    (gf Sh σ 9 v0 0).bind fun x2 =>
    some (imin v1 x2)
  else
    (f_X9_around v0 0 v3 σ).bind fun r3 =>
    (f_X9_isStone v0 r3 σ).bind fun r5 =>
    if r5 = 0 then
      f_X9_longestRow_b37 k6 v0 v1 v3 0 σ
    else
      f_X9_longestRow_b37 k6 v0 v1 v3 (w32 (v2 + 1)) σ
theorem L_X9_longestRow_b6 {sc : Nat × (Nat → Int32)} {o : Int} {σ : Mem} {k6 : (Int → Int → Int → Int → Mem → Option (Int))} (hk6 : ∀ {v0 v1 v2 v3 : Int}, k6 v0 v1 v2 v3 σ = some o → E sc (Fm Sh (some (0, o)) Sh σ) mt_X9_longestRow 3 Sh Sh 6 [(2, v0), (0, v1), (0, v2), (0, v3)] [] Sh σ) {v0 v1 v2 v3 : Int} (h : f_X9_longestRow_b6 k6 v0 v1 v2 v3 σ = some o) : E sc (Fm Sh (some (0, o)) Sh σ) mt_X9_longestRow 3 Sh Sh 6 [(2, v0), (0, v1), (0, v2), (0, v3)] [] Sh σ := by
  unfold f_X9_longestRow_b6 at h
  refine E_iload_n d_X9_longestRow_6 rfl ?_
  refine E_iconst d_X9_longestRow_7 (c32 rfl) ?_
  refine E_aload_n d_X9_longestRow_8 rfl (by decide) ?_
  refine E_get d_X9_longestRow_9 okX9 fl_X9_42 ⟨by decide, rfl⟩ h (fun x1 h => ?_)
  refine E_imul d_X9_longestRow_12 ?_
  refine E_icmp_ge (tgt := 50) d_X9_longestRow_13 (by decide) h (fun _ h => ?_) (fun _ h => ?_)
  · refine E_iload_n d_X9_longestRow_50 rfl ?_
    refine E_aload_n d_X9_longestRow_51 rfl (by decide) ?_
    refine E_get d_X9_longestRow_52 okX9 fl_X9_42 ⟨by decide, rfl⟩ h (fun x2 h => ?_)
    refine E_imin d_X9_longestRow_55 nl_X9_91 (by omega) (Nat.le_of_ble_eq_true rfl) ?_
    cases h
    exact E_iret d_X9_longestRow_58 rfl
  · refine E_aload_n d_X9_longestRow_16 rfl (by decide) ?_
    refine E_aload_n d_X9_longestRow_17 rfl (by decide) ?_
    refine E_iconst d_X9_longestRow_18 (c32 rfl) ?_
    refine E_iload_n d_X9_longestRow_19 rfl ?_
    refine bd h (fun r3 q4 h => ?_)
    refine E_cV (as := [(0, 0), (0, v3)]) (st := [(2, v0)]) (a := v0) d_X9_longestRow_20 mk_X9_around nl_X9_132 (by omega) ⟨rfl, rfl, Nat.le_of_ble_eq_true rfl⟩ okX9 rfl (L_X9_around q4) ?_
    refine E_i2l d_X9_longestRow_23 ?_
    refine bd h (fun r5 q6 h => ?_)
    refine E_cV (as := [(1, r3)]) (st := []) (a := v0) d_X9_longestRow_24 mk_X9_isStone nl_X9_87 (by omega) ⟨rfl, rfl, Nat.le_of_ble_eq_true rfl⟩ okX9 rfl (L_X9_isStone q6) ?_
    refine E_if_eq (tgt := 36) d_X9_longestRow_27 (by decide) h (fun _ h => ?_) (fun _ h => ?_)
    · refine E_iconst d_X9_longestRow_36 (c32 rfl) ?_
      exact E_weak (ls' := [(2, v0), (0, v1), (9, 0), (0, v3)]) ⟨Or.inr rfl, Or.inr rfl, Or.inl rfl, Or.inr rfl, trivial⟩ (L_X9_longestRow_b37 hk6 h)
    · refine E_iload_n d_X9_longestRow_30 rfl ?_
      refine E_iconst d_X9_longestRow_31 (c32 rfl) ?_
      refine E_iadd d_X9_longestRow_32 ?_
      refine E_goto (tgt := 37) d_X9_longestRow_33 (by decide) ?_
      exact E_weak (ls' := [(2, v0), (0, v1), (9, 0), (0, v3)]) ⟨Or.inr rfl, Or.inr rfl, Or.inl rfl, Or.inr rfl, trivial⟩ (L_X9_longestRow_b37 hk6 h)
noncomputable def f_X9_longestRow_h6 (n : Nat) : Int → Int → Int → Int → Mem → Option (Int) := Nat.rec (motive := fun _ => Int → Int → Int → Int → Mem → Option (Int)) (fun _ _ _ _ _ => none) (fun _ ih => f_X9_longestRow_b6 (ih)) n
theorem L_X9_longestRow_h6 {sc : Nat × (Nat → Int32)} {o : Int} {σ : Mem} : ∀ (n : Nat) {v0 v1 v2 v3 : Int}, f_X9_longestRow_h6 n v0 v1 v2 v3 σ = some o → E sc (Fm Sh (some (0, o)) Sh σ) mt_X9_longestRow 3 Sh Sh 6 [(2, v0), (0, v1), (0, v2), (0, v3)] [] Sh σ := by
  intro n
  induction n with
  | zero => intro v0 v1 v2 v3 h; cases h
  | succ n ih => intro v0 v1 v2 v3 h; exact L_X9_longestRow_b6 (@ih) h
noncomputable def f_X9_longestRow_b0 (v0 : Int) (σ : Mem) : Option (Int) :=
  f_X9_longestRow_h6 FU v0 0 0 0 σ
theorem L_X9_longestRow_b0 {sc : Nat × (Nat → Int32)} {o : Int} {σ : Mem} {v0 : Int} (h : f_X9_longestRow_b0 v0 σ = some o) : E sc (Fm Sh (some (0, o)) Sh σ) mt_X9_longestRow 3 Sh Sh 0 [(2, v0), (9, 0), (9, 0), (9, 0)] [] Sh σ := by
  unfold f_X9_longestRow_b0 at h
  refine E_iconst d_X9_longestRow_0 (c32 rfl) ?_
  refine E_istore_n d_X9_longestRow_1 (ls' := [(2, v0), (0, 0), (9, 0), (9, 0)]) ⟨by decide, rfl⟩ ?_
  refine E_iconst d_X9_longestRow_2 (c32 rfl) ?_
  refine E_istore_n d_X9_longestRow_3 (ls' := [(2, v0), (0, 0), (0, 0), (9, 0)]) ⟨by decide, rfl⟩ ?_
  refine E_iconst d_X9_longestRow_4 (c32 rfl) ?_
  refine E_istore_n d_X9_longestRow_5 (ls' := [(2, v0), (0, 0), (0, 0), (0, 0)]) ⟨by decide, rfl⟩ ?_
  exact (L_X9_longestRow_h6 FU h)
noncomputable def f_X9_longestRow (v0 : Int) (σ : Mem) : Option (Int) := if isO Sh 9 v0 = true then f_X9_longestRow_b0 v0 σ else none
theorem L_X9_longestRow {o : Int} {v0 : Int} {σ : Mem} (h : f_X9_longestRow v0 σ = some o) : (isO Sh 9 v0 = true ∧ Cn mt_X9_longestRow 3 [(2, v0)] Sh σ (some (0, o)) Sh σ) := ⟨(ite_ok h).1, Cn_of mk_X9_longestRow.1.2.2.1 (Nat.le_of_ble_eq_true rfl) (fun sc => L_X9_longestRow_b0 (ite_ok h).2)⟩
theorem d_X1_excess_0 : decode mt_X1_excess.2.1 0 = .ok (.aload_n 0, 1) := by decide +kernel
theorem d_X1_excess_1 : decode mt_X1_excess.2.1 1 = .ok (.getfield 15, 3) := by decide +kernel
theorem d_X1_excess_4 : decode mt_X1_excess.2.1 4 = .ok (.aload_n 0, 1) := by decide +kernel
theorem d_X1_excess_5 : decode mt_X1_excess.2.1 5 = .ok (.getfield 9, 3) := by decide +kernel
theorem d_X1_excess_8 : decode mt_X1_excess.2.1 8 = .ok (.iload_n 1, 1) := by decide +kernel
theorem d_X1_excess_9 : decode mt_X1_excess.2.1 9 = .ok (.aload_n 0, 1) := by decide +kernel
theorem d_X1_excess_10 : decode mt_X1_excess.2.1 10 = .ok (.getfield 19, 3) := by decide +kernel
theorem d_X1_excess_13 : decode mt_X1_excess.2.1 13 = .ok (.iconst 0, 1) := by decide +kernel
theorem d_X1_excess_14 : decode mt_X1_excess.2.1 14 = .ok (.invokevirtual 40, 3) := by decide +kernel
theorem d_X1_excess_17 : decode mt_X1_excess.2.1 17 = .ok (.isub, 1) := by decide +kernel
theorem d_X1_excess_18 : decode mt_X1_excess.2.1 18 = .ok (.ireturn, 1) := by decide +kernel
noncomputable def f_X1_excess_b0 (v0 v1 : Int) (σ : Mem) : Option (Int) :=
  (gf Sh σ 1 v0 1).bind fun x1 =>
  (gf Sh σ 1 v0 0).bind fun x2 =>
  (gf Sh σ 1 v0 2).bind fun x3 =>
  (f_X9_mercyFor x2 v1 x3 0 σ).bind fun r4 =>
  some (w32 (x1 - r4))
theorem L_X1_excess_b0 {sc : Nat × (Nat → Int32)} {o : Int} {σ : Mem} {v0 v1 : Int} (h : f_X1_excess_b0 v0 v1 σ = some o) : E sc (Fm Sh (some (0, o)) Sh σ) mt_X1_excess 3 Sh Sh 0 [(2, v0), (0, v1)] [] Sh σ := by
  unfold f_X1_excess_b0 at h
  refine E_aload_n d_X1_excess_0 rfl (by decide) ?_
  refine E_get d_X1_excess_1 okX1 fl_X1_15 ⟨by decide, rfl⟩ h (fun x1 h => ?_)
  refine E_aload_n d_X1_excess_4 rfl (by decide) ?_
  refine E_get d_X1_excess_5 okX1 fl_X1_9 ⟨by decide, rfl⟩ h (fun x2 h => ?_)
  refine E_iload_n d_X1_excess_8 rfl ?_
  refine E_aload_n d_X1_excess_9 rfl (by decide) ?_
  refine E_get d_X1_excess_10 okX1 fl_X1_19 ⟨by decide, rfl⟩ h (fun x3 h => ?_)
  refine E_iconst d_X1_excess_13 (c32 rfl) ?_
  refine bd h (fun r4 q5 h => ?_)
  refine E_cV (as := [(0, v1), (0, x3), (0, 0)]) (st := [(0, x1)]) (a := x2) d_X1_excess_14 mk_X9_mercyFor nl_X1_40 (by omega) ⟨rfl, rfl, Nat.le_of_ble_eq_true rfl⟩ okX9 rfl (L_X9_mercyFor q5) ?_
  refine E_isub d_X1_excess_17 ?_
  cases h
  exact E_iret d_X1_excess_18 rfl
noncomputable def f_X1_excess (v0 v1 : Int) (σ : Mem) : Option (Int) := if isO Sh 1 v0 = true then f_X1_excess_b0 v0 v1 σ else none
theorem L_X1_excess {o : Int} {v0 v1 : Int} {σ : Mem} (h : f_X1_excess v0 v1 σ = some o) : (isO Sh 1 v0 = true ∧ Cn mt_X1_excess 3 [(2, v0), (0, v1)] Sh σ (some (0, o)) Sh σ) := ⟨(ite_ok h).1, Cn_of mk_X1_excess.1.2.2.1 (Nat.le_of_ble_eq_true rfl) (fun sc => L_X1_excess_b0 (ite_ok h).2)⟩
theorem d_X1_canSway_0 : decode mt_X1_canSway.2.1 0 = .ok (.aload_n 0, 1) := by decide +kernel
theorem d_X1_canSway_1 : decode mt_X1_canSway.2.1 1 = .ok (.getfield 9, 3) := by decide +kernel
theorem d_X1_canSway_4 : decode mt_X1_canSway.2.1 4 = .ok (.iload_n 1, 1) := by decide +kernel
theorem d_X1_canSway_5 : decode mt_X1_canSway.2.1 5 = .ok (.i2l, 1) := by decide +kernel
theorem d_X1_canSway_6 : decode mt_X1_canSway.2.1 6 = .ok (.invokevirtual 44, 3) := by decide +kernel
theorem d_X1_canSway_9 : decode mt_X1_canSway.2.1 9 = .ok (.ifCond .eq 25, 3) := by decide +kernel
theorem d_X1_canSway_12 : decode mt_X1_canSway.2.1 12 = .ok (.aload_n 0, 1) := by decide +kernel
theorem d_X1_canSway_13 : decode mt_X1_canSway.2.1 13 = .ok (.iload_n 1, 1) := by decide +kernel
theorem d_X1_canSway_14 : decode mt_X1_canSway.2.1 14 = .ok (.invokevirtual 48, 3) := by decide +kernel
theorem d_X1_canSway_17 : decode mt_X1_canSway.2.1 17 = .ok (.ifCond .gt 17, 3) := by decide +kernel
theorem d_X1_canSway_20 : decode mt_X1_canSway.2.1 20 = .ok (.aload_n 0, 1) := by decide +kernel
theorem d_X1_canSway_21 : decode mt_X1_canSway.2.1 21 = .ok (.iload_n 1, 1) := by decide +kernel
theorem d_X1_canSway_22 : decode mt_X1_canSway.2.1 22 = .ok (.invokevirtual 48, 3) := by decide +kernel
theorem d_X1_canSway_25 : decode mt_X1_canSway.2.1 25 = .ok (.iconst 3, 1) := by decide +kernel
theorem d_X1_canSway_26 : decode mt_X1_canSway.2.1 26 = .ok (.iadd, 1) := by decide +kernel
theorem d_X1_canSway_27 : decode mt_X1_canSway.2.1 27 = .ok (.ifCond .le 7, 3) := by decide +kernel
theorem d_X1_canSway_30 : decode mt_X1_canSway.2.1 30 = .ok (.iconst 1, 1) := by decide +kernel
theorem d_X1_canSway_31 : decode mt_X1_canSway.2.1 31 = .ok (.goto 4, 3) := by decide +kernel
theorem d_X1_canSway_34 : decode mt_X1_canSway.2.1 34 = .ok (.iconst 0, 1) := by decide +kernel
theorem d_X1_canSway_35 : decode mt_X1_canSway.2.1 35 = .ok (.ireturn, 1) := by decide +kernel
noncomputable def f_X1_canSway_b0 (v0 v1 : Int) (σ : Mem) : Option (Int) :=
  (gf Sh σ 1 v0 0).bind fun x1 =>
  (f_X9_isStone x1 v1 σ).bind fun r2 =>
  if r2 = 0 then
    some (0)
  else
    (f_X1_excess v0 v1 σ).bind fun r4 =>
    if 0 < r4 then
      some (0)
    else
      (f_X1_excess v0 v1 σ).bind fun r6 =>
      if w32 (r6 + 3) ≤ 0 then
        some (0)
      else
        some (1)
theorem L_X1_canSway_b0 {sc : Nat × (Nat → Int32)} {o : Int} {σ : Mem} {v0 v1 : Int} (h : f_X1_canSway_b0 v0 v1 σ = some o) : E sc (Fm Sh (some (0, o)) Sh σ) mt_X1_canSway 4 Sh Sh 0 [(2, v0), (0, v1)] [] Sh σ := by
  unfold f_X1_canSway_b0 at h
  refine E_aload_n d_X1_canSway_0 rfl (by decide) ?_
  refine E_get d_X1_canSway_1 okX1 fl_X1_9 ⟨by decide, rfl⟩ h (fun x1 h => ?_)
  refine E_iload_n d_X1_canSway_4 rfl ?_
  refine E_i2l d_X1_canSway_5 ?_
  refine bd h (fun r2 q3 h => ?_)
  refine E_cV (as := [(1, v1)]) (st := []) (a := x1) d_X1_canSway_6 mk_X9_isStone nl_X1_44 (by omega) ⟨rfl, rfl, Nat.le_of_ble_eq_true rfl⟩ okX9 rfl (L_X9_isStone q3) ?_
  refine E_if_eq (tgt := 34) d_X1_canSway_9 (by decide) h (fun _ h => ?_) (fun _ h => ?_)
  · refine E_iconst d_X1_canSway_34 (c32 rfl) ?_
    cases h
    exact E_zret d_X1_canSway_35 rfl (Or.inl rfl)
  · refine E_aload_n d_X1_canSway_12 rfl (by decide) ?_
    refine E_iload_n d_X1_canSway_13 rfl ?_
    refine bd h (fun r4 q5 h => ?_)
    refine E_cV (as := [(0, v1)]) (st := []) (a := v0) d_X1_canSway_14 mk_X1_excess nl_X1_48 (by omega) ⟨rfl, rfl, Nat.le_of_ble_eq_true rfl⟩ okX1 rfl (L_X1_excess q5) ?_
    refine E_if_gt (tgt := 34) d_X1_canSway_17 (by decide) h (fun _ h => ?_) (fun _ h => ?_)
    · refine E_iconst d_X1_canSway_34 (c32 rfl) ?_
      cases h
      exact E_zret d_X1_canSway_35 rfl (Or.inl rfl)
    · refine E_aload_n d_X1_canSway_20 rfl (by decide) ?_
      refine E_iload_n d_X1_canSway_21 rfl ?_
      refine bd h (fun r6 q7 h => ?_)
      refine E_cV (as := [(0, v1)]) (st := []) (a := v0) d_X1_canSway_22 mk_X1_excess nl_X1_48 (by omega) ⟨rfl, rfl, Nat.le_of_ble_eq_true rfl⟩ okX1 rfl (L_X1_excess q7) ?_
      refine E_iconst d_X1_canSway_25 (c32 rfl) ?_
      refine E_iadd d_X1_canSway_26 ?_
      refine E_if_le (tgt := 34) d_X1_canSway_27 (by decide) h (fun _ h => ?_) (fun _ h => ?_)
      · refine E_iconst d_X1_canSway_34 (c32 rfl) ?_
        cases h
        exact E_zret d_X1_canSway_35 rfl (Or.inl rfl)
      · refine E_iconst d_X1_canSway_30 (c32 rfl) ?_
        refine E_goto (tgt := 35) d_X1_canSway_31 (by decide) ?_
        cases h
        exact E_zret d_X1_canSway_35 rfl (Or.inr rfl)
noncomputable def f_X1_canSway (v0 v1 : Int) (σ : Mem) : Option (Int) := if isO Sh 1 v0 = true then f_X1_canSway_b0 v0 v1 σ else none
theorem L_X1_canSway {o : Int} {v0 v1 : Int} {σ : Mem} (h : f_X1_canSway v0 v1 σ = some o) : (isO Sh 1 v0 = true ∧ Cn mt_X1_canSway 4 [(2, v0), (0, v1)] Sh σ (some (0, o)) Sh σ) := ⟨(ite_ok h).1, Cn_of mk_X1_canSway.1.2.2.1 (Nat.le_of_ble_eq_true rfl) (fun sc => L_X1_canSway_b0 (ite_ok h).2)⟩
theorem d_X1_canKeep_0 : decode mt_X1_canKeep.2.1 0 = .ok (.aload_n 0, 1) := by decide +kernel
theorem d_X1_canKeep_1 : decode mt_X1_canKeep.2.1 1 = .ok (.getfield 9, 3) := by decide +kernel
theorem d_X1_canKeep_4 : decode mt_X1_canKeep.2.1 4 = .ok (.iload_n 1, 1) := by decide +kernel
theorem d_X1_canKeep_5 : decode mt_X1_canKeep.2.1 5 = .ok (.i2l, 1) := by decide +kernel
theorem d_X1_canKeep_6 : decode mt_X1_canKeep.2.1 6 = .ok (.invokevirtual 44, 3) := by decide +kernel
theorem d_X1_canKeep_9 : decode mt_X1_canKeep.2.1 9 = .ok (.ifCond .eq 25, 3) := by decide +kernel
theorem d_X1_canKeep_12 : decode mt_X1_canKeep.2.1 12 = .ok (.aload_n 0, 1) := by decide +kernel
theorem d_X1_canKeep_13 : decode mt_X1_canKeep.2.1 13 = .ok (.iload_n 1, 1) := by decide +kernel
theorem d_X1_canKeep_14 : decode mt_X1_canKeep.2.1 14 = .ok (.invokevirtual 48, 3) := by decide +kernel
theorem d_X1_canKeep_17 : decode mt_X1_canKeep.2.1 17 = .ok (.ifCond .le 17, 3) := by decide +kernel
theorem d_X1_canKeep_20 : decode mt_X1_canKeep.2.1 20 = .ok (.aload_n 0, 1) := by decide +kernel
theorem d_X1_canKeep_21 : decode mt_X1_canKeep.2.1 21 = .ok (.iload_n 1, 1) := by decide +kernel
theorem d_X1_canKeep_22 : decode mt_X1_canKeep.2.1 22 = .ok (.invokevirtual 48, 3) := by decide +kernel
theorem d_X1_canKeep_25 : decode mt_X1_canKeep.2.1 25 = .ok (.iconst 3, 1) := by decide +kernel
theorem d_X1_canKeep_26 : decode mt_X1_canKeep.2.1 26 = .ok (.isub, 1) := by decide +kernel
theorem d_X1_canKeep_27 : decode mt_X1_canKeep.2.1 27 = .ok (.ifCond .gt 7, 3) := by decide +kernel
theorem d_X1_canKeep_30 : decode mt_X1_canKeep.2.1 30 = .ok (.iconst 1, 1) := by decide +kernel
theorem d_X1_canKeep_31 : decode mt_X1_canKeep.2.1 31 = .ok (.goto 4, 3) := by decide +kernel
theorem d_X1_canKeep_34 : decode mt_X1_canKeep.2.1 34 = .ok (.iconst 0, 1) := by decide +kernel
theorem d_X1_canKeep_35 : decode mt_X1_canKeep.2.1 35 = .ok (.ireturn, 1) := by decide +kernel
noncomputable def f_X1_canKeep_b0 (v0 v1 : Int) (σ : Mem) : Option (Int) :=
  (gf Sh σ 1 v0 0).bind fun x1 =>
  (f_X9_isStone x1 v1 σ).bind fun r2 =>
  if r2 = 0 then
    some (0)
  else
    (f_X1_excess v0 v1 σ).bind fun r4 =>
    if r4 ≤ 0 then
      some (0)
    else
      (f_X1_excess v0 v1 σ).bind fun r6 =>
      if 0 < w32 (r6 - 3) then
        some (0)
      else
        some (1)
theorem L_X1_canKeep_b0 {sc : Nat × (Nat → Int32)} {o : Int} {σ : Mem} {v0 v1 : Int} (h : f_X1_canKeep_b0 v0 v1 σ = some o) : E sc (Fm Sh (some (0, o)) Sh σ) mt_X1_canKeep 4 Sh Sh 0 [(2, v0), (0, v1)] [] Sh σ := by
  unfold f_X1_canKeep_b0 at h
  refine E_aload_n d_X1_canKeep_0 rfl (by decide) ?_
  refine E_get d_X1_canKeep_1 okX1 fl_X1_9 ⟨by decide, rfl⟩ h (fun x1 h => ?_)
  refine E_iload_n d_X1_canKeep_4 rfl ?_
  refine E_i2l d_X1_canKeep_5 ?_
  refine bd h (fun r2 q3 h => ?_)
  refine E_cV (as := [(1, v1)]) (st := []) (a := x1) d_X1_canKeep_6 mk_X9_isStone nl_X1_44 (by omega) ⟨rfl, rfl, Nat.le_of_ble_eq_true rfl⟩ okX9 rfl (L_X9_isStone q3) ?_
  refine E_if_eq (tgt := 34) d_X1_canKeep_9 (by decide) h (fun _ h => ?_) (fun _ h => ?_)
  · refine E_iconst d_X1_canKeep_34 (c32 rfl) ?_
    cases h
    exact E_zret d_X1_canKeep_35 rfl (Or.inl rfl)
  · refine E_aload_n d_X1_canKeep_12 rfl (by decide) ?_
    refine E_iload_n d_X1_canKeep_13 rfl ?_
    refine bd h (fun r4 q5 h => ?_)
    refine E_cV (as := [(0, v1)]) (st := []) (a := v0) d_X1_canKeep_14 mk_X1_excess nl_X1_48 (by omega) ⟨rfl, rfl, Nat.le_of_ble_eq_true rfl⟩ okX1 rfl (L_X1_excess q5) ?_
    refine E_if_le (tgt := 34) d_X1_canKeep_17 (by decide) h (fun _ h => ?_) (fun _ h => ?_)
    · refine E_iconst d_X1_canKeep_34 (c32 rfl) ?_
      cases h
      exact E_zret d_X1_canKeep_35 rfl (Or.inl rfl)
    · refine E_aload_n d_X1_canKeep_20 rfl (by decide) ?_
      refine E_iload_n d_X1_canKeep_21 rfl ?_
      refine bd h (fun r6 q7 h => ?_)
      refine E_cV (as := [(0, v1)]) (st := []) (a := v0) d_X1_canKeep_22 mk_X1_excess nl_X1_48 (by omega) ⟨rfl, rfl, Nat.le_of_ble_eq_true rfl⟩ okX1 rfl (L_X1_excess q7) ?_
      refine E_iconst d_X1_canKeep_25 (c32 rfl) ?_
      refine E_isub d_X1_canKeep_26 ?_
      refine E_if_gt (tgt := 34) d_X1_canKeep_27 (by decide) h (fun _ h => ?_) (fun _ h => ?_)
      · refine E_iconst d_X1_canKeep_34 (c32 rfl) ?_
        cases h
        exact E_zret d_X1_canKeep_35 rfl (Or.inl rfl)
      · refine E_iconst d_X1_canKeep_30 (c32 rfl) ?_
        refine E_goto (tgt := 35) d_X1_canKeep_31 (by decide) ?_
        cases h
        exact E_zret d_X1_canKeep_35 rfl (Or.inr rfl)
noncomputable def f_X1_canKeep (v0 v1 : Int) (σ : Mem) : Option (Int) := if isO Sh 1 v0 = true then f_X1_canKeep_b0 v0 v1 σ else none
theorem L_X1_canKeep {o : Int} {v0 v1 : Int} {σ : Mem} (h : f_X1_canKeep v0 v1 σ = some o) : (isO Sh 1 v0 = true ∧ Cn mt_X1_canKeep 4 [(2, v0), (0, v1)] Sh σ (some (0, o)) Sh σ) := ⟨(ite_ok h).1, Cn_of mk_X1_canKeep.1.2.2.1 (Nat.le_of_ble_eq_true rfl) (fun sc => L_X1_canKeep_b0 (ite_ok h).2)⟩
theorem d_X1_begin_0 : decode mt_X1_begin.2.1 0 = .ok (.aload_n 0, 1) := by decide +kernel
theorem d_X1_begin_1 : decode mt_X1_begin.2.1 1 = .ok (.iload_n 1, 1) := by decide +kernel
theorem d_X1_begin_2 : decode mt_X1_begin.2.1 2 = .ok (.putfield 15, 3) := by decide +kernel
theorem d_X1_begin_5 : decode mt_X1_begin.2.1 5 = .ok (.aload_n 0, 1) := by decide +kernel
theorem d_X1_begin_6 : decode mt_X1_begin.2.1 6 = .ok (.iload_n 2, 1) := by decide +kernel
theorem d_X1_begin_7 : decode mt_X1_begin.2.1 7 = .ok (.putfield 19, 3) := by decide +kernel
theorem d_X1_begin_10 : decode mt_X1_begin.2.1 10 = .ok (.aload_n 0, 1) := by decide +kernel
theorem d_X1_begin_11 : decode mt_X1_begin.2.1 11 = .ok (.iconst 0, 1) := by decide +kernel
theorem d_X1_begin_12 : decode mt_X1_begin.2.1 12 = .ok (.putfield 22, 3) := by decide +kernel
theorem d_X1_begin_15 : decode mt_X1_begin.2.1 15 = .ok (.aload_n 0, 1) := by decide +kernel
theorem d_X1_begin_16 : decode mt_X1_begin.2.1 16 = .ok (.iconst 0, 1) := by decide +kernel
theorem d_X1_begin_17 : decode mt_X1_begin.2.1 17 = .ok (.putfield 25, 3) := by decide +kernel
theorem d_X1_begin_20 : decode mt_X1_begin.2.1 20 = .ok (.iconst 0, 1) := by decide +kernel
theorem d_X1_begin_21 : decode mt_X1_begin.2.1 21 = .ok (.istore_n 3, 1) := by decide +kernel
theorem d_X1_begin_22 : decode mt_X1_begin.2.1 22 = .ok (.iload_n 3, 1) := by decide +kernel
theorem d_X1_begin_23 : decode mt_X1_begin.2.1 23 = .ok (.aload_n 0, 1) := by decide +kernel
theorem d_X1_begin_24 : decode mt_X1_begin.2.1 24 = .ok (.getfield 9, 3) := by decide +kernel
theorem d_X1_begin_27 : decode mt_X1_begin.2.1 27 = .ok (.getfield 28, 3) := by decide +kernel
theorem d_X1_begin_30 : decode mt_X1_begin.2.1 30 = .ok (.if_icmp .ge 48, 3) := by decide +kernel
theorem d_X1_begin_33 : decode mt_X1_begin.2.1 33 = .ok (.aload_n 0, 1) := by decide +kernel
theorem d_X1_begin_34 : decode mt_X1_begin.2.1 34 = .ok (.iload_n 3, 1) := by decide +kernel
theorem d_X1_begin_35 : decode mt_X1_begin.2.1 35 = .ok (.invokevirtual 33, 3) := by decide +kernel
theorem d_X1_begin_38 : decode mt_X1_begin.2.1 38 = .ok (.ifCond .eq 16, 3) := by decide +kernel
theorem d_X1_begin_41 : decode mt_X1_begin.2.1 41 = .ok (.aload_n 0, 1) := by decide +kernel
theorem d_X1_begin_42 : decode mt_X1_begin.2.1 42 = .ok (.dup, 1) := by decide +kernel
theorem d_X1_begin_43 : decode mt_X1_begin.2.1 43 = .ok (.getfield 22, 3) := by decide +kernel
theorem d_X1_begin_46 : decode mt_X1_begin.2.1 46 = .ok (.iconst 1, 1) := by decide +kernel
theorem d_X1_begin_47 : decode mt_X1_begin.2.1 47 = .ok (.iadd, 1) := by decide +kernel
theorem d_X1_begin_48 : decode mt_X1_begin.2.1 48 = .ok (.putfield 22, 3) := by decide +kernel
theorem d_X1_begin_51 : decode mt_X1_begin.2.1 51 = .ok (.goto 21, 3) := by decide +kernel
theorem d_X1_begin_54 : decode mt_X1_begin.2.1 54 = .ok (.aload_n 0, 1) := by decide +kernel
theorem d_X1_begin_55 : decode mt_X1_begin.2.1 55 = .ok (.iload_n 3, 1) := by decide +kernel
theorem d_X1_begin_56 : decode mt_X1_begin.2.1 56 = .ok (.invokevirtual 37, 3) := by decide +kernel
theorem d_X1_begin_59 : decode mt_X1_begin.2.1 59 = .ok (.ifCond .eq 13, 3) := by decide +kernel
theorem d_X1_begin_62 : decode mt_X1_begin.2.1 62 = .ok (.aload_n 0, 1) := by decide +kernel
theorem d_X1_begin_63 : decode mt_X1_begin.2.1 63 = .ok (.dup, 1) := by decide +kernel
theorem d_X1_begin_64 : decode mt_X1_begin.2.1 64 = .ok (.getfield 25, 3) := by decide +kernel
theorem d_X1_begin_67 : decode mt_X1_begin.2.1 67 = .ok (.iconst 1, 1) := by decide +kernel
theorem d_X1_begin_68 : decode mt_X1_begin.2.1 68 = .ok (.iadd, 1) := by decide +kernel
theorem d_X1_begin_69 : decode mt_X1_begin.2.1 69 = .ok (.putfield 25, 3) := by decide +kernel
theorem d_X1_begin_72 : decode mt_X1_begin.2.1 72 = .ok (.iinc 3 1, 3) := by decide +kernel
theorem d_X1_begin_75 : decode mt_X1_begin.2.1 75 = .ok (.goto (-53), 3) := by decide +kernel
theorem d_X1_begin_78 : decode mt_X1_begin.2.1 78 = .ok (.return_, 1) := by decide +kernel
noncomputable def f_X1_begin_b72 (k22 : (Int → Int → Mem → Option (Mem))) (v0 v3 : Int) (σ : Mem) : Option (Mem) :=
  k22 v0 (w32 (v3 + 1)) σ
theorem L_X1_begin_b72 {sc : Nat × (Nat → Int32)} {o : Mem} {k22 : (Int → Int → Mem → Option (Mem))} (hk22 : ∀ {v0 v3 : Int} {σ : Mem}, k22 v0 v3 σ = some o → E sc (Fm Sh none Sh o) mt_X1_begin 5 Sh Sh 22 [(2, v0), (9, 0), (9, 0), (0, v3)] [] Sh σ) {v0 v3 : Int} {σ : Mem} (h : f_X1_begin_b72 k22 v0 v3 σ = some o) : E sc (Fm Sh none Sh o) mt_X1_begin 5 Sh Sh 72 [(2, v0), (9, 0), (9, 0), (0, v3)] [] Sh σ := by
  unfold f_X1_begin_b72 at h
  refine E_iinc d_X1_begin_72 (ls' := [(2, v0), (9, 0), (9, 0), (0, w32 (v3 + 1))]) rfl ⟨by decide, rfl⟩ ?_
  refine E_goto (tgt := 22) d_X1_begin_75 (by decide) ?_
  exact (hk22 h)
noncomputable def f_X1_begin_b22 (k22 : (Int → Int → Mem → Option (Mem))) (v0 v3 : Int) (σ : Mem) : Option (Mem) :=
  (gf Sh σ 1 v0 0).bind fun x5 =>
  (gf Sh σ 9 x5 0).bind fun x6 =>
  if x6 ≤ v3 then
    some σ
  else
    (f_X1_canSway v0 v3 σ).bind fun r7 =>
    if r7 = 0 then
      (f_X1_canKeep v0 v3 σ).bind fun r9 =>
      if r9 = 0 then
        f_X1_begin_b72 k22 v0 v3 σ
      else
        (gf Sh σ 1 v0 4).bind fun x11 =>
        (pf Sh σ 1 v0 4 (w32 (x11 + 1))).bind fun σ12 =>
        f_X1_begin_b72 k22 v0 v3 σ12
    else
      (gf Sh σ 1 v0 3).bind fun x13 =>
      (pf Sh σ 1 v0 3 (w32 (x13 + 1))).bind fun σ14 =>
      f_X1_begin_b72 k22 v0 v3 σ14
theorem L_X1_begin_b22 {sc : Nat × (Nat → Int32)} {o : Mem} {k22 : (Int → Int → Mem → Option (Mem))} (hk22 : ∀ {v0 v3 : Int} {σ : Mem}, k22 v0 v3 σ = some o → E sc (Fm Sh none Sh o) mt_X1_begin 5 Sh Sh 22 [(2, v0), (9, 0), (9, 0), (0, v3)] [] Sh σ) {v0 v3 : Int} {σ : Mem} (h : f_X1_begin_b22 k22 v0 v3 σ = some o) : E sc (Fm Sh none Sh o) mt_X1_begin 5 Sh Sh 22 [(2, v0), (9, 0), (9, 0), (0, v3)] [] Sh σ := by
  unfold f_X1_begin_b22 at h
  refine E_iload_n d_X1_begin_22 rfl ?_
  refine E_aload_n d_X1_begin_23 rfl (by decide) ?_
  refine E_get d_X1_begin_24 okX1 fl_X1_9 ⟨by decide, rfl⟩ h (fun x5 h => ?_)
  refine E_get d_X1_begin_27 okX9 fl_X1_28 ⟨by decide, rfl⟩ h (fun x6 h => ?_)
  refine E_icmp_ge (tgt := 78) d_X1_begin_30 (by decide) h (fun _ h => ?_) (fun _ h => ?_)
  · cases h
    exact E_vret d_X1_begin_78 rfl
  · refine E_aload_n d_X1_begin_33 rfl (by decide) ?_
    refine E_iload_n d_X1_begin_34 rfl ?_
    refine bd h (fun r7 q8 h => ?_)
    refine E_cV (as := [(0, v3)]) (st := []) (a := v0) d_X1_begin_35 mk_X1_canSway nl_X1_33 (by omega) ⟨rfl, rfl, Nat.le_of_ble_eq_true rfl⟩ okX1 rfl (L_X1_canSway q8) ?_
    refine E_if_eq (tgt := 54) d_X1_begin_38 (by decide) h (fun _ h => ?_) (fun _ h => ?_)
    · refine E_aload_n d_X1_begin_54 rfl (by decide) ?_
      refine E_iload_n d_X1_begin_55 rfl ?_
      refine bd h (fun r9 q10 h => ?_)
      refine E_cV (as := [(0, v3)]) (st := []) (a := v0) d_X1_begin_56 mk_X1_canKeep nl_X1_37 (by omega) ⟨rfl, rfl, Nat.le_of_ble_eq_true rfl⟩ okX1 rfl (L_X1_canKeep q10) ?_
      refine E_if_eq (tgt := 72) d_X1_begin_59 (by decide) h (fun _ h => ?_) (fun _ h => ?_)
      · exact (L_X1_begin_b72 hk22 h)
      · refine E_aload_n d_X1_begin_62 rfl (by decide) ?_
        refine E_dupT d_X1_begin_63 (by decide) ?_
        refine E_get d_X1_begin_64 okX1 fl_X1_25 ⟨by decide, rfl⟩ h (fun x11 h => ?_)
        refine E_iconst d_X1_begin_67 (c32 rfl) ?_
        refine E_iadd d_X1_begin_68 ?_
        refine E_put d_X1_begin_69 okX1 fl_X1_25 ⟨by decide, rfl⟩ (Or.inl ⟨rfl, rfl⟩) (Or.inl rfl) h (fun σ12 h => ?_)
        exact (L_X1_begin_b72 hk22 h)
    · refine E_aload_n d_X1_begin_41 rfl (by decide) ?_
      refine E_dupT d_X1_begin_42 (by decide) ?_
      refine E_get d_X1_begin_43 okX1 fl_X1_22 ⟨by decide, rfl⟩ h (fun x13 h => ?_)
      refine E_iconst d_X1_begin_46 (c32 rfl) ?_
      refine E_iadd d_X1_begin_47 ?_
      refine E_put d_X1_begin_48 okX1 fl_X1_22 ⟨by decide, rfl⟩ (Or.inl ⟨rfl, rfl⟩) (Or.inl rfl) h (fun σ14 h => ?_)
      refine E_goto (tgt := 72) d_X1_begin_51 (by decide) ?_
      exact (L_X1_begin_b72 hk22 h)
noncomputable def f_X1_begin_h22 (n : Nat) : Int → Int → Mem → Option (Mem) := Nat.rec (motive := fun _ => Int → Int → Mem → Option (Mem)) (fun _ _ _ => none) (fun _ ih => f_X1_begin_b22 (ih)) n
theorem L_X1_begin_h22 {sc : Nat × (Nat → Int32)} {o : Mem} : ∀ (n : Nat) {v0 v3 : Int} {σ : Mem}, f_X1_begin_h22 n v0 v3 σ = some o → E sc (Fm Sh none Sh o) mt_X1_begin 5 Sh Sh 22 [(2, v0), (9, 0), (9, 0), (0, v3)] [] Sh σ := by
  intro n
  induction n with
  | zero => intro v0 v3 σ h; cases h
  | succ n ih => intro v0 v3 σ h; exact L_X1_begin_b22 (@ih) h
noncomputable def f_X1_begin_b0 (v0 v1 v2 : Int) (σ : Mem) : Option (Mem) :=
  (pf Sh σ 1 v0 1 v1).bind fun σ1 =>
  (pf Sh σ1 1 v0 2 v2).bind fun σ2 =>
  (pf Sh σ2 1 v0 3 0).bind fun σ3 =>
  (pf Sh σ3 1 v0 4 0).bind fun σ4 =>
  f_X1_begin_h22 FU v0 0 σ4
theorem L_X1_begin_b0 {sc : Nat × (Nat → Int32)} {o : Mem} {v0 v1 v2 : Int} {σ : Mem} (h : f_X1_begin_b0 v0 v1 v2 σ = some o) : E sc (Fm Sh none Sh o) mt_X1_begin 5 Sh Sh 0 [(2, v0), (0, v1), (0, v2), (9, 0)] [] Sh σ := by
  unfold f_X1_begin_b0 at h
  refine E_aload_n d_X1_begin_0 rfl (by decide) ?_
  refine E_iload_n d_X1_begin_1 rfl ?_
  refine E_put d_X1_begin_2 okX1 fl_X1_15 ⟨by decide, rfl⟩ (Or.inl ⟨rfl, rfl⟩) (Or.inl rfl) h (fun σ1 h => ?_)
  refine E_aload_n d_X1_begin_5 rfl (by decide) ?_
  refine E_iload_n d_X1_begin_6 rfl ?_
  refine E_put d_X1_begin_7 okX1 fl_X1_19 ⟨by decide, rfl⟩ (Or.inl ⟨rfl, rfl⟩) (Or.inl rfl) h (fun σ2 h => ?_)
  refine E_aload_n d_X1_begin_10 rfl (by decide) ?_
  refine E_iconst d_X1_begin_11 (c32 rfl) ?_
  refine E_put d_X1_begin_12 okX1 fl_X1_22 ⟨by decide, rfl⟩ (Or.inl ⟨rfl, rfl⟩) (Or.inl rfl) h (fun σ3 h => ?_)
  refine E_aload_n d_X1_begin_15 rfl (by decide) ?_
  refine E_iconst d_X1_begin_16 (c32 rfl) ?_
  refine E_put d_X1_begin_17 okX1 fl_X1_25 ⟨by decide, rfl⟩ (Or.inl ⟨rfl, rfl⟩) (Or.inl rfl) h (fun σ4 h => ?_)
  refine E_iconst d_X1_begin_20 (c32 rfl) ?_
  refine E_istore_n d_X1_begin_21 (ls' := [(2, v0), (0, v1), (0, v2), (0, 0)]) ⟨by decide, rfl⟩ ?_
  exact E_weak (ls' := [(2, v0), (9, 0), (9, 0), (0, 0)]) ⟨Or.inr rfl, Or.inl rfl, Or.inl rfl, Or.inr rfl, trivial⟩ (L_X1_begin_h22 FU h)
noncomputable def f_X1_begin (v0 v1 v2 : Int) (σ : Mem) : Option (Mem) := if isO Sh 1 v0 = true then f_X1_begin_b0 v0 v1 v2 σ else none
theorem L_X1_begin {o : Mem} {v0 v1 v2 : Int} {σ : Mem} (h : f_X1_begin v0 v1 v2 σ = some o) : (isO Sh 1 v0 = true ∧ Cn mt_X1_begin 5 [(2, v0), (0, v1), (0, v2)] Sh σ none Sh o) := ⟨(ite_ok h).1, Cn_of mk_X1_begin.1.2.2.1 (Nat.le_of_ble_eq_true rfl) (fun sc => L_X1_begin_b0 (ite_ok h).2)⟩
theorem d_X1_gain_0 : decode mt_X1_gain.2.1 0 = .ok (.iload_n 0, 1) := by decide +kernel
theorem d_X1_gain_1 : decode mt_X1_gain.2.1 1 = .ok (.ifCond .le 8, 3) := by decide +kernel
theorem d_X1_gain_4 : decode mt_X1_gain.2.1 4 = .ok (.iload_n 0, 1) := by decide +kernel
theorem d_X1_gain_5 : decode mt_X1_gain.2.1 5 = .ok (.iconst 4, 1) := by decide +kernel
theorem d_X1_gain_6 : decode mt_X1_gain.2.1 6 = .ok (.if_icmp .le 5, 3) := by decide +kernel
theorem d_X1_gain_9 : decode mt_X1_gain.2.1 9 = .ok (.iconst 0, 1) := by decide +kernel
theorem d_X1_gain_10 : decode mt_X1_gain.2.1 10 = .ok (.ireturn, 1) := by decide +kernel
theorem d_X1_gain_11 : decode mt_X1_gain.2.1 11 = .ok (.iload_n 0, 1) := by decide +kernel
theorem d_X1_gain_12 : decode mt_X1_gain.2.1 12 = .ok (.iconst 1, 1) := by decide +kernel
theorem d_X1_gain_13 : decode mt_X1_gain.2.1 13 = .ok (.isub, 1) := by decide +kernel
theorem d_X1_gain_14 : decode mt_X1_gain.2.1 14 = .ok (.iload_n 1, 1) := by decide +kernel
theorem d_X1_gain_15 : decode mt_X1_gain.2.1 15 = .ok (.ifCond .ne 7, 3) := by decide +kernel
theorem d_X1_gain_18 : decode mt_X1_gain.2.1 18 = .ok (.iconst 1, 1) := by decide +kernel
theorem d_X1_gain_19 : decode mt_X1_gain.2.1 19 = .ok (.goto 4, 3) := by decide +kernel
theorem d_X1_gain_22 : decode mt_X1_gain.2.1 22 = .ok (.iconst 0, 1) := by decide +kernel
theorem d_X1_gain_23 : decode mt_X1_gain.2.1 23 = .ok (.iload_n 2, 1) := by decide +kernel
theorem d_X1_gain_24 : decode mt_X1_gain.2.1 24 = .ok (.iload_n 3, 1) := by decide +kernel
theorem d_X1_gain_25 : decode mt_X1_gain.2.1 25 = .ok (.invokestatic 56, 3) := by decide +kernel
theorem d_X1_gain_28 : decode mt_X1_gain.2.1 28 = .ok (.istore 4, 2) := by decide +kernel
theorem d_X1_gain_30 : decode mt_X1_gain.2.1 30 = .ok (.iload_n 2, 1) := by decide +kernel
theorem d_X1_gain_31 : decode mt_X1_gain.2.1 31 = .ok (.ifCond .le 57, 3) := by decide +kernel
theorem d_X1_gain_34 : decode mt_X1_gain.2.1 34 = .ok (.iload_n 1, 1) := by decide +kernel
theorem d_X1_gain_35 : decode mt_X1_gain.2.1 35 = .ok (.ifCond .eq 7, 3) := by decide +kernel
theorem d_X1_gain_38 : decode mt_X1_gain.2.1 38 = .ok (.iconst 1, 1) := by decide +kernel
theorem d_X1_gain_39 : decode mt_X1_gain.2.1 39 = .ok (.goto 4, 3) := by decide +kernel
theorem d_X1_gain_42 : decode mt_X1_gain.2.1 42 = .ok (.iconst 0, 1) := by decide +kernel
theorem d_X1_gain_43 : decode mt_X1_gain.2.1 43 = .ok (.iload_n 0, 1) := by decide +kernel
theorem d_X1_gain_44 : decode mt_X1_gain.2.1 44 = .ok (.iconst 1, 1) := by decide +kernel
theorem d_X1_gain_45 : decode mt_X1_gain.2.1 45 = .ok (.isub, 1) := by decide +kernel
theorem d_X1_gain_46 : decode mt_X1_gain.2.1 46 = .ok (.iload_n 1, 1) := by decide +kernel
theorem d_X1_gain_47 : decode mt_X1_gain.2.1 47 = .ok (.ifCond .ne 7, 3) := by decide +kernel
theorem d_X1_gain_50 : decode mt_X1_gain.2.1 50 = .ok (.iconst 1, 1) := by decide +kernel
theorem d_X1_gain_51 : decode mt_X1_gain.2.1 51 = .ok (.goto 4, 3) := by decide +kernel
theorem d_X1_gain_54 : decode mt_X1_gain.2.1 54 = .ok (.iconst 0, 1) := by decide +kernel
theorem d_X1_gain_55 : decode mt_X1_gain.2.1 55 = .ok (.iload_n 2, 1) := by decide +kernel
theorem d_X1_gain_56 : decode mt_X1_gain.2.1 56 = .ok (.iconst 1, 1) := by decide +kernel
theorem d_X1_gain_57 : decode mt_X1_gain.2.1 57 = .ok (.isub, 1) := by decide +kernel
theorem d_X1_gain_58 : decode mt_X1_gain.2.1 58 = .ok (.iload_n 3, 1) := by decide +kernel
theorem d_X1_gain_59 : decode mt_X1_gain.2.1 59 = .ok (.invokestatic 56, 3) := by decide +kernel
theorem d_X1_gain_62 : decode mt_X1_gain.2.1 62 = .ok (.iadd, 1) := by decide +kernel
theorem d_X1_gain_63 : decode mt_X1_gain.2.1 63 = .ok (.istore 5, 2) := by decide +kernel
theorem d_X1_gain_65 : decode mt_X1_gain.2.1 65 = .ok (.iload_n 1, 1) := by decide +kernel
theorem d_X1_gain_66 : decode mt_X1_gain.2.1 66 = .ok (.ifCond .eq 13, 3) := by decide +kernel
theorem d_X1_gain_69 : decode mt_X1_gain.2.1 69 = .ok (.iload 4, 2) := by decide +kernel
theorem d_X1_gain_71 : decode mt_X1_gain.2.1 71 = .ok (.iload 5, 2) := by decide +kernel
theorem d_X1_gain_73 : decode mt_X1_gain.2.1 73 = .ok (.invokestatic 60, 3) := by decide +kernel
theorem d_X1_gain_76 : decode mt_X1_gain.2.1 76 = .ok (.goto 10, 3) := by decide +kernel
theorem d_X1_gain_79 : decode mt_X1_gain.2.1 79 = .ok (.iload 4, 2) := by decide +kernel
theorem d_X1_gain_81 : decode mt_X1_gain.2.1 81 = .ok (.iload 5, 2) := by decide +kernel
theorem d_X1_gain_83 : decode mt_X1_gain.2.1 83 = .ok (.invokestatic 65, 3) := by decide +kernel
theorem d_X1_gain_86 : decode mt_X1_gain.2.1 86 = .ok (.istore 4, 2) := by decide +kernel
theorem d_X1_gain_88 : decode mt_X1_gain.2.1 88 = .ok (.iload_n 3, 1) := by decide +kernel
theorem d_X1_gain_89 : decode mt_X1_gain.2.1 89 = .ok (.ifCond .le 57, 3) := by decide +kernel
theorem d_X1_gain_92 : decode mt_X1_gain.2.1 92 = .ok (.iload_n 1, 1) := by decide +kernel
theorem d_X1_gain_93 : decode mt_X1_gain.2.1 93 = .ok (.ifCond .eq 7, 3) := by decide +kernel
theorem d_X1_gain_96 : decode mt_X1_gain.2.1 96 = .ok (.iconst 0, 1) := by decide +kernel
theorem d_X1_gain_97 : decode mt_X1_gain.2.1 97 = .ok (.goto 4, 3) := by decide +kernel
theorem d_X1_gain_100 : decode mt_X1_gain.2.1 100 = .ok (.iconst (-1), 1) := by decide +kernel
theorem d_X1_gain_101 : decode mt_X1_gain.2.1 101 = .ok (.iload_n 0, 1) := by decide +kernel
theorem d_X1_gain_102 : decode mt_X1_gain.2.1 102 = .ok (.iconst 1, 1) := by decide +kernel
theorem d_X1_gain_103 : decode mt_X1_gain.2.1 103 = .ok (.isub, 1) := by decide +kernel
theorem d_X1_gain_104 : decode mt_X1_gain.2.1 104 = .ok (.iload_n 1, 1) := by decide +kernel
theorem d_X1_gain_105 : decode mt_X1_gain.2.1 105 = .ok (.ifCond .ne 7, 3) := by decide +kernel
theorem d_X1_gain_108 : decode mt_X1_gain.2.1 108 = .ok (.iconst 1, 1) := by decide +kernel
theorem d_X1_gain_109 : decode mt_X1_gain.2.1 109 = .ok (.goto 4, 3) := by decide +kernel
theorem d_X1_gain_112 : decode mt_X1_gain.2.1 112 = .ok (.iconst 0, 1) := by decide +kernel
theorem d_X1_gain_113 : decode mt_X1_gain.2.1 113 = .ok (.iload_n 2, 1) := by decide +kernel
theorem d_X1_gain_114 : decode mt_X1_gain.2.1 114 = .ok (.iload_n 3, 1) := by decide +kernel
theorem d_X1_gain_115 : decode mt_X1_gain.2.1 115 = .ok (.iconst 1, 1) := by decide +kernel
theorem d_X1_gain_116 : decode mt_X1_gain.2.1 116 = .ok (.isub, 1) := by decide +kernel
theorem d_X1_gain_117 : decode mt_X1_gain.2.1 117 = .ok (.invokestatic 56, 3) := by decide +kernel
theorem d_X1_gain_120 : decode mt_X1_gain.2.1 120 = .ok (.iadd, 1) := by decide +kernel
theorem d_X1_gain_121 : decode mt_X1_gain.2.1 121 = .ok (.istore 5, 2) := by decide +kernel
theorem d_X1_gain_123 : decode mt_X1_gain.2.1 123 = .ok (.iload_n 1, 1) := by decide +kernel
theorem d_X1_gain_124 : decode mt_X1_gain.2.1 124 = .ok (.ifCond .eq 13, 3) := by decide +kernel
theorem d_X1_gain_127 : decode mt_X1_gain.2.1 127 = .ok (.iload 4, 2) := by decide +kernel
theorem d_X1_gain_129 : decode mt_X1_gain.2.1 129 = .ok (.iload 5, 2) := by decide +kernel
theorem d_X1_gain_131 : decode mt_X1_gain.2.1 131 = .ok (.invokestatic 60, 3) := by decide +kernel
theorem d_X1_gain_134 : decode mt_X1_gain.2.1 134 = .ok (.goto 10, 3) := by decide +kernel
theorem d_X1_gain_137 : decode mt_X1_gain.2.1 137 = .ok (.iload 4, 2) := by decide +kernel
theorem d_X1_gain_139 : decode mt_X1_gain.2.1 139 = .ok (.iload 5, 2) := by decide +kernel
theorem d_X1_gain_141 : decode mt_X1_gain.2.1 141 = .ok (.invokestatic 65, 3) := by decide +kernel
theorem d_X1_gain_144 : decode mt_X1_gain.2.1 144 = .ok (.istore 4, 2) := by decide +kernel
theorem d_X1_gain_146 : decode mt_X1_gain.2.1 146 = .ok (.iload 4, 2) := by decide +kernel
theorem d_X1_gain_148 : decode mt_X1_gain.2.1 148 = .ok (.ireturn, 1) := by decide +kernel
noncomputable def f_X1_gain_b113 (r_X1_gain : (Int → Int → Int → Int → Mem → Option (Int))) (v1 v2 v3 v4 s0 s1 s2 : Int) (σ : Mem) : Option (Int) :=
  (r_X1_gain s1 s0 v2 (w32 (v3 - 1)) σ).bind fun r5 =>
  if v1 = 0 then
    some (imin v4 (w32 (s2 + r5)))
  else
    some (imax v4 (w32 (s2 + r5)))
theorem L_X1_gain_b113 {sc : Nat × (Nat → Int32)} {D : Nat} {o : Int} {σ : Mem} {r_X1_gain : (Int → Int → Int → Int → Mem → Option (Int))} (hr_X1_gain : ∀ {y0 y1 y2 y3 : Int} {σ : Mem} {o : Int}, r_X1_gain y0 y1 y2 y3 σ = some o → Cn mt_X1_gain D [(0, y0), (0, y1), (0, y2), (0, y3)] Sh σ (some (0, o)) Sh σ) {v1 v2 v3 v4 s0 s1 s2 : Int} (h : f_X1_gain_b113 r_X1_gain v1 v2 v3 v4 s0 s1 s2 σ = some o) : E sc (Fm Sh (some (0, o)) Sh σ) mt_X1_gain (D + 2) Sh Sh 113 [(9, 0), (0, v1), (0, v2), (0, v3), (0, v4), (9, 0)] [(0, s0), (0, s1), (0, s2)] Sh σ := by
  unfold f_X1_gain_b113 at h
  refine E_iload_n d_X1_gain_113 rfl ?_
  refine E_iload_n d_X1_gain_114 rfl ?_
  refine E_iconst d_X1_gain_115 (c32 rfl) ?_
  refine E_isub d_X1_gain_116 ?_
  refine bd h (fun r5 q6 h => ?_)
  refine E_cS (as := [(0, s1), (0, s0), (0, v2), (0, w32 (v3 - 1))]) (st := [(0, s2)]) d_X1_gain_117 mk_X1_gain nl_X1_56 (by omega) ⟨rfl, rfl, Nat.le_of_ble_eq_true rfl⟩ (hr_X1_gain q6) ?_
  refine E_iadd d_X1_gain_120 ?_
  refine E_istore d_X1_gain_121 (ls' := [(9, 0), (0, v1), (0, v2), (0, v3), (0, v4), (0, w32 (s2 + r5))]) ⟨by decide, rfl⟩ ?_
  refine E_iload_n d_X1_gain_123 rfl ?_
  refine E_if_eq (tgt := 137) d_X1_gain_124 (by decide) h (fun _ h => ?_) (fun _ h => ?_)
  · refine E_iload d_X1_gain_137 rfl ?_
    refine E_iload d_X1_gain_139 rfl ?_
    refine E_imin d_X1_gain_141 nl_X1_65 (by omega) (Nat.le_of_ble_eq_true rfl) ?_
    refine E_istore d_X1_gain_144 (ls' := [(9, 0), (0, v1), (0, v2), (0, v3), (0, imin v4 (w32 (s2 + r5))), (0, w32 (s2 + r5))]) ⟨by decide, rfl⟩ ?_
    refine E_iload d_X1_gain_146 rfl ?_
    cases h
    exact E_iret d_X1_gain_148 rfl
  · refine E_iload d_X1_gain_127 rfl ?_
    refine E_iload d_X1_gain_129 rfl ?_
    refine E_imax d_X1_gain_131 nl_X1_60 (by omega) (Nat.le_of_ble_eq_true rfl) ?_
    refine E_goto (tgt := 144) d_X1_gain_134 (by decide) ?_
    refine E_istore d_X1_gain_144 (ls' := [(9, 0), (0, v1), (0, v2), (0, v3), (0, imax v4 (w32 (s2 + r5))), (0, w32 (s2 + r5))]) ⟨by decide, rfl⟩ ?_
    refine E_iload d_X1_gain_146 rfl ?_
    cases h
    exact E_iret d_X1_gain_148 rfl
noncomputable def f_X1_gain_b101 (r_X1_gain : (Int → Int → Int → Int → Mem → Option (Int))) (v0 v1 v2 v3 v4 s0 : Int) (σ : Mem) : Option (Int) :=
  if v1 = 0 then
    f_X1_gain_b113 r_X1_gain v1 v2 v3 v4 1 (w32 (v0 - 1)) s0 σ
  else
    f_X1_gain_b113 r_X1_gain v1 v2 v3 v4 0 (w32 (v0 - 1)) s0 σ
theorem L_X1_gain_b101 {sc : Nat × (Nat → Int32)} {D : Nat} {o : Int} {σ : Mem} {r_X1_gain : (Int → Int → Int → Int → Mem → Option (Int))} (hr_X1_gain : ∀ {y0 y1 y2 y3 : Int} {σ : Mem} {o : Int}, r_X1_gain y0 y1 y2 y3 σ = some o → Cn mt_X1_gain D [(0, y0), (0, y1), (0, y2), (0, y3)] Sh σ (some (0, o)) Sh σ) {v0 v1 v2 v3 v4 s0 : Int} (h : f_X1_gain_b101 r_X1_gain v0 v1 v2 v3 v4 s0 σ = some o) : E sc (Fm Sh (some (0, o)) Sh σ) mt_X1_gain (D + 2) Sh Sh 101 [(0, v0), (0, v1), (0, v2), (0, v3), (0, v4), (9, 0)] [(0, s0)] Sh σ := by
  unfold f_X1_gain_b101 at h
  refine E_iload_n d_X1_gain_101 rfl ?_
  refine E_iconst d_X1_gain_102 (c32 rfl) ?_
  refine E_isub d_X1_gain_103 ?_
  refine E_iload_n d_X1_gain_104 rfl ?_
  refine E_if_ne (tgt := 112) d_X1_gain_105 (by decide) h (fun _ h => ?_) (fun _ h => ?_)
  · refine E_iconst d_X1_gain_108 (c32 rfl) ?_
    refine E_goto (tgt := 113) d_X1_gain_109 (by decide) ?_
    exact E_weak (ls' := [(9, 0), (0, v1), (0, v2), (0, v3), (0, v4), (9, 0)]) ⟨Or.inl rfl, Or.inr rfl, Or.inr rfl, Or.inr rfl, Or.inr rfl, Or.inl rfl, trivial⟩ (L_X1_gain_b113 hr_X1_gain h)
  · refine E_iconst d_X1_gain_112 (c32 rfl) ?_
    exact E_weak (ls' := [(9, 0), (0, v1), (0, v2), (0, v3), (0, v4), (9, 0)]) ⟨Or.inl rfl, Or.inr rfl, Or.inr rfl, Or.inr rfl, Or.inr rfl, Or.inl rfl, trivial⟩ (L_X1_gain_b113 hr_X1_gain h)
noncomputable def f_X1_gain_b88 (r_X1_gain : (Int → Int → Int → Int → Mem → Option (Int))) (v0 v1 v2 v3 v4 : Int) (σ : Mem) : Option (Int) :=
  if v3 ≤ 0 then
    some (v4)
  else
    if v1 = 0 then
      f_X1_gain_b101 r_X1_gain v0 v1 v2 v3 v4 (-1) σ
    else
      f_X1_gain_b101 r_X1_gain v0 v1 v2 v3 v4 0 σ
theorem L_X1_gain_b88 {sc : Nat × (Nat → Int32)} {D : Nat} {o : Int} {σ : Mem} {r_X1_gain : (Int → Int → Int → Int → Mem → Option (Int))} (hr_X1_gain : ∀ {y0 y1 y2 y3 : Int} {σ : Mem} {o : Int}, r_X1_gain y0 y1 y2 y3 σ = some o → Cn mt_X1_gain D [(0, y0), (0, y1), (0, y2), (0, y3)] Sh σ (some (0, o)) Sh σ) {v0 v1 v2 v3 v4 : Int} (h : f_X1_gain_b88 r_X1_gain v0 v1 v2 v3 v4 σ = some o) : E sc (Fm Sh (some (0, o)) Sh σ) mt_X1_gain (D + 2) Sh Sh 88 [(0, v0), (0, v1), (0, v2), (0, v3), (0, v4), (9, 0)] [] Sh σ := by
  unfold f_X1_gain_b88 at h
  refine E_iload_n d_X1_gain_88 rfl ?_
  refine E_if_le (tgt := 146) d_X1_gain_89 (by decide) h (fun _ h => ?_) (fun _ h => ?_)
  · refine E_iload d_X1_gain_146 rfl ?_
    cases h
    exact E_iret d_X1_gain_148 rfl
  · refine E_iload_n d_X1_gain_92 rfl ?_
    refine E_if_eq (tgt := 100) d_X1_gain_93 (by decide) h (fun _ h => ?_) (fun _ h => ?_)
    · refine E_iconst d_X1_gain_100 (c32 rfl) ?_
      exact (L_X1_gain_b101 hr_X1_gain h)
    · refine E_iconst d_X1_gain_96 (c32 rfl) ?_
      refine E_goto (tgt := 101) d_X1_gain_97 (by decide) ?_
      exact (L_X1_gain_b101 hr_X1_gain h)
noncomputable def f_X1_gain_b86 (r_X1_gain : (Int → Int → Int → Int → Mem → Option (Int))) (v0 v1 v2 v3 s0 : Int) (σ : Mem) : Option (Int) :=
  f_X1_gain_b88 r_X1_gain v0 v1 v2 v3 s0 σ
theorem L_X1_gain_b86 {sc : Nat × (Nat → Int32)} {D : Nat} {o : Int} {σ : Mem} {r_X1_gain : (Int → Int → Int → Int → Mem → Option (Int))} (hr_X1_gain : ∀ {y0 y1 y2 y3 : Int} {σ : Mem} {o : Int}, r_X1_gain y0 y1 y2 y3 σ = some o → Cn mt_X1_gain D [(0, y0), (0, y1), (0, y2), (0, y3)] Sh σ (some (0, o)) Sh σ) {v0 v1 v2 v3 s0 : Int} (h : f_X1_gain_b86 r_X1_gain v0 v1 v2 v3 s0 σ = some o) : E sc (Fm Sh (some (0, o)) Sh σ) mt_X1_gain (D + 2) Sh Sh 86 [(0, v0), (0, v1), (0, v2), (0, v3), (9, 0), (9, 0)] [(0, s0)] Sh σ := by
  unfold f_X1_gain_b86 at h
  refine E_istore d_X1_gain_86 (ls' := [(0, v0), (0, v1), (0, v2), (0, v3), (0, s0), (9, 0)]) ⟨by decide, rfl⟩ ?_
  exact (L_X1_gain_b88 hr_X1_gain h)
noncomputable def f_X1_gain_b55 (r_X1_gain : (Int → Int → Int → Int → Mem → Option (Int))) (v0 v1 v2 v3 v4 s0 s1 s2 : Int) (σ : Mem) : Option (Int) :=
  (r_X1_gain s1 s0 (w32 (v2 - 1)) v3 σ).bind fun r3 =>
  if v1 = 0 then
    f_X1_gain_b86 r_X1_gain v0 v1 v2 v3 (imin v4 (w32 (s2 + r3))) σ
  else
    f_X1_gain_b86 r_X1_gain v0 v1 v2 v3 (imax v4 (w32 (s2 + r3))) σ
theorem L_X1_gain_b55 {sc : Nat × (Nat → Int32)} {D : Nat} {o : Int} {σ : Mem} {r_X1_gain : (Int → Int → Int → Int → Mem → Option (Int))} (hr_X1_gain : ∀ {y0 y1 y2 y3 : Int} {σ : Mem} {o : Int}, r_X1_gain y0 y1 y2 y3 σ = some o → Cn mt_X1_gain D [(0, y0), (0, y1), (0, y2), (0, y3)] Sh σ (some (0, o)) Sh σ) {v0 v1 v2 v3 v4 s0 s1 s2 : Int} (h : f_X1_gain_b55 r_X1_gain v0 v1 v2 v3 v4 s0 s1 s2 σ = some o) : E sc (Fm Sh (some (0, o)) Sh σ) mt_X1_gain (D + 2) Sh Sh 55 [(0, v0), (0, v1), (0, v2), (0, v3), (0, v4), (9, 0)] [(0, s0), (0, s1), (0, s2)] Sh σ := by
  unfold f_X1_gain_b55 at h
  refine E_iload_n d_X1_gain_55 rfl ?_
  refine E_iconst d_X1_gain_56 (c32 rfl) ?_
  refine E_isub d_X1_gain_57 ?_
  refine E_iload_n d_X1_gain_58 rfl ?_
  refine bd h (fun r3 q4 h => ?_)
  refine E_cS (as := [(0, s1), (0, s0), (0, w32 (v2 - 1)), (0, v3)]) (st := [(0, s2)]) d_X1_gain_59 mk_X1_gain nl_X1_56 (by omega) ⟨rfl, rfl, Nat.le_of_ble_eq_true rfl⟩ (hr_X1_gain q4) ?_
  refine E_iadd d_X1_gain_62 ?_
  refine E_istore d_X1_gain_63 (ls' := [(0, v0), (0, v1), (0, v2), (0, v3), (0, v4), (0, w32 (s2 + r3))]) ⟨by decide, rfl⟩ ?_
  refine E_iload_n d_X1_gain_65 rfl ?_
  refine E_if_eq (tgt := 79) d_X1_gain_66 (by decide) h (fun _ h => ?_) (fun _ h => ?_)
  · refine E_iload d_X1_gain_79 rfl ?_
    refine E_iload d_X1_gain_81 rfl ?_
    refine E_imin d_X1_gain_83 nl_X1_65 (by omega) (Nat.le_of_ble_eq_true rfl) ?_
    exact E_weak (ls' := [(0, v0), (0, v1), (0, v2), (0, v3), (9, 0), (9, 0)]) ⟨Or.inr rfl, Or.inr rfl, Or.inr rfl, Or.inr rfl, Or.inl rfl, Or.inl rfl, trivial⟩ (L_X1_gain_b86 hr_X1_gain h)
  · refine E_iload d_X1_gain_69 rfl ?_
    refine E_iload d_X1_gain_71 rfl ?_
    refine E_imax d_X1_gain_73 nl_X1_60 (by omega) (Nat.le_of_ble_eq_true rfl) ?_
    refine E_goto (tgt := 86) d_X1_gain_76 (by decide) ?_
    exact E_weak (ls' := [(0, v0), (0, v1), (0, v2), (0, v3), (9, 0), (9, 0)]) ⟨Or.inr rfl, Or.inr rfl, Or.inr rfl, Or.inr rfl, Or.inl rfl, Or.inl rfl, trivial⟩ (L_X1_gain_b86 hr_X1_gain h)
noncomputable def f_X1_gain_b43 (r_X1_gain : (Int → Int → Int → Int → Mem → Option (Int))) (v0 v1 v2 v3 v4 s0 : Int) (σ : Mem) : Option (Int) :=
  if v1 = 0 then
    f_X1_gain_b55 r_X1_gain v0 v1 v2 v3 v4 1 (w32 (v0 - 1)) s0 σ
  else
    f_X1_gain_b55 r_X1_gain v0 v1 v2 v3 v4 0 (w32 (v0 - 1)) s0 σ
theorem L_X1_gain_b43 {sc : Nat × (Nat → Int32)} {D : Nat} {o : Int} {σ : Mem} {r_X1_gain : (Int → Int → Int → Int → Mem → Option (Int))} (hr_X1_gain : ∀ {y0 y1 y2 y3 : Int} {σ : Mem} {o : Int}, r_X1_gain y0 y1 y2 y3 σ = some o → Cn mt_X1_gain D [(0, y0), (0, y1), (0, y2), (0, y3)] Sh σ (some (0, o)) Sh σ) {v0 v1 v2 v3 v4 s0 : Int} (h : f_X1_gain_b43 r_X1_gain v0 v1 v2 v3 v4 s0 σ = some o) : E sc (Fm Sh (some (0, o)) Sh σ) mt_X1_gain (D + 2) Sh Sh 43 [(0, v0), (0, v1), (0, v2), (0, v3), (0, v4), (9, 0)] [(0, s0)] Sh σ := by
  unfold f_X1_gain_b43 at h
  refine E_iload_n d_X1_gain_43 rfl ?_
  refine E_iconst d_X1_gain_44 (c32 rfl) ?_
  refine E_isub d_X1_gain_45 ?_
  refine E_iload_n d_X1_gain_46 rfl ?_
  refine E_if_ne (tgt := 54) d_X1_gain_47 (by decide) h (fun _ h => ?_) (fun _ h => ?_)
  · refine E_iconst d_X1_gain_50 (c32 rfl) ?_
    refine E_goto (tgt := 55) d_X1_gain_51 (by decide) ?_
    exact (L_X1_gain_b55 hr_X1_gain h)
  · refine E_iconst d_X1_gain_54 (c32 rfl) ?_
    exact (L_X1_gain_b55 hr_X1_gain h)
noncomputable def f_X1_gain_b23 (r_X1_gain : (Int → Int → Int → Int → Mem → Option (Int))) (v0 v1 v2 v3 s0 s1 : Int) (σ : Mem) : Option (Int) :=
  (r_X1_gain s1 s0 v2 v3 σ).bind fun r1 =>
  if v2 ≤ 0 then
    f_X1_gain_b88 r_X1_gain v0 v1 v2 v3 r1 σ
  else
    if v1 = 0 then
      f_X1_gain_b43 r_X1_gain v0 v1 v2 v3 r1 0 σ
    else
      f_X1_gain_b43 r_X1_gain v0 v1 v2 v3 r1 1 σ
theorem L_X1_gain_b23 {sc : Nat × (Nat → Int32)} {D : Nat} {o : Int} {σ : Mem} {r_X1_gain : (Int → Int → Int → Int → Mem → Option (Int))} (hr_X1_gain : ∀ {y0 y1 y2 y3 : Int} {σ : Mem} {o : Int}, r_X1_gain y0 y1 y2 y3 σ = some o → Cn mt_X1_gain D [(0, y0), (0, y1), (0, y2), (0, y3)] Sh σ (some (0, o)) Sh σ) {v0 v1 v2 v3 s0 s1 : Int} (h : f_X1_gain_b23 r_X1_gain v0 v1 v2 v3 s0 s1 σ = some o) : E sc (Fm Sh (some (0, o)) Sh σ) mt_X1_gain (D + 2) Sh Sh 23 [(0, v0), (0, v1), (0, v2), (0, v3), (9, 0), (9, 0)] [(0, s0), (0, s1)] Sh σ := by
  unfold f_X1_gain_b23 at h
  refine E_iload_n d_X1_gain_23 rfl ?_
  refine E_iload_n d_X1_gain_24 rfl ?_
  refine bd h (fun r1 q2 h => ?_)
  refine E_cS (as := [(0, s1), (0, s0), (0, v2), (0, v3)]) (st := []) d_X1_gain_25 mk_X1_gain nl_X1_56 (by omega) ⟨rfl, rfl, Nat.le_of_ble_eq_true rfl⟩ (hr_X1_gain q2) ?_
  refine E_istore d_X1_gain_28 (ls' := [(0, v0), (0, v1), (0, v2), (0, v3), (0, r1), (9, 0)]) ⟨by decide, rfl⟩ ?_
  refine E_iload_n d_X1_gain_30 rfl ?_
  refine E_if_le (tgt := 88) d_X1_gain_31 (by decide) h (fun _ h => ?_) (fun _ h => ?_)
  · exact (L_X1_gain_b88 hr_X1_gain h)
  · refine E_iload_n d_X1_gain_34 rfl ?_
    refine E_if_eq (tgt := 42) d_X1_gain_35 (by decide) h (fun _ h => ?_) (fun _ h => ?_)
    · refine E_iconst d_X1_gain_42 (c32 rfl) ?_
      exact (L_X1_gain_b43 hr_X1_gain h)
    · refine E_iconst d_X1_gain_38 (c32 rfl) ?_
      refine E_goto (tgt := 43) d_X1_gain_39 (by decide) ?_
      exact (L_X1_gain_b43 hr_X1_gain h)
noncomputable def f_X1_gain_b0 (r_X1_gain : (Int → Int → Int → Int → Mem → Option (Int))) (v0 v1 v2 v3 : Int) (σ : Mem) : Option (Int) :=
  if v0 ≤ 0 then
    some (0)
  else
    if v0 ≤ 4 then
      if v1 = 0 then
        f_X1_gain_b23 r_X1_gain v0 v1 v2 v3 1 (w32 (v0 - 1)) σ
      else
        f_X1_gain_b23 r_X1_gain v0 v1 v2 v3 0 (w32 (v0 - 1)) σ
    else
      some (0)
theorem L_X1_gain_b0 {sc : Nat × (Nat → Int32)} {D : Nat} {o : Int} {σ : Mem} {r_X1_gain : (Int → Int → Int → Int → Mem → Option (Int))} (hr_X1_gain : ∀ {y0 y1 y2 y3 : Int} {σ : Mem} {o : Int}, r_X1_gain y0 y1 y2 y3 σ = some o → Cn mt_X1_gain D [(0, y0), (0, y1), (0, y2), (0, y3)] Sh σ (some (0, o)) Sh σ) {v0 v1 v2 v3 : Int} (h : f_X1_gain_b0 r_X1_gain v0 v1 v2 v3 σ = some o) : E sc (Fm Sh (some (0, o)) Sh σ) mt_X1_gain (D + 2) Sh Sh 0 [(0, v0), (0, v1), (0, v2), (0, v3), (9, 0), (9, 0)] [] Sh σ := by
  unfold f_X1_gain_b0 at h
  refine E_iload_n d_X1_gain_0 rfl ?_
  refine E_if_le (tgt := 9) d_X1_gain_1 (by decide) h (fun _ h => ?_) (fun _ h => ?_)
  · refine E_iconst d_X1_gain_9 (c32 rfl) ?_
    cases h
    exact E_iret d_X1_gain_10 rfl
  · refine E_iload_n d_X1_gain_4 rfl ?_
    refine E_iconst d_X1_gain_5 (c32 rfl) ?_
    refine E_icmp_le (tgt := 11) d_X1_gain_6 (by decide) h (fun _ h => ?_) (fun _ h => ?_)
    · refine E_iload_n d_X1_gain_11 rfl ?_
      refine E_iconst d_X1_gain_12 (c32 rfl) ?_
      refine E_isub d_X1_gain_13 ?_
      refine E_iload_n d_X1_gain_14 rfl ?_
      refine E_if_ne (tgt := 22) d_X1_gain_15 (by decide) h (fun _ h => ?_) (fun _ h => ?_)
      · refine E_iconst d_X1_gain_18 (c32 rfl) ?_
        refine E_goto (tgt := 23) d_X1_gain_19 (by decide) ?_
        exact (L_X1_gain_b23 hr_X1_gain h)
      · refine E_iconst d_X1_gain_22 (c32 rfl) ?_
        exact (L_X1_gain_b23 hr_X1_gain h)
    · refine E_iconst d_X1_gain_9 (c32 rfl) ?_
      cases h
      exact E_iret d_X1_gain_10 rfl
noncomputable def f_X1_gain_body (r_X1_gain : (Int → Int → Int → Int → Mem → Option (Int))) (v0 v1 v2 v3 : Int) (σ : Mem) : Option (Int) := f_X1_gain_b0 r_X1_gain v0 v1 v2 v3 σ
theorem L_X1_gain_body {D : Nat} {o : Int} {r_X1_gain : (Int → Int → Int → Int → Mem → Option (Int))} (hr_X1_gain : ∀ {y0 y1 y2 y3 : Int} {σ : Mem} {o : Int}, r_X1_gain y0 y1 y2 y3 σ = some o → Cn mt_X1_gain D [(0, y0), (0, y1), (0, y2), (0, y3)] Sh σ (some (0, o)) Sh σ) {v0 v1 v2 v3 : Int} {σ : Mem} (h : f_X1_gain_body r_X1_gain v0 v1 v2 v3 σ = some o) : Cn mt_X1_gain (D + 2) [(0, v0), (0, v1), (0, v2), (0, v3)] Sh σ (some (0, o)) Sh σ := Cn_of mk_X1_gain.1.2.2.1 (Nat.le_of_ble_eq_true rfl) (fun sc => L_X1_gain_b0 hr_X1_gain h)
noncomputable def f_X1_gain (n : Nat) : Int → Int → Int → Int → Mem → Option (Int) := Nat.rec (motive := fun _ => Int → Int → Int → Int → Mem → Option (Int)) (fun _ _ _ _ _ => none) (fun _ ih => f_X1_gain_body ih) n
theorem L_X1_gain : ∀ (n : Nat) {v0 v1 v2 v3 : Int} {σ : Mem} {o : Int}, f_X1_gain n v0 v1 v2 v3 σ = some o → Cn mt_X1_gain (n * 2) [(0, v0), (0, v1), (0, v2), (0, v3)] Sh σ (some (0, o)) Sh σ := by
  intro n
  induction n with
  | zero => intro v0 v1 v2 v3 σ o h; cases h
  | succ n ih => intro v0 v1 v2 v3 σ o h; rw [Nat.succ_mul]; exact L_X1_gain_body (@ih) h
theorem d_X1_outcome_0 : decode mt_X1_outcome.2.1 0 = .ok (.aload_n 0, 1) := by decide +kernel
theorem d_X1_outcome_1 : decode mt_X1_outcome.2.1 1 = .ok (.getfield 9, 3) := by decide +kernel
theorem d_X1_outcome_4 : decode mt_X1_outcome.2.1 4 = .ok (.aload_n 0, 1) := by decide +kernel
theorem d_X1_outcome_5 : decode mt_X1_outcome.2.1 5 = .ok (.getfield 15, 3) := by decide +kernel
theorem d_X1_outcome_8 : decode mt_X1_outcome.2.1 8 = .ok (.aload_n 0, 1) := by decide +kernel
theorem d_X1_outcome_9 : decode mt_X1_outcome.2.1 9 = .ok (.getfield 19, 3) := by decide +kernel
theorem d_X1_outcome_12 : decode mt_X1_outcome.2.1 12 = .ok (.invokevirtual 52, 3) := by decide +kernel
theorem d_X1_outcome_15 : decode mt_X1_outcome.2.1 15 = .ok (.iload_n 1, 1) := by decide +kernel
theorem d_X1_outcome_16 : decode mt_X1_outcome.2.1 16 = .ok (.iconst 1, 1) := by decide +kernel
theorem d_X1_outcome_17 : decode mt_X1_outcome.2.1 17 = .ok (.aload_n 0, 1) := by decide +kernel
theorem d_X1_outcome_18 : decode mt_X1_outcome.2.1 18 = .ok (.getfield 22, 3) := by decide +kernel
theorem d_X1_outcome_21 : decode mt_X1_outcome.2.1 21 = .ok (.aload_n 0, 1) := by decide +kernel
theorem d_X1_outcome_22 : decode mt_X1_outcome.2.1 22 = .ok (.getfield 25, 3) := by decide +kernel
theorem d_X1_outcome_25 : decode mt_X1_outcome.2.1 25 = .ok (.invokestatic 56, 3) := by decide +kernel
theorem d_X1_outcome_28 : decode mt_X1_outcome.2.1 28 = .ok (.iadd, 1) := by decide +kernel
theorem d_X1_outcome_29 : decode mt_X1_outcome.2.1 29 = .ok (.ireturn, 1) := by decide +kernel
noncomputable def f_X1_outcome_b0 (v0 v1 : Int) (σ : Mem) : Option (Int) :=
  (gf Sh σ 1 v0 0).bind fun x1 =>
  (gf Sh σ 1 v0 1).bind fun x2 =>
  (gf Sh σ 1 v0 2).bind fun x3 =>
  (f_X9_turnCount x1 x2 x3 σ).bind fun r4 =>
  (gf Sh σ 1 v0 3).bind fun x6 =>
  (gf Sh σ 1 v0 4).bind fun x7 =>
  (f_X1_gain FR v1 1 x6 x7 σ).bind fun r8 =>
  some (w32 (r4 + r8))
theorem L_X1_outcome_b0 {sc : Nat × (Nat → Int32)} {o : Int} {σ : Mem} {v0 v1 : Int} (h : f_X1_outcome_b0 v0 v1 σ = some o) : E sc (Fm Sh (some (0, o)) Sh σ) mt_X1_outcome 81 Sh Sh 0 [(2, v0), (0, v1)] [] Sh σ := by
  unfold f_X1_outcome_b0 at h
  refine E_aload_n d_X1_outcome_0 rfl (by decide) ?_
  refine E_get d_X1_outcome_1 okX1 fl_X1_9 ⟨by decide, rfl⟩ h (fun x1 h => ?_)
  refine E_aload_n d_X1_outcome_4 rfl (by decide) ?_
  refine E_get d_X1_outcome_5 okX1 fl_X1_15 ⟨by decide, rfl⟩ h (fun x2 h => ?_)
  refine E_aload_n d_X1_outcome_8 rfl (by decide) ?_
  refine E_get d_X1_outcome_9 okX1 fl_X1_19 ⟨by decide, rfl⟩ h (fun x3 h => ?_)
  refine bd h (fun r4 q5 h => ?_)
  refine E_cV (as := [(0, x2), (0, x3)]) (st := []) (a := x1) d_X1_outcome_12 mk_X9_turnCount nl_X1_52 (by omega) ⟨rfl, rfl, Nat.le_of_ble_eq_true rfl⟩ okX9 rfl (L_X9_turnCount q5) ?_
  refine E_iload_n d_X1_outcome_15 rfl ?_
  refine E_iconst d_X1_outcome_16 (c32 rfl) ?_
  refine E_aload_n d_X1_outcome_17 rfl (by decide) ?_
  refine E_get d_X1_outcome_18 okX1 fl_X1_22 ⟨by decide, rfl⟩ h (fun x6 h => ?_)
  refine E_aload_n d_X1_outcome_21 rfl (by decide) ?_
  refine E_get d_X1_outcome_22 okX1 fl_X1_25 ⟨by decide, rfl⟩ h (fun x7 h => ?_)
  refine bd h (fun r8 q9 h => ?_)
  refine E_cS (as := [(0, v1), (0, 1), (0, x6), (0, x7)]) (st := [(0, r4)]) d_X1_outcome_25 mk_X1_gain nl_X1_56 (by decide) ⟨rfl, rfl, Nat.le_of_ble_eq_true rfl⟩ (L_X1_gain FR q9) ?_
  refine E_iadd d_X1_outcome_28 ?_
  cases h
  exact E_iret d_X1_outcome_29 rfl
noncomputable def f_X1_outcome (v0 v1 : Int) (σ : Mem) : Option (Int) := if isO Sh 1 v0 = true then f_X1_outcome_b0 v0 v1 σ else none
theorem L_X1_outcome {o : Int} {v0 v1 : Int} {σ : Mem} (h : f_X1_outcome v0 v1 σ = some o) : (isO Sh 1 v0 = true ∧ Cn mt_X1_outcome 81 [(2, v0), (0, v1)] Sh σ (some (0, o)) Sh σ) := ⟨(ite_ok h).1, Cn_of mk_X1_outcome.1.2.2.1 (Nat.le_of_ble_eq_true rfl) (fun sc => L_X1_outcome_b0 (ite_ok h).2)⟩
theorem d_X1_gainBy_0 : decode mt_X1_gainBy.2.1 0 = .ok (.aload_n 0, 1) := by decide +kernel
theorem d_X1_gainBy_1 : decode mt_X1_gainBy.2.1 1 = .ok (.iload_n 1, 1) := by decide +kernel
theorem d_X1_gainBy_2 : decode mt_X1_gainBy.2.1 2 = .ok (.invokevirtual 33, 3) := by decide +kernel
theorem d_X1_gainBy_5 : decode mt_X1_gainBy.2.1 5 = .ok (.ifCond .eq 23, 3) := by decide +kernel
theorem d_X1_gainBy_8 : decode mt_X1_gainBy.2.1 8 = .ok (.iconst 1, 1) := by decide +kernel
theorem d_X1_gainBy_9 : decode mt_X1_gainBy.2.1 9 = .ok (.iload_n 2, 1) := by decide +kernel
theorem d_X1_gainBy_10 : decode mt_X1_gainBy.2.1 10 = .ok (.iconst 1, 1) := by decide +kernel
theorem d_X1_gainBy_11 : decode mt_X1_gainBy.2.1 11 = .ok (.isub, 1) := by decide +kernel
theorem d_X1_gainBy_12 : decode mt_X1_gainBy.2.1 12 = .ok (.iconst 0, 1) := by decide +kernel
theorem d_X1_gainBy_13 : decode mt_X1_gainBy.2.1 13 = .ok (.aload_n 0, 1) := by decide +kernel
theorem d_X1_gainBy_14 : decode mt_X1_gainBy.2.1 14 = .ok (.getfield 22, 3) := by decide +kernel
theorem d_X1_gainBy_17 : decode mt_X1_gainBy.2.1 17 = .ok (.iconst 1, 1) := by decide +kernel
theorem d_X1_gainBy_18 : decode mt_X1_gainBy.2.1 18 = .ok (.isub, 1) := by decide +kernel
theorem d_X1_gainBy_19 : decode mt_X1_gainBy.2.1 19 = .ok (.aload_n 0, 1) := by decide +kernel
theorem d_X1_gainBy_20 : decode mt_X1_gainBy.2.1 20 = .ok (.getfield 25, 3) := by decide +kernel
theorem d_X1_gainBy_23 : decode mt_X1_gainBy.2.1 23 = .ok (.invokestatic 56, 3) := by decide +kernel
theorem d_X1_gainBy_26 : decode mt_X1_gainBy.2.1 26 = .ok (.iadd, 1) := by decide +kernel
theorem d_X1_gainBy_27 : decode mt_X1_gainBy.2.1 27 = .ok (.ireturn, 1) := by decide +kernel
theorem d_X1_gainBy_28 : decode mt_X1_gainBy.2.1 28 = .ok (.iload_n 2, 1) := by decide +kernel
theorem d_X1_gainBy_29 : decode mt_X1_gainBy.2.1 29 = .ok (.iconst 1, 1) := by decide +kernel
theorem d_X1_gainBy_30 : decode mt_X1_gainBy.2.1 30 = .ok (.isub, 1) := by decide +kernel
theorem d_X1_gainBy_31 : decode mt_X1_gainBy.2.1 31 = .ok (.iconst 0, 1) := by decide +kernel
theorem d_X1_gainBy_32 : decode mt_X1_gainBy.2.1 32 = .ok (.aload_n 0, 1) := by decide +kernel
theorem d_X1_gainBy_33 : decode mt_X1_gainBy.2.1 33 = .ok (.getfield 22, 3) := by decide +kernel
theorem d_X1_gainBy_36 : decode mt_X1_gainBy.2.1 36 = .ok (.aload_n 0, 1) := by decide +kernel
theorem d_X1_gainBy_37 : decode mt_X1_gainBy.2.1 37 = .ok (.iload_n 1, 1) := by decide +kernel
theorem d_X1_gainBy_38 : decode mt_X1_gainBy.2.1 38 = .ok (.invokevirtual 37, 3) := by decide +kernel
theorem d_X1_gainBy_41 : decode mt_X1_gainBy.2.1 41 = .ok (.ifCond .eq 12, 3) := by decide +kernel
theorem d_X1_gainBy_44 : decode mt_X1_gainBy.2.1 44 = .ok (.aload_n 0, 1) := by decide +kernel
theorem d_X1_gainBy_45 : decode mt_X1_gainBy.2.1 45 = .ok (.getfield 25, 3) := by decide +kernel
theorem d_X1_gainBy_48 : decode mt_X1_gainBy.2.1 48 = .ok (.iconst 1, 1) := by decide +kernel
theorem d_X1_gainBy_49 : decode mt_X1_gainBy.2.1 49 = .ok (.isub, 1) := by decide +kernel
theorem d_X1_gainBy_50 : decode mt_X1_gainBy.2.1 50 = .ok (.goto 7, 3) := by decide +kernel
theorem d_X1_gainBy_53 : decode mt_X1_gainBy.2.1 53 = .ok (.aload_n 0, 1) := by decide +kernel
theorem d_X1_gainBy_54 : decode mt_X1_gainBy.2.1 54 = .ok (.getfield 25, 3) := by decide +kernel
theorem d_X1_gainBy_57 : decode mt_X1_gainBy.2.1 57 = .ok (.invokestatic 56, 3) := by decide +kernel
theorem d_X1_gainBy_60 : decode mt_X1_gainBy.2.1 60 = .ok (.ireturn, 1) := by decide +kernel
noncomputable def f_X1_gainBy_b57 (s0 s1 s2 s3 : Int) (σ : Mem) : Option (Int) :=
  (f_X1_gain FR s3 s2 s1 s0 σ).bind fun r12 =>
  some (r12)
theorem L_X1_gainBy_b57 {sc : Nat × (Nat → Int32)} {o : Int} {σ : Mem} {s0 s1 s2 s3 : Int} (h : f_X1_gainBy_b57 s0 s1 s2 s3 σ = some o) : E sc (Fm Sh (some (0, o)) Sh σ) mt_X1_gainBy 81 Sh Sh 57 [(9, 0), (9, 0), (9, 0)] [(0, s0), (0, s1), (0, s2), (0, s3)] Sh σ := by
  unfold f_X1_gainBy_b57 at h
  refine bd h (fun r12 q13 h => ?_)
  refine E_cS (as := [(0, s3), (0, s2), (0, s1), (0, s0)]) (st := []) d_X1_gainBy_57 mk_X1_gain nl_X1_56 (by decide) ⟨rfl, rfl, Nat.le_of_ble_eq_true rfl⟩ (L_X1_gain FR q13) ?_
  cases h
  exact E_iret d_X1_gainBy_60 rfl
noncomputable def f_X1_gainBy_b0 (v0 v1 v2 : Int) (σ : Mem) : Option (Int) :=
  (f_X1_canSway v0 v1 σ).bind fun r1 =>
  if r1 = 0 then
    (gf Sh σ 1 v0 3).bind fun x3 =>
    (f_X1_canKeep v0 v1 σ).bind fun r4 =>
    if r4 = 0 then
      (gf Sh σ 1 v0 4).bind fun x6 =>
      f_X1_gainBy_b57 x6 x3 0 (w32 (v2 - 1)) σ
    else
      (gf Sh σ 1 v0 4).bind fun x7 =>
      f_X1_gainBy_b57 (w32 (x7 - 1)) x3 0 (w32 (v2 - 1)) σ
  else
    (gf Sh σ 1 v0 3).bind fun x8 =>
    (gf Sh σ 1 v0 4).bind fun x9 =>
    (f_X1_gain FR (w32 (v2 - 1)) 0 (w32 (x8 - 1)) x9 σ).bind fun r10 =>
    some (w32 (1 + r10))
theorem L_X1_gainBy_b0 {sc : Nat × (Nat → Int32)} {o : Int} {σ : Mem} {v0 v1 v2 : Int} (h : f_X1_gainBy_b0 v0 v1 v2 σ = some o) : E sc (Fm Sh (some (0, o)) Sh σ) mt_X1_gainBy 81 Sh Sh 0 [(2, v0), (0, v1), (0, v2)] [] Sh σ := by
  unfold f_X1_gainBy_b0 at h
  refine E_aload_n d_X1_gainBy_0 rfl (by decide) ?_
  refine E_iload_n d_X1_gainBy_1 rfl ?_
  refine bd h (fun r1 q2 h => ?_)
  refine E_cV (as := [(0, v1)]) (st := []) (a := v0) d_X1_gainBy_2 mk_X1_canSway nl_X1_33 (by omega) ⟨rfl, rfl, Nat.le_of_ble_eq_true rfl⟩ okX1 rfl (L_X1_canSway q2) ?_
  refine E_if_eq (tgt := 28) d_X1_gainBy_5 (by decide) h (fun _ h => ?_) (fun _ h => ?_)
  · refine E_iload_n d_X1_gainBy_28 rfl ?_
    refine E_iconst d_X1_gainBy_29 (c32 rfl) ?_
    refine E_isub d_X1_gainBy_30 ?_
    refine E_iconst d_X1_gainBy_31 (c32 rfl) ?_
    refine E_aload_n d_X1_gainBy_32 rfl (by decide) ?_
    refine E_get d_X1_gainBy_33 okX1 fl_X1_22 ⟨by decide, rfl⟩ h (fun x3 h => ?_)
    refine E_aload_n d_X1_gainBy_36 rfl (by decide) ?_
    refine E_iload_n d_X1_gainBy_37 rfl ?_
    refine bd h (fun r4 q5 h => ?_)
    refine E_cV (as := [(0, v1)]) (st := [(0, x3), (0, 0), (0, w32 (v2 - 1))]) (a := v0) d_X1_gainBy_38 mk_X1_canKeep nl_X1_37 (by omega) ⟨rfl, rfl, Nat.le_of_ble_eq_true rfl⟩ okX1 rfl (L_X1_canKeep q5) ?_
    refine E_if_eq (tgt := 53) d_X1_gainBy_41 (by decide) h (fun _ h => ?_) (fun _ h => ?_)
    · refine E_aload_n d_X1_gainBy_53 rfl (by decide) ?_
      refine E_get d_X1_gainBy_54 okX1 fl_X1_25 ⟨by decide, rfl⟩ h (fun x6 h => ?_)
      exact E_weak (ls' := [(9, 0), (9, 0), (9, 0)]) ⟨Or.inl rfl, Or.inl rfl, Or.inl rfl, trivial⟩ (L_X1_gainBy_b57 h)
    · refine E_aload_n d_X1_gainBy_44 rfl (by decide) ?_
      refine E_get d_X1_gainBy_45 okX1 fl_X1_25 ⟨by decide, rfl⟩ h (fun x7 h => ?_)
      refine E_iconst d_X1_gainBy_48 (c32 rfl) ?_
      refine E_isub d_X1_gainBy_49 ?_
      refine E_goto (tgt := 57) d_X1_gainBy_50 (by decide) ?_
      exact E_weak (ls' := [(9, 0), (9, 0), (9, 0)]) ⟨Or.inl rfl, Or.inl rfl, Or.inl rfl, trivial⟩ (L_X1_gainBy_b57 h)
  · refine E_iconst d_X1_gainBy_8 (c32 rfl) ?_
    refine E_iload_n d_X1_gainBy_9 rfl ?_
    refine E_iconst d_X1_gainBy_10 (c32 rfl) ?_
    refine E_isub d_X1_gainBy_11 ?_
    refine E_iconst d_X1_gainBy_12 (c32 rfl) ?_
    refine E_aload_n d_X1_gainBy_13 rfl (by decide) ?_
    refine E_get d_X1_gainBy_14 okX1 fl_X1_22 ⟨by decide, rfl⟩ h (fun x8 h => ?_)
    refine E_iconst d_X1_gainBy_17 (c32 rfl) ?_
    refine E_isub d_X1_gainBy_18 ?_
    refine E_aload_n d_X1_gainBy_19 rfl (by decide) ?_
    refine E_get d_X1_gainBy_20 okX1 fl_X1_25 ⟨by decide, rfl⟩ h (fun x9 h => ?_)
    refine bd h (fun r10 q11 h => ?_)
    refine E_cS (as := [(0, w32 (v2 - 1)), (0, 0), (0, w32 (x8 - 1)), (0, x9)]) (st := [(0, 1)]) d_X1_gainBy_23 mk_X1_gain nl_X1_56 (by decide) ⟨rfl, rfl, Nat.le_of_ble_eq_true rfl⟩ (L_X1_gain FR q11) ?_
    refine E_iadd d_X1_gainBy_26 ?_
    cases h
    exact E_iret d_X1_gainBy_27 rfl
noncomputable def f_X1_gainBy (v0 v1 v2 : Int) (σ : Mem) : Option (Int) := if isO Sh 1 v0 = true then f_X1_gainBy_b0 v0 v1 v2 σ else none
theorem L_X1_gainBy {o : Int} {v0 v1 v2 : Int} {σ : Mem} (h : f_X1_gainBy v0 v1 v2 σ = some o) : (isO Sh 1 v0 = true ∧ Cn mt_X1_gainBy 81 [(2, v0), (0, v1), (0, v2)] Sh σ (some (0, o)) Sh σ) := ⟨(ite_ok h).1, Cn_of mk_X1_gainBy.1.2.2.1 (Nat.le_of_ble_eq_true rfl) (fun sc => L_X1_gainBy_b0 (ite_ok h).2)⟩
theorem d_X1_firstMove_0 : decode mt_X1_firstMove.2.1 0 = .ok (.iload_n 1, 1) := by decide +kernel
theorem d_X1_firstMove_1 : decode mt_X1_firstMove.2.1 1 = .ok (.iconst 1, 1) := by decide +kernel
theorem d_X1_firstMove_2 : decode mt_X1_firstMove.2.1 2 = .ok (.aload_n 0, 1) := by decide +kernel
theorem d_X1_firstMove_3 : decode mt_X1_firstMove.2.1 3 = .ok (.getfield 22, 3) := by decide +kernel
theorem d_X1_firstMove_6 : decode mt_X1_firstMove.2.1 6 = .ok (.aload_n 0, 1) := by decide +kernel
theorem d_X1_firstMove_7 : decode mt_X1_firstMove.2.1 7 = .ok (.getfield 25, 3) := by decide +kernel
theorem d_X1_firstMove_10 : decode mt_X1_firstMove.2.1 10 = .ok (.invokestatic 56, 3) := by decide +kernel
theorem d_X1_firstMove_13 : decode mt_X1_firstMove.2.1 13 = .ok (.istore_n 2, 1) := by decide +kernel
theorem d_X1_firstMove_14 : decode mt_X1_firstMove.2.1 14 = .ok (.iconst 0, 1) := by decide +kernel
theorem d_X1_firstMove_15 : decode mt_X1_firstMove.2.1 15 = .ok (.istore_n 3, 1) := by decide +kernel
theorem d_X1_firstMove_16 : decode mt_X1_firstMove.2.1 16 = .ok (.iload_n 3, 1) := by decide +kernel
theorem d_X1_firstMove_17 : decode mt_X1_firstMove.2.1 17 = .ok (.aload_n 0, 1) := by decide +kernel
theorem d_X1_firstMove_18 : decode mt_X1_firstMove.2.1 18 = .ok (.getfield 9, 3) := by decide +kernel
theorem d_X1_firstMove_21 : decode mt_X1_firstMove.2.1 21 = .ok (.getfield 28, 3) := by decide +kernel
theorem d_X1_firstMove_24 : decode mt_X1_firstMove.2.1 24 = .ok (.if_icmp .ge 33, 3) := by decide +kernel
theorem d_X1_firstMove_27 : decode mt_X1_firstMove.2.1 27 = .ok (.aload_n 0, 1) := by decide +kernel
theorem d_X1_firstMove_28 : decode mt_X1_firstMove.2.1 28 = .ok (.getfield 9, 3) := by decide +kernel
theorem d_X1_firstMove_31 : decode mt_X1_firstMove.2.1 31 = .ok (.iload_n 3, 1) := by decide +kernel
theorem d_X1_firstMove_32 : decode mt_X1_firstMove.2.1 32 = .ok (.i2l, 1) := by decide +kernel
theorem d_X1_firstMove_33 : decode mt_X1_firstMove.2.1 33 = .ok (.invokevirtual 44, 3) := by decide +kernel
theorem d_X1_firstMove_36 : decode mt_X1_firstMove.2.1 36 = .ok (.ifCond .eq 15, 3) := by decide +kernel
theorem d_X1_firstMove_39 : decode mt_X1_firstMove.2.1 39 = .ok (.aload_n 0, 1) := by decide +kernel
theorem d_X1_firstMove_40 : decode mt_X1_firstMove.2.1 40 = .ok (.iload_n 3, 1) := by decide +kernel
theorem d_X1_firstMove_41 : decode mt_X1_firstMove.2.1 41 = .ok (.iload_n 1, 1) := by decide +kernel
theorem d_X1_firstMove_42 : decode mt_X1_firstMove.2.1 42 = .ok (.invokevirtual 68, 3) := by decide +kernel
theorem d_X1_firstMove_45 : decode mt_X1_firstMove.2.1 45 = .ok (.iload_n 2, 1) := by decide +kernel
theorem d_X1_firstMove_46 : decode mt_X1_firstMove.2.1 46 = .ok (.if_icmp .ne 5, 3) := by decide +kernel
theorem d_X1_firstMove_49 : decode mt_X1_firstMove.2.1 49 = .ok (.iload_n 3, 1) := by decide +kernel
theorem d_X1_firstMove_50 : decode mt_X1_firstMove.2.1 50 = .ok (.ireturn, 1) := by decide +kernel
theorem d_X1_firstMove_51 : decode mt_X1_firstMove.2.1 51 = .ok (.iinc 3 1, 3) := by decide +kernel
theorem d_X1_firstMove_54 : decode mt_X1_firstMove.2.1 54 = .ok (.goto (-38), 3) := by decide +kernel
theorem d_X1_firstMove_57 : decode mt_X1_firstMove.2.1 57 = .ok (.iconst (-1), 1) := by decide +kernel
theorem d_X1_firstMove_58 : decode mt_X1_firstMove.2.1 58 = .ok (.ireturn, 1) := by decide +kernel
noncomputable def f_X1_firstMove_b51 (k16 : (Int → Int → Int → Int → Mem → Option (Int))) (v0 v1 v2 v3 : Int) (σ : Mem) : Option (Int) :=
  k16 v0 v1 v2 (w32 (v3 + 1)) σ
theorem L_X1_firstMove_b51 {sc : Nat × (Nat → Int32)} {o : Int} {σ : Mem} {k16 : (Int → Int → Int → Int → Mem → Option (Int))} (hk16 : ∀ {v0 v1 v2 v3 : Int}, k16 v0 v1 v2 v3 σ = some o → E sc (Fm Sh (some (0, o)) Sh σ) mt_X1_firstMove 82 Sh Sh 16 [(2, v0), (0, v1), (0, v2), (0, v3)] [] Sh σ) {v0 v1 v2 v3 : Int} (h : f_X1_firstMove_b51 k16 v0 v1 v2 v3 σ = some o) : E sc (Fm Sh (some (0, o)) Sh σ) mt_X1_firstMove 82 Sh Sh 51 [(2, v0), (0, v1), (0, v2), (0, v3)] [] Sh σ := by
  unfold f_X1_firstMove_b51 at h
  refine E_iinc d_X1_firstMove_51 (ls' := [(2, v0), (0, v1), (0, v2), (0, w32 (v3 + 1))]) rfl ⟨by decide, rfl⟩ ?_
  refine E_goto (tgt := 16) d_X1_firstMove_54 (by decide) ?_
  exact (hk16 h)
noncomputable def f_X1_firstMove_b16 (k16 : (Int → Int → Int → Int → Mem → Option (Int))) (v0 v1 v2 v3 : Int) (σ : Mem) : Option (Int) :=
  (gf Sh σ 1 v0 0).bind fun x5 =>
  (gf Sh σ 9 x5 0).bind fun x6 =>
  if x6 ≤ v3 then
    some ((-1))
  else
    (gf Sh σ 1 v0 0).bind fun x7 =>
    (f_X9_isStone x7 v3 σ).bind fun r8 =>
    if r8 = 0 then
      f_X1_firstMove_b51 k16 v0 v1 v2 v3 σ
    else
      (f_X1_gainBy v0 v3 v1 σ).bind fun r10 =>
      if r10 = v2 then
        some (v3)
      else
        f_X1_firstMove_b51 k16 v0 v1 v2 v3 σ
theorem L_X1_firstMove_b16 {sc : Nat × (Nat → Int32)} {o : Int} {σ : Mem} {k16 : (Int → Int → Int → Int → Mem → Option (Int))} (hk16 : ∀ {v0 v1 v2 v3 : Int}, k16 v0 v1 v2 v3 σ = some o → E sc (Fm Sh (some (0, o)) Sh σ) mt_X1_firstMove 82 Sh Sh 16 [(2, v0), (0, v1), (0, v2), (0, v3)] [] Sh σ) {v0 v1 v2 v3 : Int} (h : f_X1_firstMove_b16 k16 v0 v1 v2 v3 σ = some o) : E sc (Fm Sh (some (0, o)) Sh σ) mt_X1_firstMove 82 Sh Sh 16 [(2, v0), (0, v1), (0, v2), (0, v3)] [] Sh σ := by
  unfold f_X1_firstMove_b16 at h
  refine E_iload_n d_X1_firstMove_16 rfl ?_
  refine E_aload_n d_X1_firstMove_17 rfl (by decide) ?_
  refine E_get d_X1_firstMove_18 okX1 fl_X1_9 ⟨by decide, rfl⟩ h (fun x5 h => ?_)
  refine E_get d_X1_firstMove_21 okX9 fl_X1_28 ⟨by decide, rfl⟩ h (fun x6 h => ?_)
  refine E_icmp_ge (tgt := 57) d_X1_firstMove_24 (by decide) h (fun _ h => ?_) (fun _ h => ?_)
  · refine E_iconst d_X1_firstMove_57 (c32 rfl) ?_
    cases h
    exact E_iret d_X1_firstMove_58 rfl
  · refine E_aload_n d_X1_firstMove_27 rfl (by decide) ?_
    refine E_get d_X1_firstMove_28 okX1 fl_X1_9 ⟨by decide, rfl⟩ h (fun x7 h => ?_)
    refine E_iload_n d_X1_firstMove_31 rfl ?_
    refine E_i2l d_X1_firstMove_32 ?_
    refine bd h (fun r8 q9 h => ?_)
    refine E_cV (as := [(1, v3)]) (st := []) (a := x7) d_X1_firstMove_33 mk_X9_isStone nl_X1_44 (by omega) ⟨rfl, rfl, Nat.le_of_ble_eq_true rfl⟩ okX9 rfl (L_X9_isStone q9) ?_
    refine E_if_eq (tgt := 51) d_X1_firstMove_36 (by decide) h (fun _ h => ?_) (fun _ h => ?_)
    · exact (L_X1_firstMove_b51 hk16 h)
    · refine E_aload_n d_X1_firstMove_39 rfl (by decide) ?_
      refine E_iload_n d_X1_firstMove_40 rfl ?_
      refine E_iload_n d_X1_firstMove_41 rfl ?_
      refine bd h (fun r10 q11 h => ?_)
      refine E_cV (as := [(0, v3), (0, v1)]) (st := []) (a := v0) d_X1_firstMove_42 mk_X1_gainBy nl_X1_68 (by omega) ⟨rfl, rfl, Nat.le_of_ble_eq_true rfl⟩ okX1 rfl (L_X1_gainBy q11) ?_
      refine E_iload_n d_X1_firstMove_45 rfl ?_
      refine E_icmp_ne (tgt := 51) d_X1_firstMove_46 (by decide) h (fun _ h => ?_) (fun _ h => ?_)
      · refine E_iload_n d_X1_firstMove_49 rfl ?_
        cases h
        exact E_iret d_X1_firstMove_50 rfl
      · exact (L_X1_firstMove_b51 hk16 h)
noncomputable def f_X1_firstMove_h16 (n : Nat) : Int → Int → Int → Int → Mem → Option (Int) := Nat.rec (motive := fun _ => Int → Int → Int → Int → Mem → Option (Int)) (fun _ _ _ _ _ => none) (fun _ ih => f_X1_firstMove_b16 (ih)) n
theorem L_X1_firstMove_h16 {sc : Nat × (Nat → Int32)} {o : Int} {σ : Mem} : ∀ (n : Nat) {v0 v1 v2 v3 : Int}, f_X1_firstMove_h16 n v0 v1 v2 v3 σ = some o → E sc (Fm Sh (some (0, o)) Sh σ) mt_X1_firstMove 82 Sh Sh 16 [(2, v0), (0, v1), (0, v2), (0, v3)] [] Sh σ := by
  intro n
  induction n with
  | zero => intro v0 v1 v2 v3 h; cases h
  | succ n ih => intro v0 v1 v2 v3 h; exact L_X1_firstMove_b16 (@ih) h
noncomputable def f_X1_firstMove_b0 (v0 v1 : Int) (σ : Mem) : Option (Int) :=
  (gf Sh σ 1 v0 3).bind fun x1 =>
  (gf Sh σ 1 v0 4).bind fun x2 =>
  (f_X1_gain FR v1 1 x1 x2 σ).bind fun r3 =>
  f_X1_firstMove_h16 FU v0 v1 r3 0 σ
theorem L_X1_firstMove_b0 {sc : Nat × (Nat → Int32)} {o : Int} {σ : Mem} {v0 v1 : Int} (h : f_X1_firstMove_b0 v0 v1 σ = some o) : E sc (Fm Sh (some (0, o)) Sh σ) mt_X1_firstMove 82 Sh Sh 0 [(2, v0), (0, v1), (9, 0), (9, 0)] [] Sh σ := by
  unfold f_X1_firstMove_b0 at h
  refine E_iload_n d_X1_firstMove_0 rfl ?_
  refine E_iconst d_X1_firstMove_1 (c32 rfl) ?_
  refine E_aload_n d_X1_firstMove_2 rfl (by decide) ?_
  refine E_get d_X1_firstMove_3 okX1 fl_X1_22 ⟨by decide, rfl⟩ h (fun x1 h => ?_)
  refine E_aload_n d_X1_firstMove_6 rfl (by decide) ?_
  refine E_get d_X1_firstMove_7 okX1 fl_X1_25 ⟨by decide, rfl⟩ h (fun x2 h => ?_)
  refine bd h (fun r3 q4 h => ?_)
  refine E_cS (as := [(0, v1), (0, 1), (0, x1), (0, x2)]) (st := []) d_X1_firstMove_10 mk_X1_gain nl_X1_56 (by decide) ⟨rfl, rfl, Nat.le_of_ble_eq_true rfl⟩ (L_X1_gain FR q4) ?_
  refine E_istore_n d_X1_firstMove_13 (ls' := [(2, v0), (0, v1), (0, r3), (9, 0)]) ⟨by decide, rfl⟩ ?_
  refine E_iconst d_X1_firstMove_14 (c32 rfl) ?_
  refine E_istore_n d_X1_firstMove_15 (ls' := [(2, v0), (0, v1), (0, r3), (0, 0)]) ⟨by decide, rfl⟩ ?_
  exact (L_X1_firstMove_h16 FU h)
noncomputable def f_X1_firstMove (v0 v1 : Int) (σ : Mem) : Option (Int) := if isO Sh 1 v0 = true then f_X1_firstMove_b0 v0 v1 σ else none
theorem L_X1_firstMove {o : Int} {v0 v1 : Int} {σ : Mem} (h : f_X1_firstMove v0 v1 σ = some o) : (isO Sh 1 v0 = true ∧ Cn mt_X1_firstMove 82 [(2, v0), (0, v1)] Sh σ (some (0, o)) Sh σ) := ⟨(ite_ok h).1, Cn_of mk_X1_firstMove.1.2.2.1 (Nat.le_of_ble_eq_true rfl) (fun sc => L_X1_firstMove_b0 (ite_ok h).2)⟩
theorem d_X2_commonDivisor_0 : decode mt_X2_commonDivisor.2.1 0 = .ok (.lload_n 0, 1) := by decide +kernel
theorem d_X2_commonDivisor_1 : decode mt_X2_commonDivisor.2.1 1 = .ok (.lstore 4, 2) := by decide +kernel
theorem d_X2_commonDivisor_3 : decode mt_X2_commonDivisor.2.1 3 = .ok (.lload_n 2, 1) := by decide +kernel
theorem d_X2_commonDivisor_4 : decode mt_X2_commonDivisor.2.1 4 = .ok (.lstore 6, 2) := by decide +kernel
theorem d_X2_commonDivisor_6 : decode mt_X2_commonDivisor.2.1 6 = .ok (.iconst 0, 1) := by decide +kernel
theorem d_X2_commonDivisor_7 : decode mt_X2_commonDivisor.2.1 7 = .ok (.istore 8, 2) := by decide +kernel
theorem d_X2_commonDivisor_9 : decode mt_X2_commonDivisor.2.1 9 = .ok (.iload 8, 2) := by decide +kernel
theorem d_X2_commonDivisor_11 : decode mt_X2_commonDivisor.2.1 11 = .ok (.sipush 200, 3) := by decide +kernel
theorem d_X2_commonDivisor_14 : decode mt_X2_commonDivisor.2.1 14 = .ok (.if_icmp .ge 31, 3) := by decide +kernel
theorem d_X2_commonDivisor_17 : decode mt_X2_commonDivisor.2.1 17 = .ok (.lload 6, 2) := by decide +kernel
theorem d_X2_commonDivisor_19 : decode mt_X2_commonDivisor.2.1 19 = .ok (.lconst 0, 1) := by decide +kernel
theorem d_X2_commonDivisor_20 : decode mt_X2_commonDivisor.2.1 20 = .ok (.lcmp, 1) := by decide +kernel
theorem d_X2_commonDivisor_21 : decode mt_X2_commonDivisor.2.1 21 = .ok (.ifCond .eq 24, 3) := by decide +kernel
theorem d_X2_commonDivisor_24 : decode mt_X2_commonDivisor.2.1 24 = .ok (.lload 4, 2) := by decide +kernel
theorem d_X2_commonDivisor_26 : decode mt_X2_commonDivisor.2.1 26 = .ok (.lload 6, 2) := by decide +kernel
theorem d_X2_commonDivisor_28 : decode mt_X2_commonDivisor.2.1 28 = .ok (.lrem, 1) := by decide +kernel
theorem d_X2_commonDivisor_29 : decode mt_X2_commonDivisor.2.1 29 = .ok (.lstore 9, 2) := by decide +kernel
theorem d_X2_commonDivisor_31 : decode mt_X2_commonDivisor.2.1 31 = .ok (.lload 6, 2) := by decide +kernel
theorem d_X2_commonDivisor_33 : decode mt_X2_commonDivisor.2.1 33 = .ok (.lstore 4, 2) := by decide +kernel
theorem d_X2_commonDivisor_35 : decode mt_X2_commonDivisor.2.1 35 = .ok (.lload 9, 2) := by decide +kernel
theorem d_X2_commonDivisor_37 : decode mt_X2_commonDivisor.2.1 37 = .ok (.lstore 6, 2) := by decide +kernel
theorem d_X2_commonDivisor_39 : decode mt_X2_commonDivisor.2.1 39 = .ok (.iinc 8 1, 3) := by decide +kernel
theorem d_X2_commonDivisor_42 : decode mt_X2_commonDivisor.2.1 42 = .ok (.goto (-33), 3) := by decide +kernel
theorem d_X2_commonDivisor_45 : decode mt_X2_commonDivisor.2.1 45 = .ok (.lload 4, 2) := by decide +kernel
theorem d_X2_commonDivisor_47 : decode mt_X2_commonDivisor.2.1 47 = .ok (.lreturn, 1) := by decide +kernel
noncomputable def f_X2_commonDivisor_b9 (k9 : (Int → Int → Int → Mem → Option (Int))) (v4 v6 v8 : Int) (σ : Mem) : Option (Int) :=
  if 200 ≤ v8 then
    some (v4)
  else
    if lcmp v6 0 = 0 then
      some (v4)
    else
      (nz v6).bind fun _ =>
      k9 v6 (w64 (Int.tmod v4 v6)) (w32 (v8 + 1)) σ
theorem L_X2_commonDivisor_b9 {sc : Nat × (Nat → Int32)} {o : Int} {σ : Mem} {k9 : (Int → Int → Int → Mem → Option (Int))} (hk9 : ∀ {v4 v6 v8 : Int}, k9 v4 v6 v8 σ = some o → E sc (Fm Sh (some (1, o)) Sh σ) mt_X2_commonDivisor 1 Sh Sh 9 [(9, 0), (9, 0), (9, 0), (9, 0), (1, v4), (9, 0), (1, v6), (9, 0), (0, v8), (9, 0), (9, 0)] [] Sh σ) {v4 v6 v8 : Int} (h : f_X2_commonDivisor_b9 k9 v4 v6 v8 σ = some o) : E sc (Fm Sh (some (1, o)) Sh σ) mt_X2_commonDivisor 1 Sh Sh 9 [(9, 0), (9, 0), (9, 0), (9, 0), (1, v4), (9, 0), (1, v6), (9, 0), (0, v8), (9, 0), (9, 0)] [] Sh σ := by
  unfold f_X2_commonDivisor_b9 at h
  refine E_iload d_X2_commonDivisor_9 rfl ?_
  refine E_sipush d_X2_commonDivisor_11 (c16 rfl) ?_
  refine E_icmp_ge (tgt := 45) d_X2_commonDivisor_14 (by decide) h (fun _ h => ?_) (fun _ h => ?_)
  · refine E_lload d_X2_commonDivisor_45 rfl ?_
    cases h
    exact E_lret d_X2_commonDivisor_47 rfl
  · refine E_lload d_X2_commonDivisor_17 rfl ?_
    refine E_lconst d_X2_commonDivisor_19 cl0 ?_
    refine E_lcmp d_X2_commonDivisor_20 ?_
    refine E_if_eq (tgt := 45) d_X2_commonDivisor_21 (by decide) h (fun _ h => ?_) (fun _ h => ?_)
    · refine E_lload d_X2_commonDivisor_45 rfl ?_
      cases h
      exact E_lret d_X2_commonDivisor_47 rfl
    · refine E_lload d_X2_commonDivisor_24 rfl ?_
      refine E_lload d_X2_commonDivisor_26 rfl ?_
      refine bd_nz h (fun q1 h => ?_)
      refine E_lrem d_X2_commonDivisor_28 q1 ?_
      refine E_lstore d_X2_commonDivisor_29 (ls' := [(9, 0), (9, 0), (9, 0), (9, 0), (1, v4), (9, 0), (1, v6), (9, 0), (0, v8), (1, w64 (Int.tmod v4 v6)), (9, 0)]) ⟨by decide, rfl⟩ ?_
      refine E_lload d_X2_commonDivisor_31 rfl ?_
      refine E_lstore d_X2_commonDivisor_33 (ls' := [(9, 0), (9, 0), (9, 0), (9, 0), (1, v6), (9, 0), (1, v6), (9, 0), (0, v8), (1, w64 (Int.tmod v4 v6)), (9, 0)]) ⟨by decide, rfl⟩ ?_
      refine E_lload d_X2_commonDivisor_35 rfl ?_
      refine E_lstore d_X2_commonDivisor_37 (ls' := [(9, 0), (9, 0), (9, 0), (9, 0), (1, v6), (9, 0), (1, w64 (Int.tmod v4 v6)), (9, 0), (0, v8), (1, w64 (Int.tmod v4 v6)), (9, 0)]) ⟨by decide, rfl⟩ ?_
      refine E_iinc d_X2_commonDivisor_39 (ls' := [(9, 0), (9, 0), (9, 0), (9, 0), (1, v6), (9, 0), (1, w64 (Int.tmod v4 v6)), (9, 0), (0, w32 (v8 + 1)), (1, w64 (Int.tmod v4 v6)), (9, 0)]) rfl ⟨by decide, rfl⟩ ?_
      refine E_goto (tgt := 9) d_X2_commonDivisor_42 (by decide) ?_
      exact E_weak (ls' := [(9, 0), (9, 0), (9, 0), (9, 0), (1, v6), (9, 0), (1, w64 (Int.tmod v4 v6)), (9, 0), (0, w32 (v8 + 1)), (9, 0), (9, 0)]) ⟨Or.inl rfl, Or.inl rfl, Or.inl rfl, Or.inl rfl, Or.inr rfl, Or.inl rfl, Or.inr rfl, Or.inl rfl, Or.inr rfl, Or.inl rfl, Or.inl rfl, trivial⟩ (hk9 h)
noncomputable def f_X2_commonDivisor_h9 (n : Nat) : Int → Int → Int → Mem → Option (Int) := Nat.rec (motive := fun _ => Int → Int → Int → Mem → Option (Int)) (fun _ _ _ _ => none) (fun _ ih => f_X2_commonDivisor_b9 (ih)) n
theorem L_X2_commonDivisor_h9 {sc : Nat × (Nat → Int32)} {o : Int} {σ : Mem} : ∀ (n : Nat) {v4 v6 v8 : Int}, f_X2_commonDivisor_h9 n v4 v6 v8 σ = some o → E sc (Fm Sh (some (1, o)) Sh σ) mt_X2_commonDivisor 1 Sh Sh 9 [(9, 0), (9, 0), (9, 0), (9, 0), (1, v4), (9, 0), (1, v6), (9, 0), (0, v8), (9, 0), (9, 0)] [] Sh σ := by
  intro n
  induction n with
  | zero => intro v4 v6 v8 h; cases h
  | succ n ih => intro v4 v6 v8 h; exact L_X2_commonDivisor_b9 (@ih) h
noncomputable def f_X2_commonDivisor_b0 (v0 v2 : Int) (σ : Mem) : Option (Int) :=
  f_X2_commonDivisor_h9 FU v0 v2 0 σ
theorem L_X2_commonDivisor_b0 {sc : Nat × (Nat → Int32)} {o : Int} {σ : Mem} {v0 v2 : Int} (h : f_X2_commonDivisor_b0 v0 v2 σ = some o) : E sc (Fm Sh (some (1, o)) Sh σ) mt_X2_commonDivisor 1 Sh Sh 0 [(1, v0), (9, 0), (1, v2), (9, 0), (9, 0), (9, 0), (9, 0), (9, 0), (9, 0), (9, 0), (9, 0)] [] Sh σ := by
  unfold f_X2_commonDivisor_b0 at h
  refine E_lload_n d_X2_commonDivisor_0 rfl ?_
  refine E_lstore d_X2_commonDivisor_1 (ls' := [(1, v0), (9, 0), (1, v2), (9, 0), (1, v0), (9, 0), (9, 0), (9, 0), (9, 0), (9, 0), (9, 0)]) ⟨by decide, rfl⟩ ?_
  refine E_lload_n d_X2_commonDivisor_3 rfl ?_
  refine E_lstore d_X2_commonDivisor_4 (ls' := [(1, v0), (9, 0), (1, v2), (9, 0), (1, v0), (9, 0), (1, v2), (9, 0), (9, 0), (9, 0), (9, 0)]) ⟨by decide, rfl⟩ ?_
  refine E_iconst d_X2_commonDivisor_6 (c32 rfl) ?_
  refine E_istore d_X2_commonDivisor_7 (ls' := [(1, v0), (9, 0), (1, v2), (9, 0), (1, v0), (9, 0), (1, v2), (9, 0), (0, 0), (9, 0), (9, 0)]) ⟨by decide, rfl⟩ ?_
  exact E_weak (ls' := [(9, 0), (9, 0), (9, 0), (9, 0), (1, v0), (9, 0), (1, v2), (9, 0), (0, 0), (9, 0), (9, 0)]) ⟨Or.inl rfl, Or.inl rfl, Or.inl rfl, Or.inl rfl, Or.inr rfl, Or.inl rfl, Or.inr rfl, Or.inl rfl, Or.inr rfl, Or.inl rfl, Or.inl rfl, trivial⟩ (L_X2_commonDivisor_h9 FU h)
noncomputable def f_X2_commonDivisor (v0 v2 : Int) (σ : Mem) : Option (Int) := f_X2_commonDivisor_b0 v0 v2 σ
theorem L_X2_commonDivisor {o : Int} {v0 v2 : Int} {σ : Mem} (h : f_X2_commonDivisor v0 v2 σ = some o) : Cn mt_X2_commonDivisor 1 [(1, v0), (1, v2)] Sh σ (some (1, o)) Sh σ := Cn_of mk_X2_commonDivisor.1.2.2.1 (Nat.le_of_ble_eq_true rfl) (fun sc => L_X2_commonDivisor_b0 h)
theorem d_X2_tell_0 : decode mt_X2_tell.2.1 0 = .ok (.lload_n 1, 1) := by decide +kernel
theorem d_X2_tell_1 : decode mt_X2_tell.2.1 1 = .ok (.lload_n 3, 1) := by decide +kernel
theorem d_X2_tell_2 : decode mt_X2_tell.2.1 2 = .ok (.invokestatic 15, 3) := by decide +kernel
theorem d_X2_tell_5 : decode mt_X2_tell.2.1 5 = .ok (.lstore 5, 2) := by decide +kernel
theorem d_X2_tell_7 : decode mt_X2_tell.2.1 7 = .ok (.lload 5, 2) := by decide +kernel
theorem d_X2_tell_9 : decode mt_X2_tell.2.1 9 = .ok (.lconst 0, 1) := by decide +kernel
theorem d_X2_tell_10 : decode mt_X2_tell.2.1 10 = .ok (.lcmp, 1) := by decide +kernel
theorem d_X2_tell_11 : decode mt_X2_tell.2.1 11 = .ok (.ifCond .le 19, 3) := by decide +kernel
theorem d_X2_tell_14 : decode mt_X2_tell.2.1 14 = .ok (.aload_n 0, 1) := by decide +kernel
theorem d_X2_tell_15 : decode mt_X2_tell.2.1 15 = .ok (.lload_n 1, 1) := by decide +kernel
theorem d_X2_tell_16 : decode mt_X2_tell.2.1 16 = .ok (.lload 5, 2) := by decide +kernel
theorem d_X2_tell_18 : decode mt_X2_tell.2.1 18 = .ok (.ldiv, 1) := by decide +kernel
theorem d_X2_tell_19 : decode mt_X2_tell.2.1 19 = .ok (.putfield 19, 3) := by decide +kernel
theorem d_X2_tell_22 : decode mt_X2_tell.2.1 22 = .ok (.aload_n 0, 1) := by decide +kernel
theorem d_X2_tell_23 : decode mt_X2_tell.2.1 23 = .ok (.lload_n 3, 1) := by decide +kernel
theorem d_X2_tell_24 : decode mt_X2_tell.2.1 24 = .ok (.lload 5, 2) := by decide +kernel
theorem d_X2_tell_26 : decode mt_X2_tell.2.1 26 = .ok (.ldiv, 1) := by decide +kernel
theorem d_X2_tell_27 : decode mt_X2_tell.2.1 27 = .ok (.putfield 9, 3) := by decide +kernel
theorem d_X2_tell_30 : decode mt_X2_tell.2.1 30 = .ok (.return_, 1) := by decide +kernel
noncomputable def f_X2_tell_b0 (v0 v1 v3 : Int) (σ : Mem) : Option (Mem) :=
  (f_X2_commonDivisor v1 v3 σ).bind fun r1 =>
  if lcmp r1 0 ≤ 0 then
    some σ
  else
    (nz r1).bind fun _ =>
    (pf Sh σ 2 v0 0 (w64 (Int.tdiv v1 r1))).bind fun σ4 =>
    (nz r1).bind fun _ =>
    (pf Sh σ4 2 v0 1 (w64 (Int.tdiv v3 r1))).bind fun σ6 =>
    some σ6
theorem L_X2_tell_b0 {sc : Nat × (Nat → Int32)} {o : Mem} {v0 v1 v3 : Int} {σ : Mem} (h : f_X2_tell_b0 v0 v1 v3 σ = some o) : E sc (Fm Sh none Sh o) mt_X2_tell 2 Sh Sh 0 [(2, v0), (1, v1), (9, 0), (1, v3), (9, 0), (9, 0), (9, 0)] [] Sh σ := by
  unfold f_X2_tell_b0 at h
  refine E_lload_n d_X2_tell_0 rfl ?_
  refine E_lload_n d_X2_tell_1 rfl ?_
  refine bd h (fun r1 q2 h => ?_)
  refine E_cS (as := [(1, v1), (1, v3)]) (st := []) d_X2_tell_2 mk_X2_commonDivisor nl_X2_15 (by omega) ⟨rfl, rfl, Nat.le_of_ble_eq_true rfl⟩ (L_X2_commonDivisor q2) ?_
  refine E_lstore d_X2_tell_5 (ls' := [(2, v0), (1, v1), (9, 0), (1, v3), (9, 0), (1, r1), (9, 0)]) ⟨by decide, rfl⟩ ?_
  refine E_lload d_X2_tell_7 rfl ?_
  refine E_lconst d_X2_tell_9 cl0 ?_
  refine E_lcmp d_X2_tell_10 ?_
  refine E_if_le (tgt := 30) d_X2_tell_11 (by decide) h (fun _ h => ?_) (fun _ h => ?_)
  · cases h
    exact E_vret d_X2_tell_30 rfl
  · refine E_aload_n d_X2_tell_14 rfl (by decide) ?_
    refine E_lload_n d_X2_tell_15 rfl ?_
    refine E_lload d_X2_tell_16 rfl ?_
    refine bd_nz h (fun q3 h => ?_)
    refine E_ldiv d_X2_tell_18 q3 ?_
    refine E_put d_X2_tell_19 okX2 fl_X2_19 ⟨by decide, rfl⟩ (Or.inr (Or.inl ⟨rfl, rfl⟩)) (Or.inl rfl) h (fun σ4 h => ?_)
    refine E_aload_n d_X2_tell_22 rfl (by decide) ?_
    refine E_lload_n d_X2_tell_23 rfl ?_
    refine E_lload d_X2_tell_24 rfl ?_
    refine bd_nz h (fun q5 h => ?_)
    refine E_ldiv d_X2_tell_26 q5 ?_
    refine E_put d_X2_tell_27 okX2 fl_X2_9 ⟨by decide, rfl⟩ (Or.inr (Or.inl ⟨rfl, rfl⟩)) (Or.inl rfl) h (fun σ6 h => ?_)
    cases h
    exact E_vret d_X2_tell_30 rfl
noncomputable def f_X2_tell (v0 v1 v3 : Int) (σ : Mem) : Option (Mem) := if isO Sh 2 v0 = true then f_X2_tell_b0 v0 v1 v3 σ else none
theorem L_X2_tell {o : Mem} {v0 v1 v3 : Int} {σ : Mem} (h : f_X2_tell v0 v1 v3 σ = some o) : (isO Sh 2 v0 = true ∧ Cn mt_X2_tell 2 [(2, v0), (1, v1), (1, v3)] Sh σ none Sh o) := ⟨(ite_ok h).1, Cn_of mk_X2_tell.1.2.2.1 (Nat.le_of_ble_eq_true rfl) (fun sc => L_X2_tell_b0 (ite_ok h).2)⟩
theorem d_X2_power_0 : decode mt_X2_power.2.1 0 = .ok (.lconst 1, 1) := by decide +kernel
theorem d_X2_power_1 : decode mt_X2_power.2.1 1 = .ok (.lstore_n 3, 1) := by decide +kernel
theorem d_X2_power_2 : decode mt_X2_power.2.1 2 = .ok (.iconst 0, 1) := by decide +kernel
theorem d_X2_power_3 : decode mt_X2_power.2.1 3 = .ok (.istore 5, 2) := by decide +kernel
theorem d_X2_power_5 : decode mt_X2_power.2.1 5 = .ok (.iload 5, 2) := by decide +kernel
theorem d_X2_power_7 : decode mt_X2_power.2.1 7 = .ok (.iload_n 2, 1) := by decide +kernel
theorem d_X2_power_8 : decode mt_X2_power.2.1 8 = .ok (.if_icmp .ge 13, 3) := by decide +kernel
theorem d_X2_power_11 : decode mt_X2_power.2.1 11 = .ok (.lload_n 3, 1) := by decide +kernel
theorem d_X2_power_12 : decode mt_X2_power.2.1 12 = .ok (.lload_n 0, 1) := by decide +kernel
theorem d_X2_power_13 : decode mt_X2_power.2.1 13 = .ok (.lmul, 1) := by decide +kernel
theorem d_X2_power_14 : decode mt_X2_power.2.1 14 = .ok (.lstore_n 3, 1) := by decide +kernel
theorem d_X2_power_15 : decode mt_X2_power.2.1 15 = .ok (.iinc 5 1, 3) := by decide +kernel
theorem d_X2_power_18 : decode mt_X2_power.2.1 18 = .ok (.goto (-13), 3) := by decide +kernel
theorem d_X2_power_21 : decode mt_X2_power.2.1 21 = .ok (.lload_n 3, 1) := by decide +kernel
theorem d_X2_power_22 : decode mt_X2_power.2.1 22 = .ok (.lreturn, 1) := by decide +kernel
noncomputable def f_X2_power_b5 (k5 : (Int → Int → Int → Int → Mem → Option (Int))) (v0 v2 v3 v5 : Int) (σ : Mem) : Option (Int) :=
  if v2 ≤ v5 then
    some (v3)
  else
    k5 v0 v2 (w64 (v3 * v0)) (w32 (v5 + 1)) σ
theorem L_X2_power_b5 {sc : Nat × (Nat → Int32)} {o : Int} {σ : Mem} {k5 : (Int → Int → Int → Int → Mem → Option (Int))} (hk5 : ∀ {v0 v2 v3 v5 : Int}, k5 v0 v2 v3 v5 σ = some o → E sc (Fm Sh (some (1, o)) Sh σ) mt_X2_power 1 Sh Sh 5 [(1, v0), (9, 0), (0, v2), (1, v3), (9, 0), (0, v5)] [] Sh σ) {v0 v2 v3 v5 : Int} (h : f_X2_power_b5 k5 v0 v2 v3 v5 σ = some o) : E sc (Fm Sh (some (1, o)) Sh σ) mt_X2_power 1 Sh Sh 5 [(1, v0), (9, 0), (0, v2), (1, v3), (9, 0), (0, v5)] [] Sh σ := by
  unfold f_X2_power_b5 at h
  refine E_iload d_X2_power_5 rfl ?_
  refine E_iload_n d_X2_power_7 rfl ?_
  refine E_icmp_ge (tgt := 21) d_X2_power_8 (by decide) h (fun _ h => ?_) (fun _ h => ?_)
  · refine E_lload_n d_X2_power_21 rfl ?_
    cases h
    exact E_lret d_X2_power_22 rfl
  · refine E_lload_n d_X2_power_11 rfl ?_
    refine E_lload_n d_X2_power_12 rfl ?_
    refine E_lmul d_X2_power_13 ?_
    refine E_lstore_n d_X2_power_14 (ls' := [(1, v0), (9, 0), (0, v2), (1, w64 (v3 * v0)), (9, 0), (0, v5)]) ⟨by decide, rfl⟩ ?_
    refine E_iinc d_X2_power_15 (ls' := [(1, v0), (9, 0), (0, v2), (1, w64 (v3 * v0)), (9, 0), (0, w32 (v5 + 1))]) rfl ⟨by decide, rfl⟩ ?_
    refine E_goto (tgt := 5) d_X2_power_18 (by decide) ?_
    exact (hk5 h)
noncomputable def f_X2_power_h5 (n : Nat) : Int → Int → Int → Int → Mem → Option (Int) := Nat.rec (motive := fun _ => Int → Int → Int → Int → Mem → Option (Int)) (fun _ _ _ _ _ => none) (fun _ ih => f_X2_power_b5 (ih)) n
theorem L_X2_power_h5 {sc : Nat × (Nat → Int32)} {o : Int} {σ : Mem} : ∀ (n : Nat) {v0 v2 v3 v5 : Int}, f_X2_power_h5 n v0 v2 v3 v5 σ = some o → E sc (Fm Sh (some (1, o)) Sh σ) mt_X2_power 1 Sh Sh 5 [(1, v0), (9, 0), (0, v2), (1, v3), (9, 0), (0, v5)] [] Sh σ := by
  intro n
  induction n with
  | zero => intro v0 v2 v3 v5 h; cases h
  | succ n ih => intro v0 v2 v3 v5 h; exact L_X2_power_b5 (@ih) h
noncomputable def f_X2_power_b0 (v0 v2 : Int) (σ : Mem) : Option (Int) :=
  f_X2_power_h5 FU v0 v2 1 0 σ
theorem L_X2_power_b0 {sc : Nat × (Nat → Int32)} {o : Int} {σ : Mem} {v0 v2 : Int} (h : f_X2_power_b0 v0 v2 σ = some o) : E sc (Fm Sh (some (1, o)) Sh σ) mt_X2_power 1 Sh Sh 0 [(1, v0), (9, 0), (0, v2), (9, 0), (9, 0), (9, 0)] [] Sh σ := by
  unfold f_X2_power_b0 at h
  refine E_lconst d_X2_power_0 cl1 ?_
  refine E_lstore_n d_X2_power_1 (ls' := [(1, v0), (9, 0), (0, v2), (1, 1), (9, 0), (9, 0)]) ⟨by decide, rfl⟩ ?_
  refine E_iconst d_X2_power_2 (c32 rfl) ?_
  refine E_istore d_X2_power_3 (ls' := [(1, v0), (9, 0), (0, v2), (1, 1), (9, 0), (0, 0)]) ⟨by decide, rfl⟩ ?_
  exact (L_X2_power_h5 FU h)
noncomputable def f_X2_power (v0 v2 : Int) (σ : Mem) : Option (Int) := f_X2_power_b0 v0 v2 σ
theorem L_X2_power {o : Int} {v0 v2 : Int} {σ : Mem} (h : f_X2_power v0 v2 σ = some o) : Cn mt_X2_power 1 [(1, v0), (0, v2)] Sh σ (some (1, o)) Sh σ := Cn_of mk_X2_power.1.2.2.1 (Nat.le_of_ble_eq_true rfl) (fun sc => L_X2_power_b0 h)
theorem d_X2_tellAtLeast_0 : decode mt_X2_tellAtLeast.2.1 0 = .ok (.lconst 0, 1) := by decide +kernel
theorem d_X2_tellAtLeast_1 : decode mt_X2_tellAtLeast.2.1 1 = .ok (.lstore 4, 2) := by decide +kernel
theorem d_X2_tellAtLeast_3 : decode mt_X2_tellAtLeast.2.1 3 = .ok (.lconst 1, 1) := by decide +kernel
theorem d_X2_tellAtLeast_4 : decode mt_X2_tellAtLeast.2.1 4 = .ok (.lstore 6, 2) := by decide +kernel
theorem d_X2_tellAtLeast_6 : decode mt_X2_tellAtLeast.2.1 6 = .ok (.iconst 0, 1) := by decide +kernel
theorem d_X2_tellAtLeast_7 : decode mt_X2_tellAtLeast.2.1 7 = .ok (.istore 8, 2) := by decide +kernel
theorem d_X2_tellAtLeast_9 : decode mt_X2_tellAtLeast.2.1 9 = .ok (.iload 8, 2) := by decide +kernel
theorem d_X2_tellAtLeast_11 : decode mt_X2_tellAtLeast.2.1 11 = .ok (.iload_n 2, 1) := by decide +kernel
theorem d_X2_tellAtLeast_12 : decode mt_X2_tellAtLeast.2.1 12 = .ok (.if_icmp .gt 59, 3) := by decide +kernel
theorem d_X2_tellAtLeast_15 : decode mt_X2_tellAtLeast.2.1 15 = .ok (.iload 8, 2) := by decide +kernel
theorem d_X2_tellAtLeast_17 : decode mt_X2_tellAtLeast.2.1 17 = .ok (.iload_n 1, 1) := by decide +kernel
theorem d_X2_tellAtLeast_18 : decode mt_X2_tellAtLeast.2.1 18 = .ok (.if_icmp .lt 31, 3) := by decide +kernel
theorem d_X2_tellAtLeast_21 : decode mt_X2_tellAtLeast.2.1 21 = .ok (.lload 4, 2) := by decide +kernel
theorem d_X2_tellAtLeast_23 : decode mt_X2_tellAtLeast.2.1 23 = .ok (.lload 6, 2) := by decide +kernel
theorem d_X2_tellAtLeast_25 : decode mt_X2_tellAtLeast.2.1 25 = .ok (.iload_n 3, 1) := by decide +kernel
theorem d_X2_tellAtLeast_26 : decode mt_X2_tellAtLeast.2.1 26 = .ok (.i2l, 1) := by decide +kernel
theorem d_X2_tellAtLeast_27 : decode mt_X2_tellAtLeast.2.1 27 = .ok (.iload 8, 2) := by decide +kernel
theorem d_X2_tellAtLeast_29 : decode mt_X2_tellAtLeast.2.1 29 = .ok (.invokestatic 22, 3) := by decide +kernel
theorem d_X2_tellAtLeast_32 : decode mt_X2_tellAtLeast.2.1 32 = .ok (.lmul, 1) := by decide +kernel
theorem d_X2_tellAtLeast_33 : decode mt_X2_tellAtLeast.2.1 33 = .ok (.bipush 16, 2) := by decide +kernel
theorem d_X2_tellAtLeast_35 : decode mt_X2_tellAtLeast.2.1 35 = .ok (.iload_n 3, 1) := by decide +kernel
theorem d_X2_tellAtLeast_36 : decode mt_X2_tellAtLeast.2.1 36 = .ok (.isub, 1) := by decide +kernel
theorem d_X2_tellAtLeast_37 : decode mt_X2_tellAtLeast.2.1 37 = .ok (.i2l, 1) := by decide +kernel
theorem d_X2_tellAtLeast_38 : decode mt_X2_tellAtLeast.2.1 38 = .ok (.iload_n 2, 1) := by decide +kernel
theorem d_X2_tellAtLeast_39 : decode mt_X2_tellAtLeast.2.1 39 = .ok (.iload 8, 2) := by decide +kernel
theorem d_X2_tellAtLeast_41 : decode mt_X2_tellAtLeast.2.1 41 = .ok (.isub, 1) := by decide +kernel
theorem d_X2_tellAtLeast_42 : decode mt_X2_tellAtLeast.2.1 42 = .ok (.invokestatic 22, 3) := by decide +kernel
theorem d_X2_tellAtLeast_45 : decode mt_X2_tellAtLeast.2.1 45 = .ok (.lmul, 1) := by decide +kernel
theorem d_X2_tellAtLeast_46 : decode mt_X2_tellAtLeast.2.1 46 = .ok (.ladd, 1) := by decide +kernel
theorem d_X2_tellAtLeast_47 : decode mt_X2_tellAtLeast.2.1 47 = .ok (.lstore 4, 2) := by decide +kernel
theorem d_X2_tellAtLeast_49 : decode mt_X2_tellAtLeast.2.1 49 = .ok (.lload 6, 2) := by decide +kernel
theorem d_X2_tellAtLeast_51 : decode mt_X2_tellAtLeast.2.1 51 = .ok (.iload_n 2, 1) := by decide +kernel
theorem d_X2_tellAtLeast_52 : decode mt_X2_tellAtLeast.2.1 52 = .ok (.iload 8, 2) := by decide +kernel
theorem d_X2_tellAtLeast_54 : decode mt_X2_tellAtLeast.2.1 54 = .ok (.isub, 1) := by decide +kernel
theorem d_X2_tellAtLeast_55 : decode mt_X2_tellAtLeast.2.1 55 = .ok (.i2l, 1) := by decide +kernel
theorem d_X2_tellAtLeast_56 : decode mt_X2_tellAtLeast.2.1 56 = .ok (.lmul, 1) := by decide +kernel
theorem d_X2_tellAtLeast_57 : decode mt_X2_tellAtLeast.2.1 57 = .ok (.iload 8, 2) := by decide +kernel
theorem d_X2_tellAtLeast_59 : decode mt_X2_tellAtLeast.2.1 59 = .ok (.iconst 1, 1) := by decide +kernel
theorem d_X2_tellAtLeast_60 : decode mt_X2_tellAtLeast.2.1 60 = .ok (.iadd, 1) := by decide +kernel
theorem d_X2_tellAtLeast_61 : decode mt_X2_tellAtLeast.2.1 61 = .ok (.i2l, 1) := by decide +kernel
theorem d_X2_tellAtLeast_62 : decode mt_X2_tellAtLeast.2.1 62 = .ok (.ldiv, 1) := by decide +kernel
theorem d_X2_tellAtLeast_63 : decode mt_X2_tellAtLeast.2.1 63 = .ok (.lstore 6, 2) := by decide +kernel
theorem d_X2_tellAtLeast_65 : decode mt_X2_tellAtLeast.2.1 65 = .ok (.iinc 8 1, 3) := by decide +kernel
theorem d_X2_tellAtLeast_68 : decode mt_X2_tellAtLeast.2.1 68 = .ok (.goto (-59), 3) := by decide +kernel
theorem d_X2_tellAtLeast_71 : decode mt_X2_tellAtLeast.2.1 71 = .ok (.aload_n 0, 1) := by decide +kernel
theorem d_X2_tellAtLeast_72 : decode mt_X2_tellAtLeast.2.1 72 = .ok (.lload 4, 2) := by decide +kernel
theorem d_X2_tellAtLeast_74 : decode mt_X2_tellAtLeast.2.1 74 = .ok (.ldc2_w 26, 3) := by decide +kernel
theorem d_X2_tellAtLeast_77 : decode mt_X2_tellAtLeast.2.1 77 = .ok (.iload_n 2, 1) := by decide +kernel
theorem d_X2_tellAtLeast_78 : decode mt_X2_tellAtLeast.2.1 78 = .ok (.invokestatic 22, 3) := by decide +kernel
theorem d_X2_tellAtLeast_81 : decode mt_X2_tellAtLeast.2.1 81 = .ok (.invokevirtual 28, 3) := by decide +kernel
theorem d_X2_tellAtLeast_84 : decode mt_X2_tellAtLeast.2.1 84 = .ok (.return_, 1) := by decide +kernel
noncomputable def f_X2_tellAtLeast_b49 (k9 : (Int → Int → Int → Int → Int → Int → Int → Mem → Option (Mem))) (v0 v1 v2 v3 v4 v6 v8 : Int) (σ : Mem) : Option (Mem) :=
  (nz (w32 (v8 + 1))).bind fun _ =>
  k9 v0 v1 v2 v3 v4 (w64 (Int.tdiv (w64 (v6 * (w32 (v2 - v8)))) (w32 (v8 + 1)))) (w32 (v8 + 1)) σ
theorem L_X2_tellAtLeast_b49 {sc : Nat × (Nat → Int32)} {o : Mem} {k9 : (Int → Int → Int → Int → Int → Int → Int → Mem → Option (Mem))} (hk9 : ∀ {v0 v1 v2 v3 v4 v6 v8 : Int} {σ : Mem}, k9 v0 v1 v2 v3 v4 v6 v8 σ = some o → E sc (Fm Sh none Sh o) mt_X2_tellAtLeast 3 Sh Sh 9 [(2, v0), (0, v1), (0, v2), (0, v3), (1, v4), (9, 0), (1, v6), (9, 0), (0, v8)] [] Sh σ) {v0 v1 v2 v3 v4 v6 v8 : Int} {σ : Mem} (h : f_X2_tellAtLeast_b49 k9 v0 v1 v2 v3 v4 v6 v8 σ = some o) : E sc (Fm Sh none Sh o) mt_X2_tellAtLeast 3 Sh Sh 49 [(2, v0), (0, v1), (0, v2), (0, v3), (1, v4), (9, 0), (1, v6), (9, 0), (0, v8)] [] Sh σ := by
  unfold f_X2_tellAtLeast_b49 at h
  refine E_lload d_X2_tellAtLeast_49 rfl ?_
  refine E_iload_n d_X2_tellAtLeast_51 rfl ?_
  refine E_iload d_X2_tellAtLeast_52 rfl ?_
  refine E_isub d_X2_tellAtLeast_54 ?_
  refine E_i2l d_X2_tellAtLeast_55 ?_
  refine E_lmul d_X2_tellAtLeast_56 ?_
  refine E_iload d_X2_tellAtLeast_57 rfl ?_
  refine E_iconst d_X2_tellAtLeast_59 (c32 rfl) ?_
  refine E_iadd d_X2_tellAtLeast_60 ?_
  refine E_i2l d_X2_tellAtLeast_61 ?_
  refine bd_nz h (fun q9 h => ?_)
  refine E_ldiv d_X2_tellAtLeast_62 q9 ?_
  refine E_lstore d_X2_tellAtLeast_63 (ls' := [(2, v0), (0, v1), (0, v2), (0, v3), (1, v4), (9, 0), (1, w64 (Int.tdiv (w64 (v6 * (w32 (v2 - v8)))) (w32 (v8 + 1)))), (9, 0), (0, v8)]) ⟨by decide, rfl⟩ ?_
  refine E_iinc d_X2_tellAtLeast_65 (ls' := [(2, v0), (0, v1), (0, v2), (0, v3), (1, v4), (9, 0), (1, w64 (Int.tdiv (w64 (v6 * (w32 (v2 - v8)))) (w32 (v8 + 1)))), (9, 0), (0, w32 (v8 + 1))]) rfl ⟨by decide, rfl⟩ ?_
  refine E_goto (tgt := 9) d_X2_tellAtLeast_68 (by decide) ?_
  exact (hk9 h)
noncomputable def f_X2_tellAtLeast_b9 (k9 : (Int → Int → Int → Int → Int → Int → Int → Mem → Option (Mem))) (v0 v1 v2 v3 v4 v6 v8 : Int) (σ : Mem) : Option (Mem) :=
  if v2 < v8 then
    (f_X2_power 16 v2 σ).bind fun r1 =>
    (f_X2_tell v0 v4 r1 σ).bind fun r3 =>
    some r3
  else
    if v8 < v1 then
      f_X2_tellAtLeast_b49 k9 v0 v1 v2 v3 v4 v6 v8 σ
    else
      (f_X2_power v3 v8 σ).bind fun r5 =>
      (f_X2_power (w32 (16 - v3)) (w32 (v2 - v8)) σ).bind fun r7 =>
      f_X2_tellAtLeast_b49 k9 v0 v1 v2 v3 (w64 (v4 + (w64 ((w64 (v6 * r5)) * r7)))) v6 v8 σ
theorem L_X2_tellAtLeast_b9 {sc : Nat × (Nat → Int32)} {o : Mem} {k9 : (Int → Int → Int → Int → Int → Int → Int → Mem → Option (Mem))} (hk9 : ∀ {v0 v1 v2 v3 v4 v6 v8 : Int} {σ : Mem}, k9 v0 v1 v2 v3 v4 v6 v8 σ = some o → E sc (Fm Sh none Sh o) mt_X2_tellAtLeast 3 Sh Sh 9 [(2, v0), (0, v1), (0, v2), (0, v3), (1, v4), (9, 0), (1, v6), (9, 0), (0, v8)] [] Sh σ) {v0 v1 v2 v3 v4 v6 v8 : Int} {σ : Mem} (h : f_X2_tellAtLeast_b9 k9 v0 v1 v2 v3 v4 v6 v8 σ = some o) : E sc (Fm Sh none Sh o) mt_X2_tellAtLeast 3 Sh Sh 9 [(2, v0), (0, v1), (0, v2), (0, v3), (1, v4), (9, 0), (1, v6), (9, 0), (0, v8)] [] Sh σ := by
  unfold f_X2_tellAtLeast_b9 at h
  refine E_iload d_X2_tellAtLeast_9 rfl ?_
  refine E_iload_n d_X2_tellAtLeast_11 rfl ?_
  refine E_icmp_gt (tgt := 71) d_X2_tellAtLeast_12 (by decide) h (fun _ h => ?_) (fun _ h => ?_)
  · refine E_aload_n d_X2_tellAtLeast_71 rfl (by decide) ?_
    refine E_lload d_X2_tellAtLeast_72 rfl ?_
    refine E_ldc2 d_X2_tellAtLeast_74 kw_X2_26 ?_
    refine E_iload_n d_X2_tellAtLeast_77 rfl ?_
    refine bd h (fun r1 q2 h => ?_)
    refine E_cS (as := [(1, 16), (0, v2)]) (st := [(1, v4), (2, v0)]) d_X2_tellAtLeast_78 mk_X2_power nl_X2_22 (by omega) ⟨rfl, rfl, Nat.le_of_ble_eq_true rfl⟩ (L_X2_power q2) ?_
    refine bd h (fun r3 q4 h => ?_)
    refine E_cVv (as := [(1, v4), (1, r1)]) (st := []) (a := v0) d_X2_tellAtLeast_81 mk_X2_tell nl_X2_28 (by omega) ⟨rfl, rfl, Nat.le_of_ble_eq_true rfl⟩ okX2 rfl (L_X2_tell q4) ?_
    cases h
    exact E_vret d_X2_tellAtLeast_84 rfl
  · refine E_iload d_X2_tellAtLeast_15 rfl ?_
    refine E_iload_n d_X2_tellAtLeast_17 rfl ?_
    refine E_icmp_lt (tgt := 49) d_X2_tellAtLeast_18 (by decide) h (fun _ h => ?_) (fun _ h => ?_)
    · exact (L_X2_tellAtLeast_b49 hk9 h)
    · refine E_lload d_X2_tellAtLeast_21 rfl ?_
      refine E_lload d_X2_tellAtLeast_23 rfl ?_
      refine E_iload_n d_X2_tellAtLeast_25 rfl ?_
      refine E_i2l d_X2_tellAtLeast_26 ?_
      refine E_iload d_X2_tellAtLeast_27 rfl ?_
      refine bd h (fun r5 q6 h => ?_)
      refine E_cS (as := [(1, v3), (0, v8)]) (st := [(1, v6), (1, v4)]) d_X2_tellAtLeast_29 mk_X2_power nl_X2_22 (by omega) ⟨rfl, rfl, Nat.le_of_ble_eq_true rfl⟩ (L_X2_power q6) ?_
      refine E_lmul d_X2_tellAtLeast_32 ?_
      refine E_bipush d_X2_tellAtLeast_33 (c8 rfl) ?_
      refine E_iload_n d_X2_tellAtLeast_35 rfl ?_
      refine E_isub d_X2_tellAtLeast_36 ?_
      refine E_i2l d_X2_tellAtLeast_37 ?_
      refine E_iload_n d_X2_tellAtLeast_38 rfl ?_
      refine E_iload d_X2_tellAtLeast_39 rfl ?_
      refine E_isub d_X2_tellAtLeast_41 ?_
      refine bd h (fun r7 q8 h => ?_)
      refine E_cS (as := [(1, w32 (16 - v3)), (0, w32 (v2 - v8))]) (st := [(1, w64 (v6 * r5)), (1, v4)]) d_X2_tellAtLeast_42 mk_X2_power nl_X2_22 (by omega) ⟨rfl, rfl, Nat.le_of_ble_eq_true rfl⟩ (L_X2_power q8) ?_
      refine E_lmul d_X2_tellAtLeast_45 ?_
      refine E_ladd d_X2_tellAtLeast_46 ?_
      refine E_lstore d_X2_tellAtLeast_47 (ls' := [(2, v0), (0, v1), (0, v2), (0, v3), (1, w64 (v4 + (w64 ((w64 (v6 * r5)) * r7)))), (9, 0), (1, v6), (9, 0), (0, v8)]) ⟨by decide, rfl⟩ ?_
      exact (L_X2_tellAtLeast_b49 hk9 h)
noncomputable def f_X2_tellAtLeast_h9 (n : Nat) : Int → Int → Int → Int → Int → Int → Int → Mem → Option (Mem) := Nat.rec (motive := fun _ => Int → Int → Int → Int → Int → Int → Int → Mem → Option (Mem)) (fun _ _ _ _ _ _ _ _ => none) (fun _ ih => f_X2_tellAtLeast_b9 (ih)) n
theorem L_X2_tellAtLeast_h9 {sc : Nat × (Nat → Int32)} {o : Mem} : ∀ (n : Nat) {v0 v1 v2 v3 v4 v6 v8 : Int} {σ : Mem}, f_X2_tellAtLeast_h9 n v0 v1 v2 v3 v4 v6 v8 σ = some o → E sc (Fm Sh none Sh o) mt_X2_tellAtLeast 3 Sh Sh 9 [(2, v0), (0, v1), (0, v2), (0, v3), (1, v4), (9, 0), (1, v6), (9, 0), (0, v8)] [] Sh σ := by
  intro n
  induction n with
  | zero => intro v0 v1 v2 v3 v4 v6 v8 σ h; cases h
  | succ n ih => intro v0 v1 v2 v3 v4 v6 v8 σ h; exact L_X2_tellAtLeast_b9 (@ih) h
noncomputable def f_X2_tellAtLeast_b0 (v0 v1 v2 v3 : Int) (σ : Mem) : Option (Mem) :=
  f_X2_tellAtLeast_h9 FU v0 v1 v2 v3 0 1 0 σ
theorem L_X2_tellAtLeast_b0 {sc : Nat × (Nat → Int32)} {o : Mem} {v0 v1 v2 v3 : Int} {σ : Mem} (h : f_X2_tellAtLeast_b0 v0 v1 v2 v3 σ = some o) : E sc (Fm Sh none Sh o) mt_X2_tellAtLeast 3 Sh Sh 0 [(2, v0), (0, v1), (0, v2), (0, v3), (9, 0), (9, 0), (9, 0), (9, 0), (9, 0)] [] Sh σ := by
  unfold f_X2_tellAtLeast_b0 at h
  refine E_lconst d_X2_tellAtLeast_0 cl0 ?_
  refine E_lstore d_X2_tellAtLeast_1 (ls' := [(2, v0), (0, v1), (0, v2), (0, v3), (1, 0), (9, 0), (9, 0), (9, 0), (9, 0)]) ⟨by decide, rfl⟩ ?_
  refine E_lconst d_X2_tellAtLeast_3 cl1 ?_
  refine E_lstore d_X2_tellAtLeast_4 (ls' := [(2, v0), (0, v1), (0, v2), (0, v3), (1, 0), (9, 0), (1, 1), (9, 0), (9, 0)]) ⟨by decide, rfl⟩ ?_
  refine E_iconst d_X2_tellAtLeast_6 (c32 rfl) ?_
  refine E_istore d_X2_tellAtLeast_7 (ls' := [(2, v0), (0, v1), (0, v2), (0, v3), (1, 0), (9, 0), (1, 1), (9, 0), (0, 0)]) ⟨by decide, rfl⟩ ?_
  exact (L_X2_tellAtLeast_h9 FU h)
noncomputable def f_X2_tellAtLeast (v0 v1 v2 v3 : Int) (σ : Mem) : Option (Mem) := if isO Sh 2 v0 = true then f_X2_tellAtLeast_b0 v0 v1 v2 v3 σ else none
theorem L_X2_tellAtLeast {o : Mem} {v0 v1 v2 v3 : Int} {σ : Mem} (h : f_X2_tellAtLeast v0 v1 v2 v3 σ = some o) : (isO Sh 2 v0 = true ∧ Cn mt_X2_tellAtLeast 3 [(2, v0), (0, v1), (0, v2), (0, v3)] Sh σ none Sh o) := ⟨(ite_ok h).1, Cn_of mk_X2_tellAtLeast.1.2.2.1 (Nat.le_of_ble_eq_true rfl) (fun sc => L_X2_tellAtLeast_b0 (ite_ok h).2)⟩
theorem d_X4_draw_0 : decode mt_X4_draw.2.1 0 = .ok (.aload_n 0, 1) := by decide +kernel
theorem d_X4_draw_1 : decode mt_X4_draw.2.1 1 = .ok (.aload_n 0, 1) := by decide +kernel
theorem d_X4_draw_2 : decode mt_X4_draw.2.1 2 = .ok (.getfield 23, 3) := by decide +kernel
theorem d_X4_draw_5 : decode mt_X4_draw.2.1 5 = .ok (.sipush 2971, 3) := by decide +kernel
theorem d_X4_draw_8 : decode mt_X4_draw.2.1 8 = .ok (.imul, 1) := by decide +kernel
theorem d_X4_draw_9 : decode mt_X4_draw.2.1 9 = .ok (.sipush 10903, 3) := by decide +kernel
theorem d_X4_draw_12 : decode mt_X4_draw.2.1 12 = .ok (.iadd, 1) := by decide +kernel
theorem d_X4_draw_13 : decode mt_X4_draw.2.1 13 = .ok (.ldc 139, 2) := by decide +kernel
theorem d_X4_draw_15 : decode mt_X4_draw.2.1 15 = .ok (.irem, 1) := by decide +kernel
theorem d_X4_draw_16 : decode mt_X4_draw.2.1 16 = .ok (.putfield 23, 3) := by decide +kernel
theorem d_X4_draw_19 : decode mt_X4_draw.2.1 19 = .ok (.iload_n 1, 1) := by decide +kernel
theorem d_X4_draw_20 : decode mt_X4_draw.2.1 20 = .ok (.ifCond .le 15, 3) := by decide +kernel
theorem d_X4_draw_23 : decode mt_X4_draw.2.1 23 = .ok (.aload_n 0, 1) := by decide +kernel
theorem d_X4_draw_24 : decode mt_X4_draw.2.1 24 = .ok (.getfield 23, 3) := by decide +kernel
theorem d_X4_draw_27 : decode mt_X4_draw.2.1 27 = .ok (.bipush 8, 2) := by decide +kernel
theorem d_X4_draw_29 : decode mt_X4_draw.2.1 29 = .ok (.idiv, 1) := by decide +kernel
theorem d_X4_draw_30 : decode mt_X4_draw.2.1 30 = .ok (.iload_n 1, 1) := by decide +kernel
theorem d_X4_draw_31 : decode mt_X4_draw.2.1 31 = .ok (.irem, 1) := by decide +kernel
theorem d_X4_draw_32 : decode mt_X4_draw.2.1 32 = .ok (.goto 4, 3) := by decide +kernel
theorem d_X4_draw_35 : decode mt_X4_draw.2.1 35 = .ok (.iconst 0, 1) := by decide +kernel
theorem d_X4_draw_36 : decode mt_X4_draw.2.1 36 = .ok (.ireturn, 1) := by decide +kernel
noncomputable def f_X4_draw_b0 (v0 v1 : Int) (σ : Mem) : Option (Int × Mem) :=
  (gf Sh σ 4 v0 3).bind fun x1 =>
  (pf Sh σ 4 v0 3 (w32 (Int.tmod (w32 (w32 (x1 * 2971) + 10903)) 65536))).bind fun σ2 =>
  if v1 ≤ 0 then
    some (0, σ2)
  else
    (gf Sh σ2 4 v0 3).bind fun x3 =>
    (nz v1).bind fun _ =>
    some (w32 (Int.tmod (w32 (Int.tdiv x3 8)) v1), σ2)
theorem L_X4_draw_b0 {sc : Nat × (Nat → Int32)} {o : Int × Mem} {v0 v1 : Int} {σ : Mem} (h : f_X4_draw_b0 v0 v1 σ = some o) : E sc (Fm Sh (some (0, o.1)) Sh o.2) mt_X4_draw 1 Sh Sh 0 [(2, v0), (0, v1)] [] Sh σ := by
  unfold f_X4_draw_b0 at h
  refine E_aload_n d_X4_draw_0 rfl (by decide) ?_
  refine E_aload_n d_X4_draw_1 rfl (by decide) ?_
  refine E_get d_X4_draw_2 okX4 fl_X4_23 ⟨by decide, rfl⟩ h (fun x1 h => ?_)
  refine E_sipush d_X4_draw_5 (c16 rfl) ?_
  refine E_imul d_X4_draw_8 ?_
  refine E_sipush d_X4_draw_9 (c16 rfl) ?_
  refine E_iadd d_X4_draw_12 ?_
  refine E_ldc d_X4_draw_13 kw_X4_139 ?_
  refine E_irem d_X4_draw_15 (by decide) ?_
  refine E_put d_X4_draw_16 okX4 fl_X4_23 ⟨by decide, rfl⟩ (Or.inl ⟨rfl, rfl⟩) (Or.inl rfl) h (fun σ2 h => ?_)
  refine E_iload_n d_X4_draw_19 rfl ?_
  refine E_if_le (tgt := 35) d_X4_draw_20 (by decide) h (fun _ h => ?_) (fun _ h => ?_)
  · refine E_iconst d_X4_draw_35 (c32 rfl) ?_
    cases h
    exact E_iret d_X4_draw_36 rfl
  · refine E_aload_n d_X4_draw_23 rfl (by decide) ?_
    refine E_get d_X4_draw_24 okX4 fl_X4_23 ⟨by decide, rfl⟩ h (fun x3 h => ?_)
    refine E_bipush d_X4_draw_27 (c8 rfl) ?_
    refine E_idiv d_X4_draw_29 (by decide) ?_
    refine E_iload_n d_X4_draw_30 rfl ?_
    refine bd_nz h (fun q4 h => ?_)
    refine E_irem d_X4_draw_31 q4 ?_
    refine E_goto (tgt := 36) d_X4_draw_32 (by decide) ?_
    cases h
    exact E_iret d_X4_draw_36 rfl
noncomputable def f_X4_draw (v0 v1 : Int) (σ : Mem) : Option (Int × Mem) := if isO Sh 4 v0 = true then f_X4_draw_b0 v0 v1 σ else none
theorem L_X4_draw {o : Int × Mem} {v0 v1 : Int} {σ : Mem} (h : f_X4_draw v0 v1 σ = some o) : (isO Sh 4 v0 = true ∧ Cn mt_X4_draw 1 [(2, v0), (0, v1)] Sh σ (some (0, o.1)) Sh o.2) := ⟨(ite_ok h).1, Cn_of mk_X4_draw.1.2.2.1 (Nat.le_of_ble_eq_true rfl) (fun sc => L_X4_draw_b0 (ite_ok h).2)⟩
theorem d_X4_triesAny_0 : decode mt_X4_triesAny.2.1 0 = .ok (.aload_n 0, 1) := by decide +kernel
theorem d_X4_triesAny_1 : decode mt_X4_triesAny.2.1 1 = .ok (.getfield 19, 3) := by decide +kernel
theorem d_X4_triesAny_4 : decode mt_X4_triesAny.2.1 4 = .ok (.getfield 130, 3) := by decide +kernel
theorem d_X4_triesAny_7 : decode mt_X4_triesAny.2.1 7 = .ok (.ifCond .ne 5, 3) := by decide +kernel
theorem d_X4_triesAny_10 : decode mt_X4_triesAny.2.1 10 = .ok (.iconst 0, 1) := by decide +kernel
theorem d_X4_triesAny_11 : decode mt_X4_triesAny.2.1 11 = .ok (.ireturn, 1) := by decide +kernel
theorem d_X4_triesAny_12 : decode mt_X4_triesAny.2.1 12 = .ok (.aload_n 0, 1) := by decide +kernel
theorem d_X4_triesAny_13 : decode mt_X4_triesAny.2.1 13 = .ok (.bipush 16, 2) := by decide +kernel
theorem d_X4_triesAny_15 : decode mt_X4_triesAny.2.1 15 = .ok (.invokevirtual 133, 3) := by decide +kernel
theorem d_X4_triesAny_18 : decode mt_X4_triesAny.2.1 18 = .ok (.aload_n 0, 1) := by decide +kernel
theorem d_X4_triesAny_19 : decode mt_X4_triesAny.2.1 19 = .ok (.getfield 19, 3) := by decide +kernel
theorem d_X4_triesAny_22 : decode mt_X4_triesAny.2.1 22 = .ok (.getfield 136, 3) := by decide +kernel
theorem d_X4_triesAny_25 : decode mt_X4_triesAny.2.1 25 = .ok (.if_icmp .ge 7, 3) := by decide +kernel
theorem d_X4_triesAny_28 : decode mt_X4_triesAny.2.1 28 = .ok (.iconst 1, 1) := by decide +kernel
theorem d_X4_triesAny_29 : decode mt_X4_triesAny.2.1 29 = .ok (.goto 4, 3) := by decide +kernel
theorem d_X4_triesAny_32 : decode mt_X4_triesAny.2.1 32 = .ok (.iconst 0, 1) := by decide +kernel
theorem d_X4_triesAny_33 : decode mt_X4_triesAny.2.1 33 = .ok (.istore_n 1, 1) := by decide +kernel
theorem d_X4_triesAny_34 : decode mt_X4_triesAny.2.1 34 = .ok (.aload_n 0, 1) := by decide +kernel
theorem d_X4_triesAny_35 : decode mt_X4_triesAny.2.1 35 = .ok (.bipush 40, 2) := by decide +kernel
theorem d_X4_triesAny_37 : decode mt_X4_triesAny.2.1 37 = .ok (.invokevirtual 133, 3) := by decide +kernel
theorem d_X4_triesAny_40 : decode mt_X4_triesAny.2.1 40 = .ok (.istore_n 2, 1) := by decide +kernel
theorem d_X4_triesAny_41 : decode mt_X4_triesAny.2.1 41 = .ok (.aload_n 0, 1) := by decide +kernel
theorem d_X4_triesAny_42 : decode mt_X4_triesAny.2.1 42 = .ok (.getfield 19, 3) := by decide +kernel
theorem d_X4_triesAny_45 : decode mt_X4_triesAny.2.1 45 = .ok (.iload_n 2, 1) := by decide +kernel
theorem d_X4_triesAny_46 : decode mt_X4_triesAny.2.1 46 = .ok (.aload_n 0, 1) := by decide +kernel
theorem d_X4_triesAny_47 : decode mt_X4_triesAny.2.1 47 = .ok (.aload_n 0, 1) := by decide +kernel
theorem d_X4_triesAny_48 : decode mt_X4_triesAny.2.1 48 = .ok (.getfield 19, 3) := by decide +kernel
theorem d_X4_triesAny_51 : decode mt_X4_triesAny.2.1 51 = .ok (.getfield 130, 3) := by decide +kernel
theorem d_X4_triesAny_54 : decode mt_X4_triesAny.2.1 54 = .ok (.invokevirtual 133, 3) := by decide +kernel
theorem d_X4_triesAny_57 : decode mt_X4_triesAny.2.1 57 = .ok (.iload_n 1, 1) := by decide +kernel
theorem d_X4_triesAny_58 : decode mt_X4_triesAny.2.1 58 = .ok (.invokevirtual 112, 3) := by decide +kernel
theorem d_X4_triesAny_61 : decode mt_X4_triesAny.2.1 61 = .ok (.iload_n 1, 1) := by decide +kernel
theorem d_X4_triesAny_62 : decode mt_X4_triesAny.2.1 62 = .ok (.if_icmp .ne 7, 3) := by decide +kernel
theorem d_X4_triesAny_65 : decode mt_X4_triesAny.2.1 65 = .ok (.iconst 1, 1) := by decide +kernel
theorem d_X4_triesAny_66 : decode mt_X4_triesAny.2.1 66 = .ok (.goto 4, 3) := by decide +kernel
theorem d_X4_triesAny_69 : decode mt_X4_triesAny.2.1 69 = .ok (.iconst 0, 1) := by decide +kernel
theorem d_X4_triesAny_70 : decode mt_X4_triesAny.2.1 70 = .ok (.ireturn, 1) := by decide +kernel
noncomputable def f_X4_triesAny_b33 (v0 s0 : Int) (σ : Mem) : Option (Int × Mem) :=
  (f_X4_draw v0 40 σ).bind fun r7 =>
  (gf Sh r7.2 4 v0 1).bind fun x9 =>
  (gf Sh r7.2 4 v0 1).bind fun x10 =>
  (gf Sh r7.2 9 x10 0).bind fun x11 =>
  (f_X4_draw v0 x11 r7.2).bind fun r12 =>
  (f_X9_holdTrial x9 r7.1 r12.1 s0 r12.2).bind fun r14 =>
  if r14.1 = s0 then
    some (1, r14.2)
  else
    some (0, r14.2)
theorem L_X4_triesAny_b33 {sc : Nat × (Nat → Int32)} {o : Int × Mem} {v0 s0 : Int} {σ : Mem} (h : f_X4_triesAny_b33 v0 s0 σ = some o) : E sc (Fm Sh (some (0, o.1)) Sh o.2) mt_X4_triesAny 5 Sh Sh 33 [(2, v0), (9, 0), (9, 0)] [(0, s0)] Sh σ := by
  unfold f_X4_triesAny_b33 at h
  refine E_istore_n d_X4_triesAny_33 (ls' := [(2, v0), (0, s0), (9, 0)]) ⟨by decide, rfl⟩ ?_
  refine E_aload_n d_X4_triesAny_34 rfl (by decide) ?_
  refine E_bipush d_X4_triesAny_35 (c8 rfl) ?_
  refine bd h (fun r7 q8 h => ?_)
  refine E_cV (as := [(0, 40)]) (st := []) (a := v0) d_X4_triesAny_37 mk_X4_draw nl_X4_133 (by omega) ⟨rfl, rfl, Nat.le_of_ble_eq_true rfl⟩ okX4 rfl (L_X4_draw q8) ?_
  refine E_istore_n d_X4_triesAny_40 (ls' := [(2, v0), (0, s0), (0, r7.1)]) ⟨by decide, rfl⟩ ?_
  refine E_aload_n d_X4_triesAny_41 rfl (by decide) ?_
  refine E_get d_X4_triesAny_42 okX4 fl_X4_19 ⟨by decide, rfl⟩ h (fun x9 h => ?_)
  refine E_iload_n d_X4_triesAny_45 rfl ?_
  refine E_aload_n d_X4_triesAny_46 rfl (by decide) ?_
  refine E_aload_n d_X4_triesAny_47 rfl (by decide) ?_
  refine E_get d_X4_triesAny_48 okX4 fl_X4_19 ⟨by decide, rfl⟩ h (fun x10 h => ?_)
  refine E_get d_X4_triesAny_51 okX9 fl_X4_130 ⟨by decide, rfl⟩ h (fun x11 h => ?_)
  refine bd h (fun r12 q13 h => ?_)
  refine E_cV (as := [(0, x11)]) (st := [(0, r7.1), (2, x9)]) (a := v0) d_X4_triesAny_54 mk_X4_draw nl_X4_133 (by omega) ⟨rfl, rfl, Nat.le_of_ble_eq_true rfl⟩ okX4 rfl (L_X4_draw q13) ?_
  refine E_iload_n d_X4_triesAny_57 rfl ?_
  refine bd h (fun r14 q15 h => ?_)
  refine E_cV (as := [(0, r7.1), (0, r12.1), (0, s0)]) (st := []) (a := x9) d_X4_triesAny_58 mk_X9_holdTrial nl_X4_112 (by omega) ⟨rfl, rfl, Nat.le_of_ble_eq_true rfl⟩ okX9 rfl (L_X9_holdTrial q15) ?_
  refine E_iload_n d_X4_triesAny_61 rfl ?_
  refine E_icmp_ne (tgt := 69) d_X4_triesAny_62 (by decide) h (fun _ h => ?_) (fun _ h => ?_)
  · refine E_iconst d_X4_triesAny_65 (c32 rfl) ?_
    refine E_goto (tgt := 70) d_X4_triesAny_66 (by decide) ?_
    cases h
    exact E_zret d_X4_triesAny_70 rfl (Or.inr rfl)
  · refine E_iconst d_X4_triesAny_69 (c32 rfl) ?_
    cases h
    exact E_zret d_X4_triesAny_70 rfl (Or.inl rfl)
noncomputable def f_X4_triesAny_b0 (v0 : Int) (σ : Mem) : Option (Int × Mem) :=
  (gf Sh σ 4 v0 1).bind fun x1 =>
  (gf Sh σ 9 x1 0).bind fun x2 =>
  if x2 = 0 then
    some (0, σ)
  else
    (f_X4_draw v0 16 σ).bind fun r3 =>
    (gf Sh r3.2 4 v0 1).bind fun x5 =>
    (gf Sh r3.2 9 x5 11).bind fun x6 =>
    if x6 ≤ r3.1 then
      f_X4_triesAny_b33 v0 0 r3.2
    else
      f_X4_triesAny_b33 v0 1 r3.2
theorem L_X4_triesAny_b0 {sc : Nat × (Nat → Int32)} {o : Int × Mem} {v0 : Int} {σ : Mem} (h : f_X4_triesAny_b0 v0 σ = some o) : E sc (Fm Sh (some (0, o.1)) Sh o.2) mt_X4_triesAny 5 Sh Sh 0 [(2, v0), (9, 0), (9, 0)] [] Sh σ := by
  unfold f_X4_triesAny_b0 at h
  refine E_aload_n d_X4_triesAny_0 rfl (by decide) ?_
  refine E_get d_X4_triesAny_1 okX4 fl_X4_19 ⟨by decide, rfl⟩ h (fun x1 h => ?_)
  refine E_get d_X4_triesAny_4 okX9 fl_X4_130 ⟨by decide, rfl⟩ h (fun x2 h => ?_)
  refine E_if_ne (tgt := 12) d_X4_triesAny_7 (by decide) h (fun _ h => ?_) (fun _ h => ?_)
  · refine E_iconst d_X4_triesAny_10 (c32 rfl) ?_
    cases h
    exact E_zret d_X4_triesAny_11 rfl (Or.inl rfl)
  · refine E_aload_n d_X4_triesAny_12 rfl (by decide) ?_
    refine E_bipush d_X4_triesAny_13 (c8 rfl) ?_
    refine bd h (fun r3 q4 h => ?_)
    refine E_cV (as := [(0, 16)]) (st := []) (a := v0) d_X4_triesAny_15 mk_X4_draw nl_X4_133 (by omega) ⟨rfl, rfl, Nat.le_of_ble_eq_true rfl⟩ okX4 rfl (L_X4_draw q4) ?_
    refine E_aload_n d_X4_triesAny_18 rfl (by decide) ?_
    refine E_get d_X4_triesAny_19 okX4 fl_X4_19 ⟨by decide, rfl⟩ h (fun x5 h => ?_)
    refine E_get d_X4_triesAny_22 okX9 fl_X4_136 ⟨by decide, rfl⟩ h (fun x6 h => ?_)
    refine E_icmp_ge (tgt := 32) d_X4_triesAny_25 (by decide) h (fun _ h => ?_) (fun _ h => ?_)
    · refine E_iconst d_X4_triesAny_32 (c32 rfl) ?_
      exact (L_X4_triesAny_b33 h)
    · refine E_iconst d_X4_triesAny_28 (c32 rfl) ?_
      refine E_goto (tgt := 33) d_X4_triesAny_29 (by decide) ?_
      exact (L_X4_triesAny_b33 h)
noncomputable def f_X4_triesAny (v0 : Int) (σ : Mem) : Option (Int × Mem) := if isO Sh 4 v0 = true then f_X4_triesAny_b0 v0 σ else none
theorem L_X4_triesAny {o : Int × Mem} {v0 : Int} {σ : Mem} (h : f_X4_triesAny v0 σ = some o) : (isO Sh 4 v0 = true ∧ Cn mt_X4_triesAny 5 [(2, v0)] Sh σ (some (0, o.1)) Sh o.2) := ⟨(ite_ok h).1, Cn_of mk_X4_triesAny.1.2.2.1 (Nat.le_of_ble_eq_true rfl) (fun sc => L_X4_triesAny_b0 (ite_ok h).2)⟩
theorem d_X4_reshapes_0 : decode mt_X4_reshapes.2.1 0 = .ok (.aload_n 0, 1) := by decide +kernel
theorem d_X4_reshapes_1 : decode mt_X4_reshapes.2.1 1 = .ok (.getfield 19, 3) := by decide +kernel
theorem d_X4_reshapes_4 : decode mt_X4_reshapes.2.1 4 = .ok (.iload_n 1, 1) := by decide +kernel
theorem d_X4_reshapes_5 : decode mt_X4_reshapes.2.1 5 = .ok (.i2l, 1) := by decide +kernel
theorem d_X4_reshapes_6 : decode mt_X4_reshapes.2.1 6 = .ok (.invokevirtual 89, 3) := by decide +kernel
theorem d_X4_reshapes_9 : decode mt_X4_reshapes.2.1 9 = .ok (.ifCond .ne 5, 3) := by decide +kernel
theorem d_X4_reshapes_12 : decode mt_X4_reshapes.2.1 12 = .ok (.iconst 0, 1) := by decide +kernel
theorem d_X4_reshapes_13 : decode mt_X4_reshapes.2.1 13 = .ok (.ireturn, 1) := by decide +kernel
theorem d_X4_reshapes_14 : decode mt_X4_reshapes.2.1 14 = .ok (.aload_n 0, 1) := by decide +kernel
theorem d_X4_reshapes_15 : decode mt_X4_reshapes.2.1 15 = .ok (.getfield 19, 3) := by decide +kernel
theorem d_X4_reshapes_18 : decode mt_X4_reshapes.2.1 18 = .ok (.getfield 140, 3) := by decide +kernel
theorem d_X4_reshapes_21 : decode mt_X4_reshapes.2.1 21 = .ok (.iload_n 1, 1) := by decide +kernel
theorem d_X4_reshapes_22 : decode mt_X4_reshapes.2.1 22 = .ok (.iload_n 2, 1) := by decide +kernel
theorem d_X4_reshapes_23 : decode mt_X4_reshapes.2.1 23 = .ok (.iastore, 1) := by decide +kernel
theorem d_X4_reshapes_24 : decode mt_X4_reshapes.2.1 24 = .ok (.aload_n 0, 1) := by decide +kernel
theorem d_X4_reshapes_25 : decode mt_X4_reshapes.2.1 25 = .ok (.getfield 19, 3) := by decide +kernel
theorem d_X4_reshapes_28 : decode mt_X4_reshapes.2.1 28 = .ok (.getfield 102, 3) := by decide +kernel
theorem d_X4_reshapes_31 : decode mt_X4_reshapes.2.1 31 = .ok (.iload_n 1, 1) := by decide +kernel
theorem d_X4_reshapes_32 : decode mt_X4_reshapes.2.1 32 = .ok (.iconst 0, 1) := by decide +kernel
theorem d_X4_reshapes_33 : decode mt_X4_reshapes.2.1 33 = .ok (.iastore, 1) := by decide +kernel
theorem d_X4_reshapes_34 : decode mt_X4_reshapes.2.1 34 = .ok (.iconst 1, 1) := by decide +kernel
theorem d_X4_reshapes_35 : decode mt_X4_reshapes.2.1 35 = .ok (.ireturn, 1) := by decide +kernel
noncomputable def f_X4_reshapes_b0 (v0 v1 v2 : Int) (σ : Mem) : Option (Int × Mem) :=
  (gf Sh σ 4 v0 1).bind fun x1 =>
  (f_X9_isStone x1 v1 σ).bind fun r2 =>
  if r2 = 0 then
    some (0, σ)
  else
    (gf Sh σ 4 v0 1).bind fun x4 =>
    (gf Sh σ 9 x4 2).bind fun x5 =>
    (st_ Sh σ 20 x5 v1 v2).bind fun σ6 =>
    (gf Sh σ6 4 v0 1).bind fun x7 =>
    (gf Sh σ6 9 x7 3).bind fun x8 =>
    (st_ Sh σ6 20 x8 v1 0).bind fun σ9 =>
    some (1, σ9)
theorem L_X4_reshapes_b0 {sc : Nat × (Nat → Int32)} {o : Int × Mem} {v0 v1 v2 : Int} {σ : Mem} (h : f_X4_reshapes_b0 v0 v1 v2 σ = some o) : E sc (Fm Sh (some (0, o.1)) Sh o.2) mt_X4_reshapes 2 Sh Sh 0 [(2, v0), (0, v1), (0, v2)] [] Sh σ := by
  unfold f_X4_reshapes_b0 at h
  refine E_aload_n d_X4_reshapes_0 rfl (by decide) ?_
  refine E_get d_X4_reshapes_1 okX4 fl_X4_19 ⟨by decide, rfl⟩ h (fun x1 h => ?_)
  refine E_iload_n d_X4_reshapes_4 rfl ?_
  refine E_i2l d_X4_reshapes_5 ?_
  refine bd h (fun r2 q3 h => ?_)
  refine E_cV (as := [(1, v1)]) (st := []) (a := x1) d_X4_reshapes_6 mk_X9_isStone nl_X4_89 (by omega) ⟨rfl, rfl, Nat.le_of_ble_eq_true rfl⟩ okX9 rfl (L_X9_isStone q3) ?_
  refine E_if_ne (tgt := 14) d_X4_reshapes_9 (by decide) h (fun _ h => ?_) (fun _ h => ?_)
  · refine E_iconst d_X4_reshapes_12 (c32 rfl) ?_
    cases h
    exact E_zret d_X4_reshapes_13 rfl (Or.inl rfl)
  · refine E_aload_n d_X4_reshapes_14 rfl (by decide) ?_
    refine E_get d_X4_reshapes_15 okX4 fl_X4_19 ⟨by decide, rfl⟩ h (fun x4 h => ?_)
    refine E_get d_X4_reshapes_18 okX9 fl_X4_140 ⟨by decide, rfl⟩ h (fun x5 h => ?_)
    refine E_iload_n d_X4_reshapes_21 rfl ?_
    refine E_iload_n d_X4_reshapes_22 rfl ?_
    refine E_iastore d_X4_reshapes_23 h (fun σ6 h => ?_)
    refine E_aload_n d_X4_reshapes_24 rfl (by decide) ?_
    refine E_get d_X4_reshapes_25 okX4 fl_X4_19 ⟨by decide, rfl⟩ h (fun x7 h => ?_)
    refine E_get d_X4_reshapes_28 okX9 fl_X4_102 ⟨by decide, rfl⟩ h (fun x8 h => ?_)
    refine E_iload_n d_X4_reshapes_31 rfl ?_
    refine E_iconst d_X4_reshapes_32 (c32 rfl) ?_
    refine E_iastore d_X4_reshapes_33 h (fun σ9 h => ?_)
    refine E_iconst d_X4_reshapes_34 (c32 rfl) ?_
    cases h
    exact E_zret d_X4_reshapes_35 rfl (Or.inr rfl)
noncomputable def f_X4_reshapes (v0 v1 v2 : Int) (σ : Mem) : Option (Int × Mem) := if isO Sh 4 v0 = true then f_X4_reshapes_b0 v0 v1 v2 σ else none
theorem L_X4_reshapes {o : Int × Mem} {v0 v1 v2 : Int} {σ : Mem} (h : f_X4_reshapes v0 v1 v2 σ = some o) : (isO Sh 4 v0 = true ∧ Cn mt_X4_reshapes 2 [(2, v0), (0, v1), (0, v2)] Sh σ (some (0, o.1)) Sh o.2) := ⟨(ite_ok h).1, Cn_of mk_X4_reshapes.1.2.2.1 (Nat.le_of_ble_eq_true rfl) (fun sc => L_X4_reshapes_b0 (ite_ok h).2)⟩
theorem d_X4_clears_0 : decode mt_X4_clears.2.1 0 = .ok (.aload_n 0, 1) := by decide +kernel
theorem d_X4_clears_1 : decode mt_X4_clears.2.1 1 = .ok (.getfield 19, 3) := by decide +kernel
theorem d_X4_clears_4 : decode mt_X4_clears.2.1 4 = .ok (.iload_n 1, 1) := by decide +kernel
theorem d_X4_clears_5 : decode mt_X4_clears.2.1 5 = .ok (.i2l, 1) := by decide +kernel
theorem d_X4_clears_6 : decode mt_X4_clears.2.1 6 = .ok (.invokevirtual 89, 3) := by decide +kernel
theorem d_X4_clears_9 : decode mt_X4_clears.2.1 9 = .ok (.ifCond .eq 15, 3) := by decide +kernel
theorem d_X4_clears_12 : decode mt_X4_clears.2.1 12 = .ok (.aload_n 0, 1) := by decide +kernel
theorem d_X4_clears_13 : decode mt_X4_clears.2.1 13 = .ok (.getfield 19, 3) := by decide +kernel
theorem d_X4_clears_16 : decode mt_X4_clears.2.1 16 = .ok (.getfield 102, 3) := by decide +kernel
theorem d_X4_clears_19 : decode mt_X4_clears.2.1 19 = .ok (.iload_n 1, 1) := by decide +kernel
theorem d_X4_clears_20 : decode mt_X4_clears.2.1 20 = .ok (.iaload, 1) := by decide +kernel
theorem d_X4_clears_21 : decode mt_X4_clears.2.1 21 = .ok (.ifCond .ne 5, 3) := by decide +kernel
theorem d_X4_clears_24 : decode mt_X4_clears.2.1 24 = .ok (.iconst 0, 1) := by decide +kernel
theorem d_X4_clears_25 : decode mt_X4_clears.2.1 25 = .ok (.ireturn, 1) := by decide +kernel
theorem d_X4_clears_26 : decode mt_X4_clears.2.1 26 = .ok (.aload_n 0, 1) := by decide +kernel
theorem d_X4_clears_27 : decode mt_X4_clears.2.1 27 = .ok (.getfield 19, 3) := by decide +kernel
theorem d_X4_clears_30 : decode mt_X4_clears.2.1 30 = .ok (.getfield 102, 3) := by decide +kernel
theorem d_X4_clears_33 : decode mt_X4_clears.2.1 33 = .ok (.iload_n 1, 1) := by decide +kernel
theorem d_X4_clears_34 : decode mt_X4_clears.2.1 34 = .ok (.iconst 0, 1) := by decide +kernel
theorem d_X4_clears_35 : decode mt_X4_clears.2.1 35 = .ok (.iastore, 1) := by decide +kernel
theorem d_X4_clears_36 : decode mt_X4_clears.2.1 36 = .ok (.iconst 1, 1) := by decide +kernel
theorem d_X4_clears_37 : decode mt_X4_clears.2.1 37 = .ok (.ireturn, 1) := by decide +kernel
noncomputable def f_X4_clears_b0 (v0 v1 : Int) (σ : Mem) : Option (Int × Mem) :=
  (gf Sh σ 4 v0 1).bind fun x1 =>
  (f_X9_isStone x1 v1 σ).bind fun r2 =>
  if r2 = 0 then
    some (0, σ)
  else
    (gf Sh σ 4 v0 1).bind fun x4 =>
    (gf Sh σ 9 x4 3).bind fun x5 =>
    (al Sh σ 20 x5 v1).bind fun x6 =>
    if x6 = 0 then
      some (0, σ)
    else
      (gf Sh σ 4 v0 1).bind fun x7 =>
      (gf Sh σ 9 x7 3).bind fun x8 =>
      (st_ Sh σ 20 x8 v1 0).bind fun σ9 =>
      some (1, σ9)
theorem L_X4_clears_b0 {sc : Nat × (Nat → Int32)} {o : Int × Mem} {v0 v1 : Int} {σ : Mem} (h : f_X4_clears_b0 v0 v1 σ = some o) : E sc (Fm Sh (some (0, o.1)) Sh o.2) mt_X4_clears 2 Sh Sh 0 [(2, v0), (0, v1)] [] Sh σ := by
  unfold f_X4_clears_b0 at h
  refine E_aload_n d_X4_clears_0 rfl (by decide) ?_
  refine E_get d_X4_clears_1 okX4 fl_X4_19 ⟨by decide, rfl⟩ h (fun x1 h => ?_)
  refine E_iload_n d_X4_clears_4 rfl ?_
  refine E_i2l d_X4_clears_5 ?_
  refine bd h (fun r2 q3 h => ?_)
  refine E_cV (as := [(1, v1)]) (st := []) (a := x1) d_X4_clears_6 mk_X9_isStone nl_X4_89 (by omega) ⟨rfl, rfl, Nat.le_of_ble_eq_true rfl⟩ okX9 rfl (L_X9_isStone q3) ?_
  refine E_if_eq (tgt := 24) d_X4_clears_9 (by decide) h (fun _ h => ?_) (fun _ h => ?_)
  · refine E_iconst d_X4_clears_24 (c32 rfl) ?_
    cases h
    exact E_zret d_X4_clears_25 rfl (Or.inl rfl)
  · refine E_aload_n d_X4_clears_12 rfl (by decide) ?_
    refine E_get d_X4_clears_13 okX4 fl_X4_19 ⟨by decide, rfl⟩ h (fun x4 h => ?_)
    refine E_get d_X4_clears_16 okX9 fl_X4_102 ⟨by decide, rfl⟩ h (fun x5 h => ?_)
    refine E_iload_n d_X4_clears_19 rfl ?_
    refine E_iaload d_X4_clears_20 h (fun x6 h => ?_)
    refine E_if_ne (tgt := 26) d_X4_clears_21 (by decide) h (fun _ h => ?_) (fun _ h => ?_)
    · refine E_iconst d_X4_clears_24 (c32 rfl) ?_
      cases h
      exact E_zret d_X4_clears_25 rfl (Or.inl rfl)
    · refine E_aload_n d_X4_clears_26 rfl (by decide) ?_
      refine E_get d_X4_clears_27 okX4 fl_X4_19 ⟨by decide, rfl⟩ h (fun x7 h => ?_)
      refine E_get d_X4_clears_30 okX9 fl_X4_102 ⟨by decide, rfl⟩ h (fun x8 h => ?_)
      refine E_iload_n d_X4_clears_33 rfl ?_
      refine E_iconst d_X4_clears_34 (c32 rfl) ?_
      refine E_iastore d_X4_clears_35 h (fun σ9 h => ?_)
      refine E_iconst d_X4_clears_36 (c32 rfl) ?_
      cases h
      exact E_zret d_X4_clears_37 rfl (Or.inr rfl)
noncomputable def f_X4_clears (v0 v1 : Int) (σ : Mem) : Option (Int × Mem) := if isO Sh 4 v0 = true then f_X4_clears_b0 v0 v1 σ else none
theorem L_X4_clears {o : Int × Mem} {v0 v1 : Int} {σ : Mem} (h : f_X4_clears v0 v1 σ = some o) : (isO Sh 4 v0 = true ∧ Cn mt_X4_clears 2 [(2, v0), (0, v1)] Sh σ (some (0, o.1)) Sh o.2) := ⟨(ite_ok h).1, Cn_of mk_X4_clears.1.2.2.1 (Nat.le_of_ble_eq_true rfl) (fun sc => L_X4_clears_b0 (ite_ok h).2)⟩
theorem d_X4_flies_0 : decode mt_X4_flies.2.1 0 = .ok (.aload_n 0, 1) := by decide +kernel
theorem d_X4_flies_1 : decode mt_X4_flies.2.1 1 = .ok (.getfield 19, 3) := by decide +kernel
theorem d_X4_flies_4 : decode mt_X4_flies.2.1 4 = .ok (.iload_n 1, 1) := by decide +kernel
theorem d_X4_flies_5 : decode mt_X4_flies.2.1 5 = .ok (.invokevirtual 143, 3) := by decide +kernel
theorem d_X4_flies_8 : decode mt_X4_flies.2.1 8 = .ok (.ifCond .eq 28, 3) := by decide +kernel
theorem d_X4_flies_11 : decode mt_X4_flies.2.1 11 = .ok (.aload_n 0, 1) := by decide +kernel
theorem d_X4_flies_12 : decode mt_X4_flies.2.1 12 = .ok (.getfield 19, 3) := by decide +kernel
theorem d_X4_flies_15 : decode mt_X4_flies.2.1 15 = .ok (.iload_n 2, 1) := by decide +kernel
theorem d_X4_flies_16 : decode mt_X4_flies.2.1 16 = .ok (.i2l, 1) := by decide +kernel
theorem d_X4_flies_17 : decode mt_X4_flies.2.1 17 = .ok (.invokevirtual 89, 3) := by decide +kernel
theorem d_X4_flies_20 : decode mt_X4_flies.2.1 20 = .ok (.ifCond .eq 16, 3) := by decide +kernel
theorem d_X4_flies_23 : decode mt_X4_flies.2.1 23 = .ok (.aload_n 0, 1) := by decide +kernel
theorem d_X4_flies_24 : decode mt_X4_flies.2.1 24 = .ok (.getfield 19, 3) := by decide +kernel
theorem d_X4_flies_27 : decode mt_X4_flies.2.1 27 = .ok (.getfield 146, 3) := by decide +kernel
theorem d_X4_flies_30 : decode mt_X4_flies.2.1 30 = .ok (.iload_n 1, 1) := by decide +kernel
theorem d_X4_flies_31 : decode mt_X4_flies.2.1 31 = .ok (.iaload, 1) := by decide +kernel
theorem d_X4_flies_32 : decode mt_X4_flies.2.1 32 = .ok (.iload_n 2, 1) := by decide +kernel
theorem d_X4_flies_33 : decode mt_X4_flies.2.1 33 = .ok (.if_icmp .ne 5, 3) := by decide +kernel
theorem d_X4_flies_36 : decode mt_X4_flies.2.1 36 = .ok (.iconst 0, 1) := by decide +kernel
theorem d_X4_flies_37 : decode mt_X4_flies.2.1 37 = .ok (.ireturn, 1) := by decide +kernel
theorem d_X4_flies_38 : decode mt_X4_flies.2.1 38 = .ok (.aload_n 0, 1) := by decide +kernel
theorem d_X4_flies_39 : decode mt_X4_flies.2.1 39 = .ok (.getfield 19, 3) := by decide +kernel
theorem d_X4_flies_42 : decode mt_X4_flies.2.1 42 = .ok (.iload_n 1, 1) := by decide +kernel
theorem d_X4_flies_43 : decode mt_X4_flies.2.1 43 = .ok (.iload_n 2, 1) := by decide +kernel
theorem d_X4_flies_44 : decode mt_X4_flies.2.1 44 = .ok (.invokevirtual 149, 3) := by decide +kernel
theorem d_X4_flies_47 : decode mt_X4_flies.2.1 47 = .ok (.iconst 1, 1) := by decide +kernel
theorem d_X4_flies_48 : decode mt_X4_flies.2.1 48 = .ok (.ireturn, 1) := by decide +kernel
noncomputable def f_X4_flies_b0 (v0 v1 v2 : Int) (σ : Mem) : Option (Int × Mem) :=
  (gf Sh σ 4 v0 1).bind fun x1 =>
  (f_X9_isCrow x1 v1 σ).bind fun r2 =>
  if r2 = 0 then
    some (0, σ)
  else
    (gf Sh σ 4 v0 1).bind fun x4 =>
    (f_X9_isStone x4 v2 σ).bind fun r5 =>
    if r5 = 0 then
      some (0, σ)
    else
      (gf Sh σ 4 v0 1).bind fun x7 =>
      (gf Sh σ 9 x7 8).bind fun x8 =>
      (al Sh σ 20 x8 v1).bind fun x9 =>
      if x9 = v2 then
        some (0, σ)
      else
        (gf Sh σ 4 v0 1).bind fun x10 =>
        (f_X9_moveCrow x10 v1 v2 σ).bind fun r11 =>
        some (1, r11)
theorem L_X4_flies_b0 {sc : Nat × (Nat → Int32)} {o : Int × Mem} {v0 v1 v2 : Int} {σ : Mem} (h : f_X4_flies_b0 v0 v1 v2 σ = some o) : E sc (Fm Sh (some (0, o.1)) Sh o.2) mt_X4_flies 2 Sh Sh 0 [(2, v0), (0, v1), (0, v2)] [] Sh σ := by
  unfold f_X4_flies_b0 at h
  refine E_aload_n d_X4_flies_0 rfl (by decide) ?_
  refine E_get d_X4_flies_1 okX4 fl_X4_19 ⟨by decide, rfl⟩ h (fun x1 h => ?_)
  refine E_iload_n d_X4_flies_4 rfl ?_
  refine bd h (fun r2 q3 h => ?_)
  refine E_cV (as := [(0, v1)]) (st := []) (a := x1) d_X4_flies_5 mk_X9_isCrow nl_X4_143 (by omega) ⟨rfl, rfl, Nat.le_of_ble_eq_true rfl⟩ okX9 rfl (L_X9_isCrow q3) ?_
  refine E_if_eq (tgt := 36) d_X4_flies_8 (by decide) h (fun _ h => ?_) (fun _ h => ?_)
  · refine E_iconst d_X4_flies_36 (c32 rfl) ?_
    cases h
    exact E_zret d_X4_flies_37 rfl (Or.inl rfl)
  · refine E_aload_n d_X4_flies_11 rfl (by decide) ?_
    refine E_get d_X4_flies_12 okX4 fl_X4_19 ⟨by decide, rfl⟩ h (fun x4 h => ?_)
    refine E_iload_n d_X4_flies_15 rfl ?_
    refine E_i2l d_X4_flies_16 ?_
    refine bd h (fun r5 q6 h => ?_)
    refine E_cV (as := [(1, v2)]) (st := []) (a := x4) d_X4_flies_17 mk_X9_isStone nl_X4_89 (by omega) ⟨rfl, rfl, Nat.le_of_ble_eq_true rfl⟩ okX9 rfl (L_X9_isStone q6) ?_
    refine E_if_eq (tgt := 36) d_X4_flies_20 (by decide) h (fun _ h => ?_) (fun _ h => ?_)
    · refine E_iconst d_X4_flies_36 (c32 rfl) ?_
      cases h
      exact E_zret d_X4_flies_37 rfl (Or.inl rfl)
    · refine E_aload_n d_X4_flies_23 rfl (by decide) ?_
      refine E_get d_X4_flies_24 okX4 fl_X4_19 ⟨by decide, rfl⟩ h (fun x7 h => ?_)
      refine E_get d_X4_flies_27 okX9 fl_X4_146 ⟨by decide, rfl⟩ h (fun x8 h => ?_)
      refine E_iload_n d_X4_flies_30 rfl ?_
      refine E_iaload d_X4_flies_31 h (fun x9 h => ?_)
      refine E_iload_n d_X4_flies_32 rfl ?_
      refine E_icmp_ne (tgt := 38) d_X4_flies_33 (by decide) h (fun _ h => ?_) (fun _ h => ?_)
      · refine E_iconst d_X4_flies_36 (c32 rfl) ?_
        cases h
        exact E_zret d_X4_flies_37 rfl (Or.inl rfl)
      · refine E_aload_n d_X4_flies_38 rfl (by decide) ?_
        refine E_get d_X4_flies_39 okX4 fl_X4_19 ⟨by decide, rfl⟩ h (fun x10 h => ?_)
        refine E_iload_n d_X4_flies_42 rfl ?_
        refine E_iload_n d_X4_flies_43 rfl ?_
        refine bd h (fun r11 q12 h => ?_)
        refine E_cVv (as := [(0, v1), (0, v2)]) (st := []) (a := x10) d_X4_flies_44 mk_X9_moveCrow nl_X4_149 (by omega) ⟨rfl, rfl, Nat.le_of_ble_eq_true rfl⟩ okX9 rfl (L_X9_moveCrow q12) ?_
        refine E_iconst d_X4_flies_47 (c32 rfl) ?_
        cases h
        exact E_zret d_X4_flies_48 rfl (Or.inr rfl)
noncomputable def f_X4_flies (v0 v1 v2 : Int) (σ : Mem) : Option (Int × Mem) := if isO Sh 4 v0 = true then f_X4_flies_b0 v0 v1 v2 σ else none
theorem L_X4_flies {o : Int × Mem} {v0 v1 v2 : Int} {σ : Mem} (h : f_X4_flies v0 v1 v2 σ = some o) : (isO Sh 4 v0 = true ∧ Cn mt_X4_flies 2 [(2, v0), (0, v1), (0, v2)] Sh σ (some (0, o.1)) Sh o.2) := ⟨(ite_ok h).1, Cn_of mk_X4_flies.1.2.2.1 (Nat.le_of_ble_eq_true rfl) (fun sc => L_X4_flies_b0 (ite_ok h).2)⟩
theorem d_X4_isDone_0 : decode mt_X4_isDone.2.1 0 = .ok (.aload_n 0, 1) := by decide +kernel
theorem d_X4_isDone_1 : decode mt_X4_isDone.2.1 1 = .ok (.getfield 15, 3) := by decide +kernel
theorem d_X4_isDone_4 : decode mt_X4_isDone.2.1 4 = .ok (.getfield 73, 3) := by decide +kernel
theorem d_X4_isDone_7 : decode mt_X4_isDone.2.1 7 = .ok (.iload_n 1, 1) := by decide +kernel
theorem d_X4_isDone_8 : decode mt_X4_isDone.2.1 8 = .ok (.iaload, 1) := by decide +kernel
theorem d_X4_isDone_9 : decode mt_X4_isDone.2.1 9 = .ok (.istore_n 2, 1) := by decide +kernel
theorem d_X4_isDone_10 : decode mt_X4_isDone.2.1 10 = .ok (.aload_n 0, 1) := by decide +kernel
theorem d_X4_isDone_11 : decode mt_X4_isDone.2.1 11 = .ok (.getfield 15, 3) := by decide +kernel
theorem d_X4_isDone_14 : decode mt_X4_isDone.2.1 14 = .ok (.getfield 95, 3) := by decide +kernel
theorem d_X4_isDone_17 : decode mt_X4_isDone.2.1 17 = .ok (.iload_n 1, 1) := by decide +kernel
theorem d_X4_isDone_18 : decode mt_X4_isDone.2.1 18 = .ok (.iaload, 1) := by decide +kernel
theorem d_X4_isDone_19 : decode mt_X4_isDone.2.1 19 = .ok (.istore_n 3, 1) := by decide +kernel
theorem d_X4_isDone_20 : decode mt_X4_isDone.2.1 20 = .ok (.aload_n 0, 1) := by decide +kernel
theorem d_X4_isDone_21 : decode mt_X4_isDone.2.1 21 = .ok (.getfield 15, 3) := by decide +kernel
theorem d_X4_isDone_24 : decode mt_X4_isDone.2.1 24 = .ok (.getfield 92, 3) := by decide +kernel
theorem d_X4_isDone_27 : decode mt_X4_isDone.2.1 27 = .ok (.iload_n 1, 1) := by decide +kernel
theorem d_X4_isDone_28 : decode mt_X4_isDone.2.1 28 = .ok (.iaload, 1) := by decide +kernel
theorem d_X4_isDone_29 : decode mt_X4_isDone.2.1 29 = .ok (.iconst 1, 1) := by decide +kernel
theorem d_X4_isDone_30 : decode mt_X4_isDone.2.1 30 = .ok (.if_icmp .ne 7, 3) := by decide +kernel
theorem d_X4_isDone_33 : decode mt_X4_isDone.2.1 33 = .ok (.iconst 1, 1) := by decide +kernel
theorem d_X4_isDone_34 : decode mt_X4_isDone.2.1 34 = .ok (.goto 4, 3) := by decide +kernel
theorem d_X4_isDone_37 : decode mt_X4_isDone.2.1 37 = .ok (.iconst 0, 1) := by decide +kernel
theorem d_X4_isDone_38 : decode mt_X4_isDone.2.1 38 = .ok (.istore 4, 2) := by decide +kernel
theorem d_X4_isDone_40 : decode mt_X4_isDone.2.1 40 = .ok (.aload_n 0, 1) := by decide +kernel
theorem d_X4_isDone_41 : decode mt_X4_isDone.2.1 41 = .ok (.getfield 15, 3) := by decide +kernel
theorem d_X4_isDone_44 : decode mt_X4_isDone.2.1 44 = .ok (.getfield 59, 3) := by decide +kernel
theorem d_X4_isDone_47 : decode mt_X4_isDone.2.1 47 = .ok (.iload_n 1, 1) := by decide +kernel
theorem d_X4_isDone_48 : decode mt_X4_isDone.2.1 48 = .ok (.iaload, 1) := by decide +kernel
theorem d_X4_isDone_49 : decode mt_X4_isDone.2.1 49 = .ok (.tableswitch 107 10 16 #[43, 52, 79, 87, 94, 100, 74], 43) := by decide +kernel
theorem d_X4_isDone_92 : decode mt_X4_isDone.2.1 92 = .ok (.aload_n 0, 1) := by decide +kernel
theorem d_X4_isDone_93 : decode mt_X4_isDone.2.1 93 = .ok (.getfield 19, 3) := by decide +kernel
theorem d_X4_isDone_96 : decode mt_X4_isDone.2.1 96 = .ok (.iload_n 2, 1) := by decide +kernel
theorem d_X4_isDone_97 : decode mt_X4_isDone.2.1 97 = .ok (.invokevirtual 109, 3) := by decide +kernel
theorem d_X4_isDone_100 : decode mt_X4_isDone.2.1 100 = .ok (.ireturn, 1) := by decide +kernel
theorem d_X4_isDone_101 : decode mt_X4_isDone.2.1 101 = .ok (.aload_n 0, 1) := by decide +kernel
theorem d_X4_isDone_102 : decode mt_X4_isDone.2.1 102 = .ok (.getfield 19, 3) := by decide +kernel
theorem d_X4_isDone_105 : decode mt_X4_isDone.2.1 105 = .ok (.iload_n 2, 1) := by decide +kernel
theorem d_X4_isDone_106 : decode mt_X4_isDone.2.1 106 = .ok (.iload_n 3, 1) := by decide +kernel
theorem d_X4_isDone_107 : decode mt_X4_isDone.2.1 107 = .ok (.iload 4, 2) := by decide +kernel
theorem d_X4_isDone_109 : decode mt_X4_isDone.2.1 109 = .ok (.invokevirtual 112, 3) := by decide +kernel
theorem d_X4_isDone_112 : decode mt_X4_isDone.2.1 112 = .ok (.iload 4, 2) := by decide +kernel
theorem d_X4_isDone_114 : decode mt_X4_isDone.2.1 114 = .ok (.if_icmp .ne 7, 3) := by decide +kernel
theorem d_X4_isDone_117 : decode mt_X4_isDone.2.1 117 = .ok (.iconst 1, 1) := by decide +kernel
theorem d_X4_isDone_118 : decode mt_X4_isDone.2.1 118 = .ok (.goto 4, 3) := by decide +kernel
theorem d_X4_isDone_121 : decode mt_X4_isDone.2.1 121 = .ok (.iconst 0, 1) := by decide +kernel
theorem d_X4_isDone_122 : decode mt_X4_isDone.2.1 122 = .ok (.ireturn, 1) := by decide +kernel
theorem d_X4_isDone_123 : decode mt_X4_isDone.2.1 123 = .ok (.aload_n 0, 1) := by decide +kernel
theorem d_X4_isDone_124 : decode mt_X4_isDone.2.1 124 = .ok (.invokevirtual 116, 3) := by decide +kernel
theorem d_X4_isDone_127 : decode mt_X4_isDone.2.1 127 = .ok (.ireturn, 1) := by decide +kernel
theorem d_X4_isDone_128 : decode mt_X4_isDone.2.1 128 = .ok (.aload_n 0, 1) := by decide +kernel
theorem d_X4_isDone_129 : decode mt_X4_isDone.2.1 129 = .ok (.iload_n 2, 1) := by decide +kernel
theorem d_X4_isDone_130 : decode mt_X4_isDone.2.1 130 = .ok (.bipush 30, 2) := by decide +kernel
theorem d_X4_isDone_132 : decode mt_X4_isDone.2.1 132 = .ok (.invokevirtual 120, 3) := by decide +kernel
theorem d_X4_isDone_135 : decode mt_X4_isDone.2.1 135 = .ok (.ireturn, 1) := by decide +kernel
theorem d_X4_isDone_136 : decode mt_X4_isDone.2.1 136 = .ok (.aload_n 0, 1) := by decide +kernel
theorem d_X4_isDone_137 : decode mt_X4_isDone.2.1 137 = .ok (.iload_n 2, 1) := by decide +kernel
theorem d_X4_isDone_138 : decode mt_X4_isDone.2.1 138 = .ok (.iconst 0, 1) := by decide +kernel
theorem d_X4_isDone_139 : decode mt_X4_isDone.2.1 139 = .ok (.invokevirtual 120, 3) := by decide +kernel
theorem d_X4_isDone_142 : decode mt_X4_isDone.2.1 142 = .ok (.ireturn, 1) := by decide +kernel
theorem d_X4_isDone_143 : decode mt_X4_isDone.2.1 143 = .ok (.aload_n 0, 1) := by decide +kernel
theorem d_X4_isDone_144 : decode mt_X4_isDone.2.1 144 = .ok (.iload_n 2, 1) := by decide +kernel
theorem d_X4_isDone_145 : decode mt_X4_isDone.2.1 145 = .ok (.invokevirtual 124, 3) := by decide +kernel
theorem d_X4_isDone_148 : decode mt_X4_isDone.2.1 148 = .ok (.ireturn, 1) := by decide +kernel
theorem d_X4_isDone_149 : decode mt_X4_isDone.2.1 149 = .ok (.aload_n 0, 1) := by decide +kernel
theorem d_X4_isDone_150 : decode mt_X4_isDone.2.1 150 = .ok (.iload_n 2, 1) := by decide +kernel
theorem d_X4_isDone_151 : decode mt_X4_isDone.2.1 151 = .ok (.iload_n 3, 1) := by decide +kernel
theorem d_X4_isDone_152 : decode mt_X4_isDone.2.1 152 = .ok (.invokevirtual 127, 3) := by decide +kernel
theorem d_X4_isDone_155 : decode mt_X4_isDone.2.1 155 = .ok (.ireturn, 1) := by decide +kernel
theorem d_X4_isDone_156 : decode mt_X4_isDone.2.1 156 = .ok (.iconst 1, 1) := by decide +kernel
theorem d_X4_isDone_157 : decode mt_X4_isDone.2.1 157 = .ok (.ireturn, 1) := by decide +kernel
noncomputable def f_X4_isDone_b38 (v0 v1 v2 v3 s0 : Int) (σ : Mem) : Option (Int × Mem) :=
  (gf Sh σ 4 v0 0).bind fun x10 =>
  (gf Sh σ 5 x10 3).bind fun x11 =>
  (al Sh σ 20 x11 v1).bind fun x12 =>
  if x12 = 10 then
    (gf Sh σ 4 v0 1).bind fun x14 =>
    (f_X9_passYears x14 v2 σ).bind fun r15 =>
    (bz r15.1).bind fun _ =>
    some (r15.1, r15.2)
  else if x12 = 11 then
    (gf Sh σ 4 v0 1).bind fun x19 =>
    (f_X9_holdTrial x19 v2 v3 s0 σ).bind fun r20 =>
    if r20.1 = s0 then
      some (1, r20.2)
    else
      some (0, r20.2)
  else if x12 = 12 then
    (f_X4_reshapes v0 v2 30 σ).bind fun r23 =>
    (bz r23.1).bind fun _ =>
    some (r23.1, r23.2)
  else if x12 = 13 then
    (f_X4_reshapes v0 v2 0 σ).bind fun r27 =>
    (bz r27.1).bind fun _ =>
    some (r27.1, r27.2)
  else if x12 = 14 then
    (f_X4_clears v0 v2 σ).bind fun r31 =>
    (bz r31.1).bind fun _ =>
    some (r31.1, r31.2)
  else if x12 = 15 then
    (f_X4_flies v0 v2 v3 σ).bind fun r35 =>
    (bz r35.1).bind fun _ =>
    some (r35.1, r35.2)
  else if x12 = 16 then
    (f_X4_triesAny v0 σ).bind fun r39 =>
    (bz r39.1).bind fun _ =>
    some (r39.1, r39.2)
  else 
    some (1, σ)
theorem L_X4_isDone_b38 {sc : Nat × (Nat → Int32)} {o : Int × Mem} {v0 v1 v2 v3 s0 : Int} {σ : Mem} (h : f_X4_isDone_b38 v0 v1 v2 v3 s0 σ = some o) : E sc (Fm Sh (some (0, o.1)) Sh o.2) mt_X4_isDone 6 Sh Sh 38 [(2, v0), (0, v1), (0, v2), (0, v3), (9, 0)] [(0, s0)] Sh σ := by
  unfold f_X4_isDone_b38 at h
  refine E_istore d_X4_isDone_38 (ls' := [(2, v0), (0, v1), (0, v2), (0, v3), (0, s0)]) ⟨by decide, rfl⟩ ?_
  refine E_aload_n d_X4_isDone_40 rfl (by decide) ?_
  refine E_get d_X4_isDone_41 okX4 fl_X4_15 ⟨by decide, rfl⟩ h (fun x10 h => ?_)
  refine E_get d_X4_isDone_44 okX5 fl_X4_59 ⟨by decide, rfl⟩ h (fun x11 h => ?_)
  refine E_iload_n d_X4_isDone_47 rfl ?_
  refine E_iaload d_X4_isDone_48 h (fun x12 h => ?_)
  refine br_eq h (fun q13 h => ?_) (fun q13 h => ?_)
  · refine E_tabIn (tgt := 92) d_X4_isDone_49 q13 ⟨by decide, by decide, rfl, by decide⟩ ?_
    refine E_aload_n d_X4_isDone_92 rfl (by decide) ?_
    refine E_get d_X4_isDone_93 okX4 fl_X4_19 ⟨by decide, rfl⟩ h (fun x14 h => ?_)
    refine E_iload_n d_X4_isDone_96 rfl ?_
    refine bd h (fun r15 q16 h => ?_)
    refine E_cV (as := [(0, v2)]) (st := []) (a := x14) d_X4_isDone_97 mk_X9_passYears nl_X4_109 (by omega) ⟨rfl, rfl, Nat.le_of_ble_eq_true rfl⟩ okX9 rfl (L_X9_passYears q16) ?_
    refine bd_bz h (fun q17 h => ?_)
    cases h
    exact E_zret d_X4_isDone_100 rfl q17
  refine br_eq h (fun q18 h => ?_) (fun q18 h => ?_)
  · refine E_tabIn (tgt := 101) d_X4_isDone_49 q18 ⟨by decide, by decide, rfl, by decide⟩ ?_
    refine E_aload_n d_X4_isDone_101 rfl (by decide) ?_
    refine E_get d_X4_isDone_102 okX4 fl_X4_19 ⟨by decide, rfl⟩ h (fun x19 h => ?_)
    refine E_iload_n d_X4_isDone_105 rfl ?_
    refine E_iload_n d_X4_isDone_106 rfl ?_
    refine E_iload d_X4_isDone_107 rfl ?_
    refine bd h (fun r20 q21 h => ?_)
    refine E_cV (as := [(0, v2), (0, v3), (0, s0)]) (st := []) (a := x19) d_X4_isDone_109 mk_X9_holdTrial nl_X4_112 (by omega) ⟨rfl, rfl, Nat.le_of_ble_eq_true rfl⟩ okX9 rfl (L_X9_holdTrial q21) ?_
    refine E_iload d_X4_isDone_112 rfl ?_
    refine E_icmp_ne (tgt := 121) d_X4_isDone_114 (by decide) h (fun _ h => ?_) (fun _ h => ?_)
    · refine E_iconst d_X4_isDone_117 (c32 rfl) ?_
      refine E_goto (tgt := 122) d_X4_isDone_118 (by decide) ?_
      cases h
      exact E_zret d_X4_isDone_122 rfl (Or.inr rfl)
    · refine E_iconst d_X4_isDone_121 (c32 rfl) ?_
      cases h
      exact E_zret d_X4_isDone_122 rfl (Or.inl rfl)
  refine br_eq h (fun q22 h => ?_) (fun q22 h => ?_)
  · refine E_tabIn (tgt := 128) d_X4_isDone_49 q22 ⟨by decide, by decide, rfl, by decide⟩ ?_
    refine E_aload_n d_X4_isDone_128 rfl (by decide) ?_
    refine E_iload_n d_X4_isDone_129 rfl ?_
    refine E_bipush d_X4_isDone_130 (c8 rfl) ?_
    refine bd h (fun r23 q24 h => ?_)
    refine E_cV (as := [(0, v2), (0, 30)]) (st := []) (a := v0) d_X4_isDone_132 mk_X4_reshapes nl_X4_120 (by omega) ⟨rfl, rfl, Nat.le_of_ble_eq_true rfl⟩ okX4 rfl (L_X4_reshapes q24) ?_
    refine bd_bz h (fun q25 h => ?_)
    cases h
    exact E_zret d_X4_isDone_135 rfl q25
  refine br_eq h (fun q26 h => ?_) (fun q26 h => ?_)
  · refine E_tabIn (tgt := 136) d_X4_isDone_49 q26 ⟨by decide, by decide, rfl, by decide⟩ ?_
    refine E_aload_n d_X4_isDone_136 rfl (by decide) ?_
    refine E_iload_n d_X4_isDone_137 rfl ?_
    refine E_iconst d_X4_isDone_138 (c32 rfl) ?_
    refine bd h (fun r27 q28 h => ?_)
    refine E_cV (as := [(0, v2), (0, 0)]) (st := []) (a := v0) d_X4_isDone_139 mk_X4_reshapes nl_X4_120 (by omega) ⟨rfl, rfl, Nat.le_of_ble_eq_true rfl⟩ okX4 rfl (L_X4_reshapes q28) ?_
    refine bd_bz h (fun q29 h => ?_)
    cases h
    exact E_zret d_X4_isDone_142 rfl q29
  refine br_eq h (fun q30 h => ?_) (fun q30 h => ?_)
  · refine E_tabIn (tgt := 143) d_X4_isDone_49 q30 ⟨by decide, by decide, rfl, by decide⟩ ?_
    refine E_aload_n d_X4_isDone_143 rfl (by decide) ?_
    refine E_iload_n d_X4_isDone_144 rfl ?_
    refine bd h (fun r31 q32 h => ?_)
    refine E_cV (as := [(0, v2)]) (st := []) (a := v0) d_X4_isDone_145 mk_X4_clears nl_X4_124 (by omega) ⟨rfl, rfl, Nat.le_of_ble_eq_true rfl⟩ okX4 rfl (L_X4_clears q32) ?_
    refine bd_bz h (fun q33 h => ?_)
    cases h
    exact E_zret d_X4_isDone_148 rfl q33
  refine br_eq h (fun q34 h => ?_) (fun q34 h => ?_)
  · refine E_tabIn (tgt := 149) d_X4_isDone_49 q34 ⟨by decide, by decide, rfl, by decide⟩ ?_
    refine E_aload_n d_X4_isDone_149 rfl (by decide) ?_
    refine E_iload_n d_X4_isDone_150 rfl ?_
    refine E_iload_n d_X4_isDone_151 rfl ?_
    refine bd h (fun r35 q36 h => ?_)
    refine E_cV (as := [(0, v2), (0, v3)]) (st := []) (a := v0) d_X4_isDone_152 mk_X4_flies nl_X4_127 (by omega) ⟨rfl, rfl, Nat.le_of_ble_eq_true rfl⟩ okX4 rfl (L_X4_flies q36) ?_
    refine bd_bz h (fun q37 h => ?_)
    cases h
    exact E_zret d_X4_isDone_155 rfl q37
  refine br_eq h (fun q38 h => ?_) (fun q38 h => ?_)
  · refine E_tabIn (tgt := 123) d_X4_isDone_49 q38 ⟨by decide, by decide, rfl, by decide⟩ ?_
    refine E_aload_n d_X4_isDone_123 rfl (by decide) ?_
    refine bd h (fun r39 q40 h => ?_)
    refine E_cV (as := []) (st := []) (a := v0) d_X4_isDone_124 mk_X4_triesAny nl_X4_116 (by omega) ⟨rfl, rfl, Nat.le_of_ble_eq_true rfl⟩ okX4 rfl (L_X4_triesAny q40) ?_
    refine bd_bz h (fun q41 h => ?_)
    cases h
    exact E_zret d_X4_isDone_127 rfl q41
  refine E_tabD (tgt := 156) [10, 11, 12, 13, 14, 15, 16] d_X4_isDone_49 (by simp only [List.mem_cons, List.not_mem_nil, or_false, not_or]; exact ⟨q13, q18, q22, q26, q30, q34, q38⟩) (by decide) ⟨by decide, by decide⟩ ?_
  refine E_iconst d_X4_isDone_156 (c32 rfl) ?_
  cases h
  exact E_zret d_X4_isDone_157 rfl (Or.inr rfl)
noncomputable def f_X4_isDone_b0 (v0 v1 : Int) (σ : Mem) : Option (Int × Mem) :=
  (gf Sh σ 4 v0 0).bind fun x1 =>
  (gf Sh σ 5 x1 4).bind fun x2 =>
  (al Sh σ 20 x2 v1).bind fun x3 =>
  (gf Sh σ 4 v0 0).bind fun x4 =>
  (gf Sh σ 5 x4 5).bind fun x5 =>
  (al Sh σ 20 x5 v1).bind fun x6 =>
  (gf Sh σ 4 v0 0).bind fun x7 =>
  (gf Sh σ 5 x7 6).bind fun x8 =>
  (al Sh σ 20 x8 v1).bind fun x9 =>
  if x9 = 1 then
    f_X4_isDone_b38 v0 v1 x3 x6 1 σ
  else
    f_X4_isDone_b38 v0 v1 x3 x6 0 σ
theorem L_X4_isDone_b0 {sc : Nat × (Nat → Int32)} {o : Int × Mem} {v0 v1 : Int} {σ : Mem} (h : f_X4_isDone_b0 v0 v1 σ = some o) : E sc (Fm Sh (some (0, o.1)) Sh o.2) mt_X4_isDone 6 Sh Sh 0 [(2, v0), (0, v1), (9, 0), (9, 0), (9, 0)] [] Sh σ := by
  unfold f_X4_isDone_b0 at h
  refine E_aload_n d_X4_isDone_0 rfl (by decide) ?_
  refine E_get d_X4_isDone_1 okX4 fl_X4_15 ⟨by decide, rfl⟩ h (fun x1 h => ?_)
  refine E_get d_X4_isDone_4 okX5 fl_X4_73 ⟨by decide, rfl⟩ h (fun x2 h => ?_)
  refine E_iload_n d_X4_isDone_7 rfl ?_
  refine E_iaload d_X4_isDone_8 h (fun x3 h => ?_)
  refine E_istore_n d_X4_isDone_9 (ls' := [(2, v0), (0, v1), (0, x3), (9, 0), (9, 0)]) ⟨by decide, rfl⟩ ?_
  refine E_aload_n d_X4_isDone_10 rfl (by decide) ?_
  refine E_get d_X4_isDone_11 okX4 fl_X4_15 ⟨by decide, rfl⟩ h (fun x4 h => ?_)
  refine E_get d_X4_isDone_14 okX5 fl_X4_95 ⟨by decide, rfl⟩ h (fun x5 h => ?_)
  refine E_iload_n d_X4_isDone_17 rfl ?_
  refine E_iaload d_X4_isDone_18 h (fun x6 h => ?_)
  refine E_istore_n d_X4_isDone_19 (ls' := [(2, v0), (0, v1), (0, x3), (0, x6), (9, 0)]) ⟨by decide, rfl⟩ ?_
  refine E_aload_n d_X4_isDone_20 rfl (by decide) ?_
  refine E_get d_X4_isDone_21 okX4 fl_X4_15 ⟨by decide, rfl⟩ h (fun x7 h => ?_)
  refine E_get d_X4_isDone_24 okX5 fl_X4_92 ⟨by decide, rfl⟩ h (fun x8 h => ?_)
  refine E_iload_n d_X4_isDone_27 rfl ?_
  refine E_iaload d_X4_isDone_28 h (fun x9 h => ?_)
  refine E_iconst d_X4_isDone_29 (c32 rfl) ?_
  refine E_icmp_ne (tgt := 37) d_X4_isDone_30 (by decide) h (fun _ h => ?_) (fun _ h => ?_)
  · refine E_iconst d_X4_isDone_33 (c32 rfl) ?_
    refine E_goto (tgt := 38) d_X4_isDone_34 (by decide) ?_
    exact (L_X4_isDone_b38 h)
  · refine E_iconst d_X4_isDone_37 (c32 rfl) ?_
    exact (L_X4_isDone_b38 h)
noncomputable def f_X4_isDone (v0 v1 : Int) (σ : Mem) : Option (Int × Mem) := if isO Sh 4 v0 = true then f_X4_isDone_b0 v0 v1 σ else none
theorem L_X4_isDone {o : Int × Mem} {v0 v1 : Int} {σ : Mem} (h : f_X4_isDone v0 v1 σ = some o) : (isO Sh 4 v0 = true ∧ Cn mt_X4_isDone 6 [(2, v0), (0, v1)] Sh σ (some (0, o.1)) Sh o.2) := ⟨(ite_ok h).1, Cn_of mk_X4_isDone.1.2.2.1 (Nat.le_of_ble_eq_true rfl) (fun sc => L_X4_isDone_b0 (ite_ok h).2)⟩
theorem d_X4_isEmptyBlock_0 : decode mt_X4_isEmptyBlock.2.1 0 = .ok (.iload_n 1, 1) := by decide +kernel
theorem d_X4_isEmptyBlock_1 : decode mt_X4_isEmptyBlock.2.1 1 = .ok (.iconst 1, 1) := by decide +kernel
theorem d_X4_isEmptyBlock_2 : decode mt_X4_isEmptyBlock.2.1 2 = .ok (.iadd, 1) := by decide +kernel
theorem d_X4_isEmptyBlock_3 : decode mt_X4_isEmptyBlock.2.1 3 = .ok (.aload_n 0, 1) := by decide +kernel
theorem d_X4_isEmptyBlock_4 : decode mt_X4_isEmptyBlock.2.1 4 = .ok (.getfield 15, 3) := by decide +kernel
theorem d_X4_isEmptyBlock_7 : decode mt_X4_isEmptyBlock.2.1 7 = .ok (.getfield 54, 3) := by decide +kernel
theorem d_X4_isEmptyBlock_10 : decode mt_X4_isEmptyBlock.2.1 10 = .ok (.if_icmp .ge 23, 3) := by decide +kernel
theorem d_X4_isEmptyBlock_13 : decode mt_X4_isEmptyBlock.2.1 13 = .ok (.aload_n 0, 1) := by decide +kernel
theorem d_X4_isEmptyBlock_14 : decode mt_X4_isEmptyBlock.2.1 14 = .ok (.getfield 15, 3) := by decide +kernel
theorem d_X4_isEmptyBlock_17 : decode mt_X4_isEmptyBlock.2.1 17 = .ok (.getfield 59, 3) := by decide +kernel
theorem d_X4_isEmptyBlock_20 : decode mt_X4_isEmptyBlock.2.1 20 = .ok (.iload_n 1, 1) := by decide +kernel
theorem d_X4_isEmptyBlock_21 : decode mt_X4_isEmptyBlock.2.1 21 = .ok (.iconst 1, 1) := by decide +kernel
theorem d_X4_isEmptyBlock_22 : decode mt_X4_isEmptyBlock.2.1 22 = .ok (.iadd, 1) := by decide +kernel
theorem d_X4_isEmptyBlock_23 : decode mt_X4_isEmptyBlock.2.1 23 = .ok (.iaload, 1) := by decide +kernel
theorem d_X4_isEmptyBlock_24 : decode mt_X4_isEmptyBlock.2.1 24 = .ok (.bipush 21, 2) := by decide +kernel
theorem d_X4_isEmptyBlock_26 : decode mt_X4_isEmptyBlock.2.1 26 = .ok (.if_icmp .ne 7, 3) := by decide +kernel
theorem d_X4_isEmptyBlock_29 : decode mt_X4_isEmptyBlock.2.1 29 = .ok (.iconst 1, 1) := by decide +kernel
theorem d_X4_isEmptyBlock_30 : decode mt_X4_isEmptyBlock.2.1 30 = .ok (.goto 4, 3) := by decide +kernel
theorem d_X4_isEmptyBlock_33 : decode mt_X4_isEmptyBlock.2.1 33 = .ok (.iconst 0, 1) := by decide +kernel
theorem d_X4_isEmptyBlock_34 : decode mt_X4_isEmptyBlock.2.1 34 = .ok (.ireturn, 1) := by decide +kernel
noncomputable def f_X4_isEmptyBlock_b0 (v0 v1 : Int) (σ : Mem) : Option (Int) :=
  (gf Sh σ 4 v0 0).bind fun x1 =>
  (gf Sh σ 5 x1 2).bind fun x2 =>
  if x2 ≤ w32 (v1 + 1) then
    some (0)
  else
    (gf Sh σ 4 v0 0).bind fun x3 =>
    (gf Sh σ 5 x3 3).bind fun x4 =>
    (al Sh σ 20 x4 (w32 (v1 + 1))).bind fun x5 =>
    if x5 = 21 then
      some (1)
    else
      some (0)
theorem L_X4_isEmptyBlock_b0 {sc : Nat × (Nat → Int32)} {o : Int} {σ : Mem} {v0 v1 : Int} (h : f_X4_isEmptyBlock_b0 v0 v1 σ = some o) : E sc (Fm Sh (some (0, o)) Sh σ) mt_X4_isEmptyBlock 1 Sh Sh 0 [(2, v0), (0, v1)] [] Sh σ := by
  unfold f_X4_isEmptyBlock_b0 at h
  refine E_iload_n d_X4_isEmptyBlock_0 rfl ?_
  refine E_iconst d_X4_isEmptyBlock_1 (c32 rfl) ?_
  refine E_iadd d_X4_isEmptyBlock_2 ?_
  refine E_aload_n d_X4_isEmptyBlock_3 rfl (by decide) ?_
  refine E_get d_X4_isEmptyBlock_4 okX4 fl_X4_15 ⟨by decide, rfl⟩ h (fun x1 h => ?_)
  refine E_get d_X4_isEmptyBlock_7 okX5 fl_X4_54 ⟨by decide, rfl⟩ h (fun x2 h => ?_)
  refine E_icmp_ge (tgt := 33) d_X4_isEmptyBlock_10 (by decide) h (fun _ h => ?_) (fun _ h => ?_)
  · refine E_iconst d_X4_isEmptyBlock_33 (c32 rfl) ?_
    cases h
    exact E_zret d_X4_isEmptyBlock_34 rfl (Or.inl rfl)
  · refine E_aload_n d_X4_isEmptyBlock_13 rfl (by decide) ?_
    refine E_get d_X4_isEmptyBlock_14 okX4 fl_X4_15 ⟨by decide, rfl⟩ h (fun x3 h => ?_)
    refine E_get d_X4_isEmptyBlock_17 okX5 fl_X4_59 ⟨by decide, rfl⟩ h (fun x4 h => ?_)
    refine E_iload_n d_X4_isEmptyBlock_20 rfl ?_
    refine E_iconst d_X4_isEmptyBlock_21 (c32 rfl) ?_
    refine E_iadd d_X4_isEmptyBlock_22 ?_
    refine E_iaload d_X4_isEmptyBlock_23 h (fun x5 h => ?_)
    refine E_bipush d_X4_isEmptyBlock_24 (c8 rfl) ?_
    refine E_icmp_ne (tgt := 33) d_X4_isEmptyBlock_26 (by decide) h (fun _ h => ?_) (fun _ h => ?_)
    · refine E_iconst d_X4_isEmptyBlock_29 (c32 rfl) ?_
      refine E_goto (tgt := 34) d_X4_isEmptyBlock_30 (by decide) ?_
      cases h
      exact E_zret d_X4_isEmptyBlock_34 rfl (Or.inr rfl)
    · refine E_iconst d_X4_isEmptyBlock_33 (c32 rfl) ?_
      cases h
      exact E_zret d_X4_isEmptyBlock_34 rfl (Or.inl rfl)
noncomputable def f_X4_isEmptyBlock (v0 v1 : Int) (σ : Mem) : Option (Int) := if isO Sh 4 v0 = true then f_X4_isEmptyBlock_b0 v0 v1 σ else none
theorem L_X4_isEmptyBlock {o : Int} {v0 v1 : Int} {σ : Mem} (h : f_X4_isEmptyBlock v0 v1 σ = some o) : (isO Sh 4 v0 = true ∧ Cn mt_X4_isEmptyBlock 1 [(2, v0), (0, v1)] Sh σ (some (0, o)) Sh σ) := ⟨(ite_ok h).1, Cn_of mk_X4_isEmptyBlock.1.2.2.1 (Nat.le_of_ble_eq_true rfl) (fun sc => L_X4_isEmptyBlock_b0 (ite_ok h).2)⟩
theorem d_X4_compares_0 : decode mt_X4_compares.2.1 0 = .ok (.iload_n 1, 1) := by decide +kernel
theorem d_X4_compares_1 : decode mt_X4_compares.2.1 1 = .ok (.bipush 60, 2) := by decide +kernel
theorem d_X4_compares_3 : decode mt_X4_compares.2.1 3 = .ok (.if_icmp .ne 14, 3) := by decide +kernel
theorem d_X4_compares_6 : decode mt_X4_compares.2.1 6 = .ok (.iload_n 0, 1) := by decide +kernel
theorem d_X4_compares_7 : decode mt_X4_compares.2.1 7 = .ok (.iload_n 2, 1) := by decide +kernel
theorem d_X4_compares_8 : decode mt_X4_compares.2.1 8 = .ok (.if_icmp .ge 7, 3) := by decide +kernel
theorem d_X4_compares_11 : decode mt_X4_compares.2.1 11 = .ok (.iconst 1, 1) := by decide +kernel
theorem d_X4_compares_12 : decode mt_X4_compares.2.1 12 = .ok (.goto 4, 3) := by decide +kernel
theorem d_X4_compares_15 : decode mt_X4_compares.2.1 15 = .ok (.iconst 0, 1) := by decide +kernel
theorem d_X4_compares_16 : decode mt_X4_compares.2.1 16 = .ok (.ireturn, 1) := by decide +kernel
theorem d_X4_compares_17 : decode mt_X4_compares.2.1 17 = .ok (.iload_n 1, 1) := by decide +kernel
theorem d_X4_compares_18 : decode mt_X4_compares.2.1 18 = .ok (.bipush 62, 2) := by decide +kernel
theorem d_X4_compares_20 : decode mt_X4_compares.2.1 20 = .ok (.if_icmp .ne 16, 3) := by decide +kernel
theorem d_X4_compares_23 : decode mt_X4_compares.2.1 23 = .ok (.iload_n 0, 1) := by decide +kernel
theorem d_X4_compares_24 : decode mt_X4_compares.2.1 24 = .ok (.iload_n 2, 1) := by decide +kernel
theorem d_X4_compares_25 : decode mt_X4_compares.2.1 25 = .ok (.if_icmp .le 7, 3) := by decide +kernel
theorem d_X4_compares_28 : decode mt_X4_compares.2.1 28 = .ok (.iconst 1, 1) := by decide +kernel
theorem d_X4_compares_29 : decode mt_X4_compares.2.1 29 = .ok (.goto 17, 3) := by decide +kernel
theorem d_X4_compares_32 : decode mt_X4_compares.2.1 32 = .ok (.iconst 0, 1) := by decide +kernel
theorem d_X4_compares_33 : decode mt_X4_compares.2.1 33 = .ok (.goto 13, 3) := by decide +kernel
theorem d_X4_compares_36 : decode mt_X4_compares.2.1 36 = .ok (.iload_n 0, 1) := by decide +kernel
theorem d_X4_compares_37 : decode mt_X4_compares.2.1 37 = .ok (.iload_n 2, 1) := by decide +kernel
theorem d_X4_compares_38 : decode mt_X4_compares.2.1 38 = .ok (.if_icmp .ne 7, 3) := by decide +kernel
theorem d_X4_compares_41 : decode mt_X4_compares.2.1 41 = .ok (.iconst 1, 1) := by decide +kernel
theorem d_X4_compares_42 : decode mt_X4_compares.2.1 42 = .ok (.goto 4, 3) := by decide +kernel
theorem d_X4_compares_45 : decode mt_X4_compares.2.1 45 = .ok (.iconst 0, 1) := by decide +kernel
theorem d_X4_compares_46 : decode mt_X4_compares.2.1 46 = .ok (.ireturn, 1) := by decide +kernel
noncomputable def f_X4_compares_b0 (v0 v1 v2 : Int) (σ : Mem) : Option (Int) :=
  if v1 = 60 then
    if v2 ≤ v0 then
      some (0)
    else
      some (1)
  else
    if v1 = 62 then
      if v0 ≤ v2 then
        some (0)
      else
        some (1)
    else
      if v0 = v2 then
        some (1)
      else
        some (0)
theorem L_X4_compares_b0 {sc : Nat × (Nat → Int32)} {o : Int} {σ : Mem} {v0 v1 v2 : Int} (h : f_X4_compares_b0 v0 v1 v2 σ = some o) : E sc (Fm Sh (some (0, o)) Sh σ) mt_X4_compares 1 Sh Sh 0 [(0, v0), (0, v1), (0, v2)] [] Sh σ := by
  unfold f_X4_compares_b0 at h
  refine E_iload_n d_X4_compares_0 rfl ?_
  refine E_bipush d_X4_compares_1 (c8 rfl) ?_
  refine E_icmp_ne (tgt := 17) d_X4_compares_3 (by decide) h (fun _ h => ?_) (fun _ h => ?_)
  · refine E_iload_n d_X4_compares_6 rfl ?_
    refine E_iload_n d_X4_compares_7 rfl ?_
    refine E_icmp_ge (tgt := 15) d_X4_compares_8 (by decide) h (fun _ h => ?_) (fun _ h => ?_)
    · refine E_iconst d_X4_compares_15 (c32 rfl) ?_
      cases h
      exact E_zret d_X4_compares_16 rfl (Or.inl rfl)
    · refine E_iconst d_X4_compares_11 (c32 rfl) ?_
      refine E_goto (tgt := 16) d_X4_compares_12 (by decide) ?_
      cases h
      exact E_zret d_X4_compares_16 rfl (Or.inr rfl)
  · refine E_iload_n d_X4_compares_17 rfl ?_
    refine E_bipush d_X4_compares_18 (c8 rfl) ?_
    refine E_icmp_ne (tgt := 36) d_X4_compares_20 (by decide) h (fun _ h => ?_) (fun _ h => ?_)
    · refine E_iload_n d_X4_compares_23 rfl ?_
      refine E_iload_n d_X4_compares_24 rfl ?_
      refine E_icmp_le (tgt := 32) d_X4_compares_25 (by decide) h (fun _ h => ?_) (fun _ h => ?_)
      · refine E_iconst d_X4_compares_32 (c32 rfl) ?_
        refine E_goto (tgt := 46) d_X4_compares_33 (by decide) ?_
        cases h
        exact E_zret d_X4_compares_46 rfl (Or.inl rfl)
      · refine E_iconst d_X4_compares_28 (c32 rfl) ?_
        refine E_goto (tgt := 46) d_X4_compares_29 (by decide) ?_
        cases h
        exact E_zret d_X4_compares_46 rfl (Or.inr rfl)
    · refine E_iload_n d_X4_compares_36 rfl ?_
      refine E_iload_n d_X4_compares_37 rfl ?_
      refine E_icmp_ne (tgt := 45) d_X4_compares_38 (by decide) h (fun _ h => ?_) (fun _ h => ?_)
      · refine E_iconst d_X4_compares_41 (c32 rfl) ?_
        refine E_goto (tgt := 46) d_X4_compares_42 (by decide) ?_
        cases h
        exact E_zret d_X4_compares_46 rfl (Or.inr rfl)
      · refine E_iconst d_X4_compares_45 (c32 rfl) ?_
        cases h
        exact E_zret d_X4_compares_46 rfl (Or.inl rfl)
noncomputable def f_X4_compares (v0 v1 v2 : Int) (σ : Mem) : Option (Int) := f_X4_compares_b0 v0 v1 v2 σ
theorem L_X4_compares {o : Int} {v0 v1 v2 : Int} {σ : Mem} (h : f_X4_compares v0 v1 v2 σ = some o) : Cn mt_X4_compares 1 [(0, v0), (0, v1), (0, v2)] Sh σ (some (0, o)) Sh σ := Cn_of mk_X4_compares.1.2.2.1 (Nat.le_of_ble_eq_true rfl) (fun sc => L_X4_compares_b0 h)
theorem d_X4_holds_0 : decode mt_X4_holds.2.1 0 = .ok (.aload_n 0, 1) := by decide +kernel
theorem d_X4_holds_1 : decode mt_X4_holds.2.1 1 = .ok (.getfield 15, 3) := by decide +kernel
theorem d_X4_holds_4 : decode mt_X4_holds.2.1 4 = .ok (.getfield 73, 3) := by decide +kernel
theorem d_X4_holds_7 : decode mt_X4_holds.2.1 7 = .ok (.iload_n 1, 1) := by decide +kernel
theorem d_X4_holds_8 : decode mt_X4_holds.2.1 8 = .ok (.iaload, 1) := by decide +kernel
theorem d_X4_holds_9 : decode mt_X4_holds.2.1 9 = .ok (.istore_n 2, 1) := by decide +kernel
theorem d_X4_holds_10 : decode mt_X4_holds.2.1 10 = .ok (.aload_n 0, 1) := by decide +kernel
theorem d_X4_holds_11 : decode mt_X4_holds.2.1 11 = .ok (.getfield 19, 3) := by decide +kernel
theorem d_X4_holds_14 : decode mt_X4_holds.2.1 14 = .ok (.iload_n 2, 1) := by decide +kernel
theorem d_X4_holds_15 : decode mt_X4_holds.2.1 15 = .ok (.i2l, 1) := by decide +kernel
theorem d_X4_holds_16 : decode mt_X4_holds.2.1 16 = .ok (.invokevirtual 85, 3) := by decide +kernel
theorem d_X4_holds_19 : decode mt_X4_holds.2.1 19 = .ok (.ifCond .ne 5, 3) := by decide +kernel
theorem d_X4_holds_22 : decode mt_X4_holds.2.1 22 = .ok (.iconst 0, 1) := by decide +kernel
theorem d_X4_holds_23 : decode mt_X4_holds.2.1 23 = .ok (.ireturn, 1) := by decide +kernel
theorem d_X4_holds_24 : decode mt_X4_holds.2.1 24 = .ok (.aload_n 0, 1) := by decide +kernel
theorem d_X4_holds_25 : decode mt_X4_holds.2.1 25 = .ok (.getfield 15, 3) := by decide +kernel
theorem d_X4_holds_28 : decode mt_X4_holds.2.1 28 = .ok (.getfield 59, 3) := by decide +kernel
theorem d_X4_holds_31 : decode mt_X4_holds.2.1 31 = .ok (.iload_n 1, 1) := by decide +kernel
theorem d_X4_holds_32 : decode mt_X4_holds.2.1 32 = .ok (.iaload, 1) := by decide +kernel
theorem d_X4_holds_33 : decode mt_X4_holds.2.1 33 = .ok (.lookupswitch 85 #[(18, 37), (19, 27)], 27) := by decide +kernel
theorem d_X4_holds_60 : decode mt_X4_holds.2.1 60 = .ok (.aload_n 0, 1) := by decide +kernel
theorem d_X4_holds_61 : decode mt_X4_holds.2.1 61 = .ok (.getfield 19, 3) := by decide +kernel
theorem d_X4_holds_64 : decode mt_X4_holds.2.1 64 = .ok (.iload_n 2, 1) := by decide +kernel
theorem d_X4_holds_65 : decode mt_X4_holds.2.1 65 = .ok (.i2l, 1) := by decide +kernel
theorem d_X4_holds_66 : decode mt_X4_holds.2.1 66 = .ok (.invokevirtual 89, 3) := by decide +kernel
theorem d_X4_holds_69 : decode mt_X4_holds.2.1 69 = .ok (.ireturn, 1) := by decide +kernel
theorem d_X4_holds_70 : decode mt_X4_holds.2.1 70 = .ok (.aload_n 0, 1) := by decide +kernel
theorem d_X4_holds_71 : decode mt_X4_holds.2.1 71 = .ok (.getfield 19, 3) := by decide +kernel
theorem d_X4_holds_74 : decode mt_X4_holds.2.1 74 = .ok (.iload_n 2, 1) := by decide +kernel
theorem d_X4_holds_75 : decode mt_X4_holds.2.1 75 = .ok (.i2l, 1) := by decide +kernel
theorem d_X4_holds_76 : decode mt_X4_holds.2.1 76 = .ok (.invokevirtual 89, 3) := by decide +kernel
theorem d_X4_holds_79 : decode mt_X4_holds.2.1 79 = .ok (.ifCond .eq 37, 3) := by decide +kernel
theorem d_X4_holds_82 : decode mt_X4_holds.2.1 82 = .ok (.aload_n 0, 1) := by decide +kernel
theorem d_X4_holds_83 : decode mt_X4_holds.2.1 83 = .ok (.getfield 15, 3) := by decide +kernel
theorem d_X4_holds_86 : decode mt_X4_holds.2.1 86 = .ok (.getfield 92, 3) := by decide +kernel
theorem d_X4_holds_89 : decode mt_X4_holds.2.1 89 = .ok (.iload_n 1, 1) := by decide +kernel
theorem d_X4_holds_90 : decode mt_X4_holds.2.1 90 = .ok (.iaload, 1) := by decide +kernel
theorem d_X4_holds_91 : decode mt_X4_holds.2.1 91 = .ok (.aload_n 0, 1) := by decide +kernel
theorem d_X4_holds_92 : decode mt_X4_holds.2.1 92 = .ok (.getfield 19, 3) := by decide +kernel
theorem d_X4_holds_95 : decode mt_X4_holds.2.1 95 = .ok (.iload_n 2, 1) := by decide +kernel
theorem d_X4_holds_96 : decode mt_X4_holds.2.1 96 = .ok (.aload_n 0, 1) := by decide +kernel
theorem d_X4_holds_97 : decode mt_X4_holds.2.1 97 = .ok (.getfield 15, 3) := by decide +kernel
theorem d_X4_holds_100 : decode mt_X4_holds.2.1 100 = .ok (.getfield 95, 3) := by decide +kernel
theorem d_X4_holds_103 : decode mt_X4_holds.2.1 103 = .ok (.iload_n 1, 1) := by decide +kernel
theorem d_X4_holds_104 : decode mt_X4_holds.2.1 104 = .ok (.iaload, 1) := by decide +kernel
theorem d_X4_holds_105 : decode mt_X4_holds.2.1 105 = .ok (.iconst 0, 1) := by decide +kernel
theorem d_X4_holds_106 : decode mt_X4_holds.2.1 106 = .ok (.invokevirtual 98, 3) := by decide +kernel
theorem d_X4_holds_109 : decode mt_X4_holds.2.1 109 = .ok (.if_icmp .le 7, 3) := by decide +kernel
theorem d_X4_holds_112 : decode mt_X4_holds.2.1 112 = .ok (.iconst 1, 1) := by decide +kernel
theorem d_X4_holds_113 : decode mt_X4_holds.2.1 113 = .ok (.goto 4, 3) := by decide +kernel
theorem d_X4_holds_116 : decode mt_X4_holds.2.1 116 = .ok (.iconst 0, 1) := by decide +kernel
theorem d_X4_holds_117 : decode mt_X4_holds.2.1 117 = .ok (.ireturn, 1) := by decide +kernel
theorem d_X4_holds_118 : decode mt_X4_holds.2.1 118 = .ok (.aload_n 0, 1) := by decide +kernel
theorem d_X4_holds_119 : decode mt_X4_holds.2.1 119 = .ok (.getfield 19, 3) := by decide +kernel
theorem d_X4_holds_122 : decode mt_X4_holds.2.1 122 = .ok (.getfield 102, 3) := by decide +kernel
theorem d_X4_holds_125 : decode mt_X4_holds.2.1 125 = .ok (.iload_n 2, 1) := by decide +kernel
theorem d_X4_holds_126 : decode mt_X4_holds.2.1 126 = .ok (.iaload, 1) := by decide +kernel
theorem d_X4_holds_127 : decode mt_X4_holds.2.1 127 = .ok (.aload_n 0, 1) := by decide +kernel
theorem d_X4_holds_128 : decode mt_X4_holds.2.1 128 = .ok (.getfield 15, 3) := by decide +kernel
theorem d_X4_holds_131 : decode mt_X4_holds.2.1 131 = .ok (.getfield 95, 3) := by decide +kernel
theorem d_X4_holds_134 : decode mt_X4_holds.2.1 134 = .ok (.iload_n 1, 1) := by decide +kernel
theorem d_X4_holds_135 : decode mt_X4_holds.2.1 135 = .ok (.iaload, 1) := by decide +kernel
theorem d_X4_holds_136 : decode mt_X4_holds.2.1 136 = .ok (.aload_n 0, 1) := by decide +kernel
theorem d_X4_holds_137 : decode mt_X4_holds.2.1 137 = .ok (.getfield 15, 3) := by decide +kernel
theorem d_X4_holds_140 : decode mt_X4_holds.2.1 140 = .ok (.getfield 92, 3) := by decide +kernel
theorem d_X4_holds_143 : decode mt_X4_holds.2.1 143 = .ok (.iload_n 1, 1) := by decide +kernel
theorem d_X4_holds_144 : decode mt_X4_holds.2.1 144 = .ok (.iaload, 1) := by decide +kernel
theorem d_X4_holds_145 : decode mt_X4_holds.2.1 145 = .ok (.invokestatic 105, 3) := by decide +kernel
theorem d_X4_holds_148 : decode mt_X4_holds.2.1 148 = .ok (.ireturn, 1) := by decide +kernel
noncomputable def f_X4_holds_b0 (v0 v1 : Int) (σ : Mem) : Option (Int) :=
  (gf Sh σ 4 v0 0).bind fun x1 =>
  (gf Sh σ 5 x1 4).bind fun x2 =>
  (al Sh σ 20 x2 v1).bind fun x3 =>
  (gf Sh σ 4 v0 1).bind fun x4 =>
  (f_X9_isPlace x4 x3 σ).bind fun r5 =>
  if r5 = 0 then
    some (0)
  else
    (gf Sh σ 4 v0 0).bind fun x7 =>
    (gf Sh σ 5 x7 3).bind fun x8 =>
    (al Sh σ 20 x8 v1).bind fun x9 =>
    if x9 = 18 then
      (gf Sh σ 4 v0 1).bind fun x11 =>
      (f_X9_isStone x11 x3 σ).bind fun r12 =>
      if r12 = 0 then
        some (0)
      else
        (gf Sh σ 4 v0 0).bind fun x14 =>
        (gf Sh σ 5 x14 6).bind fun x15 =>
        (al Sh σ 20 x15 v1).bind fun x16 =>
        (gf Sh σ 4 v0 1).bind fun x17 =>
        (gf Sh σ 4 v0 0).bind fun x18 =>
        (gf Sh σ 5 x18 5).bind fun x19 =>
        (al Sh σ 20 x19 v1).bind fun x20 =>
        (f_X9_mercyFor x17 x3 x20 0 σ).bind fun r21 =>
        if x16 ≤ r21 then
          some (0)
        else
          some (1)
    else if x9 = 19 then
      (gf Sh σ 4 v0 1).bind fun x24 =>
      (f_X9_isStone x24 x3 σ).bind fun r25 =>
      (bz r25).bind fun _ =>
      some (r25)
    else 
      (gf Sh σ 4 v0 1).bind fun x28 =>
      (gf Sh σ 9 x28 3).bind fun x29 =>
      (al Sh σ 20 x29 x3).bind fun x30 =>
      (gf Sh σ 4 v0 0).bind fun x31 =>
      (gf Sh σ 5 x31 5).bind fun x32 =>
      (al Sh σ 20 x32 v1).bind fun x33 =>
      (gf Sh σ 4 v0 0).bind fun x34 =>
      (gf Sh σ 5 x34 6).bind fun x35 =>
      (al Sh σ 20 x35 v1).bind fun x36 =>
      (f_X4_compares x30 x33 x36 σ).bind fun r37 =>
      (bz r37).bind fun _ =>
      some (r37)
theorem L_X4_holds_b0 {sc : Nat × (Nat → Int32)} {o : Int} {σ : Mem} {v0 v1 : Int} (h : f_X4_holds_b0 v0 v1 σ = some o) : E sc (Fm Sh (some (0, o)) Sh σ) mt_X4_holds 3 Sh Sh 0 [(2, v0), (0, v1), (9, 0)] [] Sh σ := by
  unfold f_X4_holds_b0 at h
  refine E_aload_n d_X4_holds_0 rfl (by decide) ?_
  refine E_get d_X4_holds_1 okX4 fl_X4_15 ⟨by decide, rfl⟩ h (fun x1 h => ?_)
  refine E_get d_X4_holds_4 okX5 fl_X4_73 ⟨by decide, rfl⟩ h (fun x2 h => ?_)
  refine E_iload_n d_X4_holds_7 rfl ?_
  refine E_iaload d_X4_holds_8 h (fun x3 h => ?_)
  refine E_istore_n d_X4_holds_9 (ls' := [(2, v0), (0, v1), (0, x3)]) ⟨by decide, rfl⟩ ?_
  refine E_aload_n d_X4_holds_10 rfl (by decide) ?_
  refine E_get d_X4_holds_11 okX4 fl_X4_19 ⟨by decide, rfl⟩ h (fun x4 h => ?_)
  refine E_iload_n d_X4_holds_14 rfl ?_
  refine E_i2l d_X4_holds_15 ?_
  refine bd h (fun r5 q6 h => ?_)
  refine E_cV (as := [(1, x3)]) (st := []) (a := x4) d_X4_holds_16 mk_X9_isPlace nl_X4_85 (by omega) ⟨rfl, rfl, Nat.le_of_ble_eq_true rfl⟩ okX9 rfl (L_X9_isPlace q6) ?_
  refine E_if_ne (tgt := 24) d_X4_holds_19 (by decide) h (fun _ h => ?_) (fun _ h => ?_)
  · refine E_iconst d_X4_holds_22 (c32 rfl) ?_
    cases h
    exact E_zret d_X4_holds_23 rfl (Or.inl rfl)
  · refine E_aload_n d_X4_holds_24 rfl (by decide) ?_
    refine E_get d_X4_holds_25 okX4 fl_X4_15 ⟨by decide, rfl⟩ h (fun x7 h => ?_)
    refine E_get d_X4_holds_28 okX5 fl_X4_59 ⟨by decide, rfl⟩ h (fun x8 h => ?_)
    refine E_iload_n d_X4_holds_31 rfl ?_
    refine E_iaload d_X4_holds_32 h (fun x9 h => ?_)
    refine br_eq h (fun q10 h => ?_) (fun q10 h => ?_)
    · refine E_look (tgt := 70) d_X4_holds_33 (by decide) (by rw [q10]) (by decide) ?_
      refine E_aload_n d_X4_holds_70 rfl (by decide) ?_
      refine E_get d_X4_holds_71 okX4 fl_X4_19 ⟨by decide, rfl⟩ h (fun x11 h => ?_)
      refine E_iload_n d_X4_holds_74 rfl ?_
      refine E_i2l d_X4_holds_75 ?_
      refine bd h (fun r12 q13 h => ?_)
      refine E_cV (as := [(1, x3)]) (st := []) (a := x11) d_X4_holds_76 mk_X9_isStone nl_X4_89 (by omega) ⟨rfl, rfl, Nat.le_of_ble_eq_true rfl⟩ okX9 rfl (L_X9_isStone q13) ?_
      refine E_if_eq (tgt := 116) d_X4_holds_79 (by decide) h (fun _ h => ?_) (fun _ h => ?_)
      · refine E_iconst d_X4_holds_116 (c32 rfl) ?_
        cases h
        exact E_zret d_X4_holds_117 rfl (Or.inl rfl)
      · refine E_aload_n d_X4_holds_82 rfl (by decide) ?_
        refine E_get d_X4_holds_83 okX4 fl_X4_15 ⟨by decide, rfl⟩ h (fun x14 h => ?_)
        refine E_get d_X4_holds_86 okX5 fl_X4_92 ⟨by decide, rfl⟩ h (fun x15 h => ?_)
        refine E_iload_n d_X4_holds_89 rfl ?_
        refine E_iaload d_X4_holds_90 h (fun x16 h => ?_)
        refine E_aload_n d_X4_holds_91 rfl (by decide) ?_
        refine E_get d_X4_holds_92 okX4 fl_X4_19 ⟨by decide, rfl⟩ h (fun x17 h => ?_)
        refine E_iload_n d_X4_holds_95 rfl ?_
        refine E_aload_n d_X4_holds_96 rfl (by decide) ?_
        refine E_get d_X4_holds_97 okX4 fl_X4_15 ⟨by decide, rfl⟩ h (fun x18 h => ?_)
        refine E_get d_X4_holds_100 okX5 fl_X4_95 ⟨by decide, rfl⟩ h (fun x19 h => ?_)
        refine E_iload_n d_X4_holds_103 rfl ?_
        refine E_iaload d_X4_holds_104 h (fun x20 h => ?_)
        refine E_iconst d_X4_holds_105 (c32 rfl) ?_
        refine bd h (fun r21 q22 h => ?_)
        refine E_cV (as := [(0, x3), (0, x20), (0, 0)]) (st := [(0, x16)]) (a := x17) d_X4_holds_106 mk_X9_mercyFor nl_X4_98 (by omega) ⟨rfl, rfl, Nat.le_of_ble_eq_true rfl⟩ okX9 rfl (L_X9_mercyFor q22) ?_
        refine E_icmp_le (tgt := 116) d_X4_holds_109 (by decide) h (fun _ h => ?_) (fun _ h => ?_)
        · refine E_iconst d_X4_holds_116 (c32 rfl) ?_
          cases h
          exact E_zret d_X4_holds_117 rfl (Or.inl rfl)
        · refine E_iconst d_X4_holds_112 (c32 rfl) ?_
          refine E_goto (tgt := 117) d_X4_holds_113 (by decide) ?_
          cases h
          exact E_zret d_X4_holds_117 rfl (Or.inr rfl)
    refine br_eq h (fun q23 h => ?_) (fun q23 h => ?_)
    · refine E_look (tgt := 60) d_X4_holds_33 (by decide) (by rw [q23]) (by decide) ?_
      refine E_aload_n d_X4_holds_60 rfl (by decide) ?_
      refine E_get d_X4_holds_61 okX4 fl_X4_19 ⟨by decide, rfl⟩ h (fun x24 h => ?_)
      refine E_iload_n d_X4_holds_64 rfl ?_
      refine E_i2l d_X4_holds_65 ?_
      refine bd h (fun r25 q26 h => ?_)
      refine E_cV (as := [(1, x3)]) (st := []) (a := x24) d_X4_holds_66 mk_X9_isStone nl_X4_89 (by omega) ⟨rfl, rfl, Nat.le_of_ble_eq_true rfl⟩ okX9 rfl (L_X9_isStone q26) ?_
      refine bd_bz h (fun q27 h => ?_)
      cases h
      exact E_zret d_X4_holds_69 rfl q27
    refine E_look (tgt := 118) d_X4_holds_33 (by decide) (lk_out (by simp only [List.map_cons, List.map_nil, List.mem_cons, List.not_mem_nil, or_false, not_or]; exact ⟨q10, q23⟩)) (by decide) ?_
    refine E_aload_n d_X4_holds_118 rfl (by decide) ?_
    refine E_get d_X4_holds_119 okX4 fl_X4_19 ⟨by decide, rfl⟩ h (fun x28 h => ?_)
    refine E_get d_X4_holds_122 okX9 fl_X4_102 ⟨by decide, rfl⟩ h (fun x29 h => ?_)
    refine E_iload_n d_X4_holds_125 rfl ?_
    refine E_iaload d_X4_holds_126 h (fun x30 h => ?_)
    refine E_aload_n d_X4_holds_127 rfl (by decide) ?_
    refine E_get d_X4_holds_128 okX4 fl_X4_15 ⟨by decide, rfl⟩ h (fun x31 h => ?_)
    refine E_get d_X4_holds_131 okX5 fl_X4_95 ⟨by decide, rfl⟩ h (fun x32 h => ?_)
    refine E_iload_n d_X4_holds_134 rfl ?_
    refine E_iaload d_X4_holds_135 h (fun x33 h => ?_)
    refine E_aload_n d_X4_holds_136 rfl (by decide) ?_
    refine E_get d_X4_holds_137 okX4 fl_X4_15 ⟨by decide, rfl⟩ h (fun x34 h => ?_)
    refine E_get d_X4_holds_140 okX5 fl_X4_92 ⟨by decide, rfl⟩ h (fun x35 h => ?_)
    refine E_iload_n d_X4_holds_143 rfl ?_
    refine E_iaload d_X4_holds_144 h (fun x36 h => ?_)
    refine bd h (fun r37 q38 h => ?_)
    refine E_cS (as := [(0, x30), (0, x33), (0, x36)]) (st := []) d_X4_holds_145 mk_X4_compares nl_X4_105 (by omega) ⟨rfl, rfl, Nat.le_of_ble_eq_true rfl⟩ (L_X4_compares q38) ?_
    refine bd_bz h (fun q39 h => ?_)
    cases h
    exact E_zret d_X4_holds_148 rfl q39
noncomputable def f_X4_holds (v0 v1 : Int) (σ : Mem) : Option (Int) := if isO Sh 4 v0 = true then f_X4_holds_b0 v0 v1 σ else none
theorem L_X4_holds {o : Int} {v0 v1 : Int} {σ : Mem} (h : f_X4_holds v0 v1 σ = some o) : (isO Sh 4 v0 = true ∧ Cn mt_X4_holds 3 [(2, v0), (0, v1)] Sh σ (some (0, o)) Sh σ) := ⟨(ite_ok h).1, Cn_of mk_X4_holds.1.2.2.1 (Nat.le_of_ble_eq_true rfl) (fun sc => L_X4_holds_b0 (ite_ok h).2)⟩
theorem d_X4_goesRound_0 : decode mt_X4_goesRound.2.1 0 = .ok (.iload_n 1, 1) := by decide +kernel
theorem d_X4_goesRound_1 : decode mt_X4_goesRound.2.1 1 = .ok (.ifCond .lt 28, 3) := by decide +kernel
theorem d_X4_goesRound_4 : decode mt_X4_goesRound.2.1 4 = .ok (.iload_n 1, 1) := by decide +kernel
theorem d_X4_goesRound_5 : decode mt_X4_goesRound.2.1 5 = .ok (.aload_n 0, 1) := by decide +kernel
theorem d_X4_goesRound_6 : decode mt_X4_goesRound.2.1 6 = .ok (.getfield 15, 3) := by decide +kernel
theorem d_X4_goesRound_9 : decode mt_X4_goesRound.2.1 9 = .ok (.getfield 54, 3) := by decide +kernel
theorem d_X4_goesRound_12 : decode mt_X4_goesRound.2.1 12 = .ok (.if_icmp .ge 17, 3) := by decide +kernel
theorem d_X4_goesRound_15 : decode mt_X4_goesRound.2.1 15 = .ok (.aload_n 0, 1) := by decide +kernel
theorem d_X4_goesRound_16 : decode mt_X4_goesRound.2.1 16 = .ok (.getfield 15, 3) := by decide +kernel
theorem d_X4_goesRound_19 : decode mt_X4_goesRound.2.1 19 = .ok (.getfield 59, 3) := by decide +kernel
theorem d_X4_goesRound_22 : decode mt_X4_goesRound.2.1 22 = .ok (.iload_n 1, 1) := by decide +kernel
theorem d_X4_goesRound_23 : decode mt_X4_goesRound.2.1 23 = .ok (.iaload, 1) := by decide +kernel
theorem d_X4_goesRound_24 : decode mt_X4_goesRound.2.1 24 = .ok (.bipush 20, 2) := by decide +kernel
theorem d_X4_goesRound_26 : decode mt_X4_goesRound.2.1 26 = .ok (.if_icmp .eq 5, 3) := by decide +kernel
theorem d_X4_goesRound_29 : decode mt_X4_goesRound.2.1 29 = .ok (.iconst 0, 1) := by decide +kernel
theorem d_X4_goesRound_30 : decode mt_X4_goesRound.2.1 30 = .ok (.ireturn, 1) := by decide +kernel
theorem d_X4_goesRound_31 : decode mt_X4_goesRound.2.1 31 = .ok (.aload_n 0, 1) := by decide +kernel
theorem d_X4_goesRound_32 : decode mt_X4_goesRound.2.1 32 = .ok (.getfield 9, 3) := by decide +kernel
theorem d_X4_goesRound_35 : decode mt_X4_goesRound.2.1 35 = .ok (.iload_n 1, 1) := by decide +kernel
theorem d_X4_goesRound_36 : decode mt_X4_goesRound.2.1 36 = .ok (.dup2, 1) := by decide +kernel
theorem d_X4_goesRound_37 : decode mt_X4_goesRound.2.1 37 = .ok (.iaload, 1) := by decide +kernel
theorem d_X4_goesRound_38 : decode mt_X4_goesRound.2.1 38 = .ok (.iconst 1, 1) := by decide +kernel
theorem d_X4_goesRound_39 : decode mt_X4_goesRound.2.1 39 = .ok (.isub, 1) := by decide +kernel
theorem d_X4_goesRound_40 : decode mt_X4_goesRound.2.1 40 = .ok (.iastore, 1) := by decide +kernel
theorem d_X4_goesRound_41 : decode mt_X4_goesRound.2.1 41 = .ok (.aload_n 0, 1) := by decide +kernel
theorem d_X4_goesRound_42 : decode mt_X4_goesRound.2.1 42 = .ok (.getfield 9, 3) := by decide +kernel
theorem d_X4_goesRound_45 : decode mt_X4_goesRound.2.1 45 = .ok (.iload_n 1, 1) := by decide +kernel
theorem d_X4_goesRound_46 : decode mt_X4_goesRound.2.1 46 = .ok (.iaload, 1) := by decide +kernel
theorem d_X4_goesRound_47 : decode mt_X4_goesRound.2.1 47 = .ok (.ifCond .le 7, 3) := by decide +kernel
theorem d_X4_goesRound_50 : decode mt_X4_goesRound.2.1 50 = .ok (.iconst 1, 1) := by decide +kernel
theorem d_X4_goesRound_51 : decode mt_X4_goesRound.2.1 51 = .ok (.goto 4, 3) := by decide +kernel
theorem d_X4_goesRound_54 : decode mt_X4_goesRound.2.1 54 = .ok (.iconst 0, 1) := by decide +kernel
theorem d_X4_goesRound_55 : decode mt_X4_goesRound.2.1 55 = .ok (.ireturn, 1) := by decide +kernel
noncomputable def f_X4_goesRound_b0 (v0 v1 : Int) (σ : Mem) : Option (Int × Mem) :=
  if v1 < 0 then
    some (0, σ)
  else
    (gf Sh σ 4 v0 0).bind fun x1 =>
    (gf Sh σ 5 x1 2).bind fun x2 =>
    if x2 ≤ v1 then
      some (0, σ)
    else
      (gf Sh σ 4 v0 0).bind fun x3 =>
      (gf Sh σ 5 x3 3).bind fun x4 =>
      (al Sh σ 20 x4 v1).bind fun x5 =>
      if x5 = 20 then
        (gf Sh σ 4 v0 2).bind fun x6 =>
        (al Sh σ 20 x6 v1).bind fun x7 =>
        (st_ Sh σ 20 x6 v1 (w32 (x7 - 1))).bind fun σ8 =>
        (gf Sh σ8 4 v0 2).bind fun x9 =>
        (al Sh σ8 20 x9 v1).bind fun x10 =>
        if x10 ≤ 0 then
          some (0, σ8)
        else
          some (1, σ8)
      else
        some (0, σ)
theorem L_X4_goesRound_b0 {sc : Nat × (Nat → Int32)} {o : Int × Mem} {v0 v1 : Int} {σ : Mem} (h : f_X4_goesRound_b0 v0 v1 σ = some o) : E sc (Fm Sh (some (0, o.1)) Sh o.2) mt_X4_goesRound 1 Sh Sh 0 [(2, v0), (0, v1)] [] Sh σ := by
  unfold f_X4_goesRound_b0 at h
  refine E_iload_n d_X4_goesRound_0 rfl ?_
  refine E_if_lt (tgt := 29) d_X4_goesRound_1 (by decide) h (fun _ h => ?_) (fun _ h => ?_)
  · refine E_iconst d_X4_goesRound_29 (c32 rfl) ?_
    cases h
    exact E_zret d_X4_goesRound_30 rfl (Or.inl rfl)
  · refine E_iload_n d_X4_goesRound_4 rfl ?_
    refine E_aload_n d_X4_goesRound_5 rfl (by decide) ?_
    refine E_get d_X4_goesRound_6 okX4 fl_X4_15 ⟨by decide, rfl⟩ h (fun x1 h => ?_)
    refine E_get d_X4_goesRound_9 okX5 fl_X4_54 ⟨by decide, rfl⟩ h (fun x2 h => ?_)
    refine E_icmp_ge (tgt := 29) d_X4_goesRound_12 (by decide) h (fun _ h => ?_) (fun _ h => ?_)
    · refine E_iconst d_X4_goesRound_29 (c32 rfl) ?_
      cases h
      exact E_zret d_X4_goesRound_30 rfl (Or.inl rfl)
    · refine E_aload_n d_X4_goesRound_15 rfl (by decide) ?_
      refine E_get d_X4_goesRound_16 okX4 fl_X4_15 ⟨by decide, rfl⟩ h (fun x3 h => ?_)
      refine E_get d_X4_goesRound_19 okX5 fl_X4_59 ⟨by decide, rfl⟩ h (fun x4 h => ?_)
      refine E_iload_n d_X4_goesRound_22 rfl ?_
      refine E_iaload d_X4_goesRound_23 h (fun x5 h => ?_)
      refine E_bipush d_X4_goesRound_24 (c8 rfl) ?_
      refine E_icmp_eq (tgt := 31) d_X4_goesRound_26 (by decide) h (fun _ h => ?_) (fun _ h => ?_)
      · refine E_aload_n d_X4_goesRound_31 rfl (by decide) ?_
        refine E_get d_X4_goesRound_32 okX4 fl_X4_9 ⟨by decide, rfl⟩ h (fun x6 h => ?_)
        refine E_iload_n d_X4_goesRound_35 rfl ?_
        refine E_dup2T d_X4_goesRound_36 (by decide) ?_
        refine E_iaload d_X4_goesRound_37 h (fun x7 h => ?_)
        refine E_iconst d_X4_goesRound_38 (c32 rfl) ?_
        refine E_isub d_X4_goesRound_39 ?_
        refine E_iastore d_X4_goesRound_40 h (fun σ8 h => ?_)
        refine E_aload_n d_X4_goesRound_41 rfl (by decide) ?_
        refine E_get d_X4_goesRound_42 okX4 fl_X4_9 ⟨by decide, rfl⟩ h (fun x9 h => ?_)
        refine E_iload_n d_X4_goesRound_45 rfl ?_
        refine E_iaload d_X4_goesRound_46 h (fun x10 h => ?_)
        refine E_if_le (tgt := 54) d_X4_goesRound_47 (by decide) h (fun _ h => ?_) (fun _ h => ?_)
        · refine E_iconst d_X4_goesRound_54 (c32 rfl) ?_
          cases h
          exact E_zret d_X4_goesRound_55 rfl (Or.inl rfl)
        · refine E_iconst d_X4_goesRound_50 (c32 rfl) ?_
          refine E_goto (tgt := 55) d_X4_goesRound_51 (by decide) ?_
          cases h
          exact E_zret d_X4_goesRound_55 rfl (Or.inr rfl)
      · refine E_iconst d_X4_goesRound_29 (c32 rfl) ?_
        cases h
        exact E_zret d_X4_goesRound_30 rfl (Or.inl rfl)
noncomputable def f_X4_goesRound (v0 v1 : Int) (σ : Mem) : Option (Int × Mem) := if isO Sh 4 v0 = true then f_X4_goesRound_b0 v0 v1 σ else none
theorem L_X4_goesRound {o : Int × Mem} {v0 v1 : Int} {σ : Mem} (h : f_X4_goesRound v0 v1 σ = some o) : (isO Sh 4 v0 = true ∧ Cn mt_X4_goesRound 1 [(2, v0), (0, v1)] Sh σ (some (0, o.1)) Sh o.2) := ⟨(ite_ok h).1, Cn_of mk_X4_goesRound.1.2.2.1 (Nat.le_of_ble_eq_true rfl) (fun sc => L_X4_goesRound_b0 (ite_ok h).2)⟩
theorem d_X4_whereNext_0 : decode mt_X4_whereNext.2.1 0 = .ok (.aload_n 0, 1) := by decide +kernel
theorem d_X4_whereNext_1 : decode mt_X4_whereNext.2.1 1 = .ok (.getfield 15, 3) := by decide +kernel
theorem d_X4_whereNext_4 : decode mt_X4_whereNext.2.1 4 = .ok (.getfield 70, 3) := by decide +kernel
theorem d_X4_whereNext_7 : decode mt_X4_whereNext.2.1 7 = .ok (.iload_n 1, 1) := by decide +kernel
theorem d_X4_whereNext_8 : decode mt_X4_whereNext.2.1 8 = .ok (.iaload, 1) := by decide +kernel
theorem d_X4_whereNext_9 : decode mt_X4_whereNext.2.1 9 = .ok (.istore_n 2, 1) := by decide +kernel
theorem d_X4_whereNext_10 : decode mt_X4_whereNext.2.1 10 = .ok (.aload_n 0, 1) := by decide +kernel
theorem d_X4_whereNext_11 : decode mt_X4_whereNext.2.1 11 = .ok (.getfield 15, 3) := by decide +kernel
theorem d_X4_whereNext_14 : decode mt_X4_whereNext.2.1 14 = .ok (.getfield 59, 3) := by decide +kernel
theorem d_X4_whereNext_17 : decode mt_X4_whereNext.2.1 17 = .ok (.iload_n 1, 1) := by decide +kernel
theorem d_X4_whereNext_18 : decode mt_X4_whereNext.2.1 18 = .ok (.iaload, 1) := by decide +kernel
theorem d_X4_whereNext_19 : decode mt_X4_whereNext.2.1 19 = .ok (.tableswitch 166 3 22 #[132, 166, 166, 166, 166, 166, 166, 166, 166, 166, 166, 166, 166, 166, 166, 132, 132, 101, 148, 93], 93) := by decide +kernel
theorem d_X4_whereNext_112 : decode mt_X4_whereNext.2.1 112 = .ok (.aload_n 0, 1) := by decide +kernel
theorem d_X4_whereNext_113 : decode mt_X4_whereNext.2.1 113 = .ok (.getfield 15, 3) := by decide +kernel
theorem d_X4_whereNext_116 : decode mt_X4_whereNext.2.1 116 = .ok (.getfield 54, 3) := by decide +kernel
theorem d_X4_whereNext_119 : decode mt_X4_whereNext.2.1 119 = .ok (.ireturn, 1) := by decide +kernel
theorem d_X4_whereNext_120 : decode mt_X4_whereNext.2.1 120 = .ok (.aload_n 0, 1) := by decide +kernel
theorem d_X4_whereNext_121 : decode mt_X4_whereNext.2.1 121 = .ok (.getfield 9, 3) := by decide +kernel
theorem d_X4_whereNext_124 : decode mt_X4_whereNext.2.1 124 = .ok (.iload_n 1, 1) := by decide +kernel
theorem d_X4_whereNext_125 : decode mt_X4_whereNext.2.1 125 = .ok (.aload_n 0, 1) := by decide +kernel
theorem d_X4_whereNext_126 : decode mt_X4_whereNext.2.1 126 = .ok (.getfield 15, 3) := by decide +kernel
theorem d_X4_whereNext_129 : decode mt_X4_whereNext.2.1 129 = .ok (.getfield 73, 3) := by decide +kernel
theorem d_X4_whereNext_132 : decode mt_X4_whereNext.2.1 132 = .ok (.iload_n 1, 1) := by decide +kernel
theorem d_X4_whereNext_133 : decode mt_X4_whereNext.2.1 133 = .ok (.iaload, 1) := by decide +kernel
theorem d_X4_whereNext_134 : decode mt_X4_whereNext.2.1 134 = .ok (.iastore, 1) := by decide +kernel
theorem d_X4_whereNext_135 : decode mt_X4_whereNext.2.1 135 = .ok (.aload_n 0, 1) := by decide +kernel
theorem d_X4_whereNext_136 : decode mt_X4_whereNext.2.1 136 = .ok (.iload_n 1, 1) := by decide +kernel
theorem d_X4_whereNext_137 : decode mt_X4_whereNext.2.1 137 = .ok (.invokevirtual 76, 3) := by decide +kernel
theorem d_X4_whereNext_140 : decode mt_X4_whereNext.2.1 140 = .ok (.ifCond .eq 7, 3) := by decide +kernel
theorem d_X4_whereNext_143 : decode mt_X4_whereNext.2.1 143 = .ok (.iload_n 2, 1) := by decide +kernel
theorem d_X4_whereNext_144 : decode mt_X4_whereNext.2.1 144 = .ok (.goto 6, 3) := by decide +kernel
theorem d_X4_whereNext_147 : decode mt_X4_whereNext.2.1 147 = .ok (.iload_n 1, 1) := by decide +kernel
theorem d_X4_whereNext_148 : decode mt_X4_whereNext.2.1 148 = .ok (.iconst 1, 1) := by decide +kernel
theorem d_X4_whereNext_149 : decode mt_X4_whereNext.2.1 149 = .ok (.iadd, 1) := by decide +kernel
theorem d_X4_whereNext_150 : decode mt_X4_whereNext.2.1 150 = .ok (.ireturn, 1) := by decide +kernel
theorem d_X4_whereNext_151 : decode mt_X4_whereNext.2.1 151 = .ok (.aload_n 0, 1) := by decide +kernel
theorem d_X4_whereNext_152 : decode mt_X4_whereNext.2.1 152 = .ok (.iload_n 1, 1) := by decide +kernel
theorem d_X4_whereNext_153 : decode mt_X4_whereNext.2.1 153 = .ok (.invokevirtual 79, 3) := by decide +kernel
theorem d_X4_whereNext_156 : decode mt_X4_whereNext.2.1 156 = .ok (.ifCond .eq 9, 3) := by decide +kernel
theorem d_X4_whereNext_159 : decode mt_X4_whereNext.2.1 159 = .ok (.iload_n 1, 1) := by decide +kernel
theorem d_X4_whereNext_160 : decode mt_X4_whereNext.2.1 160 = .ok (.iconst 1, 1) := by decide +kernel
theorem d_X4_whereNext_161 : decode mt_X4_whereNext.2.1 161 = .ok (.iadd, 1) := by decide +kernel
theorem d_X4_whereNext_162 : decode mt_X4_whereNext.2.1 162 = .ok (.goto 4, 3) := by decide +kernel
theorem d_X4_whereNext_165 : decode mt_X4_whereNext.2.1 165 = .ok (.iload_n 2, 1) := by decide +kernel
theorem d_X4_whereNext_166 : decode mt_X4_whereNext.2.1 166 = .ok (.ireturn, 1) := by decide +kernel
theorem d_X4_whereNext_167 : decode mt_X4_whereNext.2.1 167 = .ok (.aload_n 0, 1) := by decide +kernel
theorem d_X4_whereNext_168 : decode mt_X4_whereNext.2.1 168 = .ok (.iload_n 2, 1) := by decide +kernel
theorem d_X4_whereNext_169 : decode mt_X4_whereNext.2.1 169 = .ok (.invokevirtual 82, 3) := by decide +kernel
theorem d_X4_whereNext_172 : decode mt_X4_whereNext.2.1 172 = .ok (.ifCond .eq 9, 3) := by decide +kernel
theorem d_X4_whereNext_175 : decode mt_X4_whereNext.2.1 175 = .ok (.iload_n 2, 1) := by decide +kernel
theorem d_X4_whereNext_176 : decode mt_X4_whereNext.2.1 176 = .ok (.iconst 1, 1) := by decide +kernel
theorem d_X4_whereNext_177 : decode mt_X4_whereNext.2.1 177 = .ok (.iadd, 1) := by decide +kernel
theorem d_X4_whereNext_178 : decode mt_X4_whereNext.2.1 178 = .ok (.goto 6, 3) := by decide +kernel
theorem d_X4_whereNext_181 : decode mt_X4_whereNext.2.1 181 = .ok (.iload_n 1, 1) := by decide +kernel
theorem d_X4_whereNext_182 : decode mt_X4_whereNext.2.1 182 = .ok (.iconst 1, 1) := by decide +kernel
theorem d_X4_whereNext_183 : decode mt_X4_whereNext.2.1 183 = .ok (.iadd, 1) := by decide +kernel
theorem d_X4_whereNext_184 : decode mt_X4_whereNext.2.1 184 = .ok (.ireturn, 1) := by decide +kernel
theorem d_X4_whereNext_185 : decode mt_X4_whereNext.2.1 185 = .ok (.iload_n 1, 1) := by decide +kernel
theorem d_X4_whereNext_186 : decode mt_X4_whereNext.2.1 186 = .ok (.iconst 1, 1) := by decide +kernel
theorem d_X4_whereNext_187 : decode mt_X4_whereNext.2.1 187 = .ok (.iadd, 1) := by decide +kernel
theorem d_X4_whereNext_188 : decode mt_X4_whereNext.2.1 188 = .ok (.ireturn, 1) := by decide +kernel
noncomputable def f_X4_whereNext_b151 (v0 v1 v2 : Int) (σ : Mem) : Option (Int × Mem) :=
  (f_X4_holds v0 v1 σ).bind fun r24 =>
  if r24 = 0 then
    some (v2, σ)
  else
    some (w32 (v1 + 1), σ)
theorem L_X4_whereNext_b151 {sc : Nat × (Nat → Int32)} {o : Int × Mem} {v0 v1 v2 : Int} {σ : Mem} (h : f_X4_whereNext_b151 v0 v1 v2 σ = some o) : E sc (Fm Sh (some (0, o.1)) Sh o.2) mt_X4_whereNext 4 Sh Sh 151 [(2, v0), (0, v1), (0, v2)] [] Sh σ := by
  unfold f_X4_whereNext_b151 at h
  refine E_aload_n d_X4_whereNext_151 rfl (by decide) ?_
  refine E_iload_n d_X4_whereNext_152 rfl ?_
  refine bd h (fun r24 q25 h => ?_)
  refine E_cV (as := [(0, v1)]) (st := []) (a := v0) d_X4_whereNext_153 mk_X4_holds nl_X4_79 (by omega) ⟨rfl, rfl, Nat.le_of_ble_eq_true rfl⟩ okX4 rfl (L_X4_holds q25) ?_
  refine E_if_eq (tgt := 165) d_X4_whereNext_156 (by decide) h (fun _ h => ?_) (fun _ h => ?_)
  · refine E_iload_n d_X4_whereNext_165 rfl ?_
    cases h
    exact E_iret d_X4_whereNext_166 rfl
  · refine E_iload_n d_X4_whereNext_159 rfl ?_
    refine E_iconst d_X4_whereNext_160 (c32 rfl) ?_
    refine E_iadd d_X4_whereNext_161 ?_
    refine E_goto (tgt := 166) d_X4_whereNext_162 (by decide) ?_
    cases h
    exact E_iret d_X4_whereNext_166 rfl
noncomputable def f_X4_whereNext_b0 (v0 v1 : Int) (σ : Mem) : Option (Int × Mem) :=
  (gf Sh σ 4 v0 0).bind fun x1 =>
  (gf Sh σ 5 x1 7).bind fun x2 =>
  (al Sh σ 20 x2 v1).bind fun x3 =>
  (gf Sh σ 4 v0 0).bind fun x4 =>
  (gf Sh σ 5 x4 3).bind fun x5 =>
  (al Sh σ 20 x5 v1).bind fun x6 =>
  if x6 = 3 then
    f_X4_whereNext_b151 v0 v1 x3 σ
  else if x6 = 18 then
    f_X4_whereNext_b151 v0 v1 x3 σ
  else if x6 = 19 then
    f_X4_whereNext_b151 v0 v1 x3 σ
  else if x6 = 20 then
    (gf Sh σ 4 v0 2).bind fun x11 =>
    (gf Sh σ 4 v0 0).bind fun x12 =>
    (gf Sh σ 5 x12 4).bind fun x13 =>
    (al Sh σ 20 x13 v1).bind fun x14 =>
    (st_ Sh σ 20 x11 v1 x14).bind fun σ15 =>
    (f_X4_isEmptyBlock v0 v1 σ15).bind fun r16 =>
    if r16 = 0 then
      some (w32 (v1 + 1), σ15)
    else
      some (x3, σ15)
  else if x6 = 21 then
    (f_X4_goesRound v0 x3 σ).bind fun r19 =>
    if r19.1 = 0 then
      some (w32 (v1 + 1), r19.2)
    else
      some (w32 (x3 + 1), r19.2)
  else if x6 = 22 then
    (gf Sh σ 4 v0 0).bind fun x22 =>
    (gf Sh σ 5 x22 2).bind fun x23 =>
    some (x23, σ)
  else 
    some (w32 (v1 + 1), σ)
theorem L_X4_whereNext_b0 {sc : Nat × (Nat → Int32)} {o : Int × Mem} {v0 v1 : Int} {σ : Mem} (h : f_X4_whereNext_b0 v0 v1 σ = some o) : E sc (Fm Sh (some (0, o.1)) Sh o.2) mt_X4_whereNext 4 Sh Sh 0 [(2, v0), (0, v1), (9, 0)] [] Sh σ := by
  unfold f_X4_whereNext_b0 at h
  refine E_aload_n d_X4_whereNext_0 rfl (by decide) ?_
  refine E_get d_X4_whereNext_1 okX4 fl_X4_15 ⟨by decide, rfl⟩ h (fun x1 h => ?_)
  refine E_get d_X4_whereNext_4 okX5 fl_X4_70 ⟨by decide, rfl⟩ h (fun x2 h => ?_)
  refine E_iload_n d_X4_whereNext_7 rfl ?_
  refine E_iaload d_X4_whereNext_8 h (fun x3 h => ?_)
  refine E_istore_n d_X4_whereNext_9 (ls' := [(2, v0), (0, v1), (0, x3)]) ⟨by decide, rfl⟩ ?_
  refine E_aload_n d_X4_whereNext_10 rfl (by decide) ?_
  refine E_get d_X4_whereNext_11 okX4 fl_X4_15 ⟨by decide, rfl⟩ h (fun x4 h => ?_)
  refine E_get d_X4_whereNext_14 okX5 fl_X4_59 ⟨by decide, rfl⟩ h (fun x5 h => ?_)
  refine E_iload_n d_X4_whereNext_17 rfl ?_
  refine E_iaload d_X4_whereNext_18 h (fun x6 h => ?_)
  refine br_eq h (fun q7 h => ?_) (fun q7 h => ?_)
  · refine E_tabIn (tgt := 151) d_X4_whereNext_19 q7 ⟨by decide, by decide, rfl, by decide⟩ ?_
    exact (L_X4_whereNext_b151 h)
  refine br_eq h (fun q8 h => ?_) (fun q8 h => ?_)
  · refine E_tabIn (tgt := 151) d_X4_whereNext_19 q8 ⟨by decide, by decide, rfl, by decide⟩ ?_
    exact (L_X4_whereNext_b151 h)
  refine br_eq h (fun q9 h => ?_) (fun q9 h => ?_)
  · refine E_tabIn (tgt := 151) d_X4_whereNext_19 q9 ⟨by decide, by decide, rfl, by decide⟩ ?_
    exact (L_X4_whereNext_b151 h)
  refine br_eq h (fun q10 h => ?_) (fun q10 h => ?_)
  · refine E_tabIn (tgt := 120) d_X4_whereNext_19 q10 ⟨by decide, by decide, rfl, by decide⟩ ?_
    refine E_aload_n d_X4_whereNext_120 rfl (by decide) ?_
    refine E_get d_X4_whereNext_121 okX4 fl_X4_9 ⟨by decide, rfl⟩ h (fun x11 h => ?_)
    refine E_iload_n d_X4_whereNext_124 rfl ?_
    refine E_aload_n d_X4_whereNext_125 rfl (by decide) ?_
    refine E_get d_X4_whereNext_126 okX4 fl_X4_15 ⟨by decide, rfl⟩ h (fun x12 h => ?_)
    refine E_get d_X4_whereNext_129 okX5 fl_X4_73 ⟨by decide, rfl⟩ h (fun x13 h => ?_)
    refine E_iload_n d_X4_whereNext_132 rfl ?_
    refine E_iaload d_X4_whereNext_133 h (fun x14 h => ?_)
    refine E_iastore d_X4_whereNext_134 h (fun σ15 h => ?_)
    refine E_aload_n d_X4_whereNext_135 rfl (by decide) ?_
    refine E_iload_n d_X4_whereNext_136 rfl ?_
    refine bd h (fun r16 q17 h => ?_)
    refine E_cV (as := [(0, v1)]) (st := []) (a := v0) d_X4_whereNext_137 mk_X4_isEmptyBlock nl_X4_76 (by omega) ⟨rfl, rfl, Nat.le_of_ble_eq_true rfl⟩ okX4 rfl (L_X4_isEmptyBlock q17) ?_
    refine E_if_eq (tgt := 147) d_X4_whereNext_140 (by decide) h (fun _ h => ?_) (fun _ h => ?_)
    · refine E_iload_n d_X4_whereNext_147 rfl ?_
      refine E_iconst d_X4_whereNext_148 (c32 rfl) ?_
      refine E_iadd d_X4_whereNext_149 ?_
      cases h
      exact E_iret d_X4_whereNext_150 rfl
    · refine E_iload_n d_X4_whereNext_143 rfl ?_
      refine E_goto (tgt := 150) d_X4_whereNext_144 (by decide) ?_
      cases h
      exact E_iret d_X4_whereNext_150 rfl
  refine br_eq h (fun q18 h => ?_) (fun q18 h => ?_)
  · refine E_tabIn (tgt := 167) d_X4_whereNext_19 q18 ⟨by decide, by decide, rfl, by decide⟩ ?_
    refine E_aload_n d_X4_whereNext_167 rfl (by decide) ?_
    refine E_iload_n d_X4_whereNext_168 rfl ?_
    refine bd h (fun r19 q20 h => ?_)
    refine E_cV (as := [(0, x3)]) (st := []) (a := v0) d_X4_whereNext_169 mk_X4_goesRound nl_X4_82 (by omega) ⟨rfl, rfl, Nat.le_of_ble_eq_true rfl⟩ okX4 rfl (L_X4_goesRound q20) ?_
    refine E_if_eq (tgt := 181) d_X4_whereNext_172 (by decide) h (fun _ h => ?_) (fun _ h => ?_)
    · refine E_iload_n d_X4_whereNext_181 rfl ?_
      refine E_iconst d_X4_whereNext_182 (c32 rfl) ?_
      refine E_iadd d_X4_whereNext_183 ?_
      cases h
      exact E_iret d_X4_whereNext_184 rfl
    · refine E_iload_n d_X4_whereNext_175 rfl ?_
      refine E_iconst d_X4_whereNext_176 (c32 rfl) ?_
      refine E_iadd d_X4_whereNext_177 ?_
      refine E_goto (tgt := 184) d_X4_whereNext_178 (by decide) ?_
      cases h
      exact E_iret d_X4_whereNext_184 rfl
  refine br_eq h (fun q21 h => ?_) (fun q21 h => ?_)
  · refine E_tabIn (tgt := 112) d_X4_whereNext_19 q21 ⟨by decide, by decide, rfl, by decide⟩ ?_
    refine E_aload_n d_X4_whereNext_112 rfl (by decide) ?_
    refine E_get d_X4_whereNext_113 okX4 fl_X4_15 ⟨by decide, rfl⟩ h (fun x22 h => ?_)
    refine E_get d_X4_whereNext_116 okX5 fl_X4_54 ⟨by decide, rfl⟩ h (fun x23 h => ?_)
    cases h
    exact E_iret d_X4_whereNext_119 rfl
  refine E_tabD (tgt := 185) [3, 18, 19, 20, 21, 22] d_X4_whereNext_19 (by simp only [List.mem_cons, List.not_mem_nil, or_false, not_or]; exact ⟨q7, q8, q9, q10, q18, q21⟩) (by decide) ⟨by decide, by decide⟩ ?_
  refine E_iload_n d_X4_whereNext_185 rfl ?_
  refine E_iconst d_X4_whereNext_186 (c32 rfl) ?_
  refine E_iadd d_X4_whereNext_187 ?_
  cases h
  exact E_iret d_X4_whereNext_188 rfl
noncomputable def f_X4_whereNext (v0 v1 : Int) (σ : Mem) : Option (Int × Mem) := if isO Sh 4 v0 = true then f_X4_whereNext_b0 v0 v1 σ else none
theorem L_X4_whereNext {o : Int × Mem} {v0 v1 : Int} {σ : Mem} (h : f_X4_whereNext v0 v1 σ = some o) : (isO Sh 4 v0 = true ∧ Cn mt_X4_whereNext 4 [(2, v0), (0, v1)] Sh σ (some (0, o.1)) Sh o.2) := ⟨(ite_ok h).1, Cn_of mk_X4_whereNext.1.2.2.1 (Nat.le_of_ble_eq_true rfl) (fun sc => L_X4_whereNext_b0 (ite_ok h).2)⟩
theorem d_X4_run_0 : decode mt_X4_run.2.1 0 = .ok (.aload_n 0, 1) := by decide +kernel
theorem d_X4_run_1 : decode mt_X4_run.2.1 1 = .ok (.iload_n 1, 1) := by decide +kernel
theorem d_X4_run_2 : decode mt_X4_run.2.1 2 = .ok (.putfield 23, 3) := by decide +kernel
theorem d_X4_run_5 : decode mt_X4_run.2.1 5 = .ok (.aload_n 0, 1) := by decide +kernel
theorem d_X4_run_6 : decode mt_X4_run.2.1 6 = .ok (.iconst 0, 1) := by decide +kernel
theorem d_X4_run_7 : decode mt_X4_run.2.1 7 = .ok (.putfield 27, 3) := by decide +kernel
theorem d_X4_run_10 : decode mt_X4_run.2.1 10 = .ok (.aload_n 0, 1) := by decide +kernel
theorem d_X4_run_11 : decode mt_X4_run.2.1 11 = .ok (.iconst 0, 1) := by decide +kernel
theorem d_X4_run_12 : decode mt_X4_run.2.1 12 = .ok (.putfield 30, 3) := by decide +kernel
theorem d_X4_run_15 : decode mt_X4_run.2.1 15 = .ok (.aload_n 0, 1) := by decide +kernel
theorem d_X4_run_16 : decode mt_X4_run.2.1 16 = .ok (.aload_n 0, 1) := by decide +kernel
theorem d_X4_run_17 : decode mt_X4_run.2.1 17 = .ok (.getfield 19, 3) := by decide +kernel
theorem d_X4_run_20 : decode mt_X4_run.2.1 20 = .ok (.getfield 33, 3) := by decide +kernel
theorem d_X4_run_23 : decode mt_X4_run.2.1 23 = .ok (.putfield 38, 3) := by decide +kernel
theorem d_X4_run_26 : decode mt_X4_run.2.1 26 = .ok (.aload_n 0, 1) := by decide +kernel
theorem d_X4_run_27 : decode mt_X4_run.2.1 27 = .ok (.aload_n 0, 1) := by decide +kernel
theorem d_X4_run_28 : decode mt_X4_run.2.1 28 = .ok (.getfield 19, 3) := by decide +kernel
theorem d_X4_run_31 : decode mt_X4_run.2.1 31 = .ok (.getfield 41, 3) := by decide +kernel
theorem d_X4_run_34 : decode mt_X4_run.2.1 34 = .ok (.putfield 44, 3) := by decide +kernel
theorem d_X4_run_37 : decode mt_X4_run.2.1 37 = .ok (.aload_n 0, 1) := by decide +kernel
theorem d_X4_run_38 : decode mt_X4_run.2.1 38 = .ok (.aload_n 0, 1) := by decide +kernel
theorem d_X4_run_39 : decode mt_X4_run.2.1 39 = .ok (.getfield 19, 3) := by decide +kernel
theorem d_X4_run_42 : decode mt_X4_run.2.1 42 = .ok (.getfield 45, 3) := by decide +kernel
theorem d_X4_run_45 : decode mt_X4_run.2.1 45 = .ok (.putfield 48, 3) := by decide +kernel
theorem d_X4_run_48 : decode mt_X4_run.2.1 48 = .ok (.aload_n 0, 1) := by decide +kernel
theorem d_X4_run_49 : decode mt_X4_run.2.1 49 = .ok (.iconst 0, 1) := by decide +kernel
theorem d_X4_run_50 : decode mt_X4_run.2.1 50 = .ok (.putfield 49, 3) := by decide +kernel
theorem d_X4_run_53 : decode mt_X4_run.2.1 53 = .ok (.iconst 0, 1) := by decide +kernel
theorem d_X4_run_54 : decode mt_X4_run.2.1 54 = .ok (.istore_n 2, 1) := by decide +kernel
theorem d_X4_run_55 : decode mt_X4_run.2.1 55 = .ok (.iconst 0, 1) := by decide +kernel
theorem d_X4_run_56 : decode mt_X4_run.2.1 56 = .ok (.istore_n 3, 1) := by decide +kernel
theorem d_X4_run_57 : decode mt_X4_run.2.1 57 = .ok (.iload_n 3, 1) := by decide +kernel
theorem d_X4_run_58 : decode mt_X4_run.2.1 58 = .ok (.ldc 53, 2) := by decide +kernel
theorem d_X4_run_60 : decode mt_X4_run.2.1 60 = .ok (.if_icmp .ge 122, 3) := by decide +kernel
theorem d_X4_run_63 : decode mt_X4_run.2.1 63 = .ok (.iload_n 2, 1) := by decide +kernel
theorem d_X4_run_64 : decode mt_X4_run.2.1 64 = .ok (.ifCond .lt 118, 3) := by decide +kernel
theorem d_X4_run_67 : decode mt_X4_run.2.1 67 = .ok (.iload_n 2, 1) := by decide +kernel
theorem d_X4_run_68 : decode mt_X4_run.2.1 68 = .ok (.aload_n 0, 1) := by decide +kernel
theorem d_X4_run_69 : decode mt_X4_run.2.1 69 = .ok (.getfield 15, 3) := by decide +kernel
theorem d_X4_run_72 : decode mt_X4_run.2.1 72 = .ok (.getfield 54, 3) := by decide +kernel
theorem d_X4_run_75 : decode mt_X4_run.2.1 75 = .ok (.if_icmp .ge 107, 3) := by decide +kernel
theorem d_X4_run_78 : decode mt_X4_run.2.1 78 = .ok (.aload_n 0, 1) := by decide +kernel
theorem d_X4_run_79 : decode mt_X4_run.2.1 79 = .ok (.getfield 49, 3) := by decide +kernel
theorem d_X4_run_82 : decode mt_X4_run.2.1 82 = .ok (.ifCond .ne 100, 3) := by decide +kernel
theorem d_X4_run_85 : decode mt_X4_run.2.1 85 = .ok (.aload_n 0, 1) := by decide +kernel
theorem d_X4_run_86 : decode mt_X4_run.2.1 86 = .ok (.getfield 15, 3) := by decide +kernel
theorem d_X4_run_89 : decode mt_X4_run.2.1 89 = .ok (.getfield 59, 3) := by decide +kernel
theorem d_X4_run_92 : decode mt_X4_run.2.1 92 = .ok (.iload_n 2, 1) := by decide +kernel
theorem d_X4_run_93 : decode mt_X4_run.2.1 93 = .ok (.iaload, 1) := by decide +kernel
theorem d_X4_run_94 : decode mt_X4_run.2.1 94 = .ok (.bipush 21, 2) := by decide +kernel
theorem d_X4_run_96 : decode mt_X4_run.2.1 96 = .ok (.if_icmp .eq 7, 3) := by decide +kernel
theorem d_X4_run_99 : decode mt_X4_run.2.1 99 = .ok (.iconst 1, 1) := by decide +kernel
theorem d_X4_run_100 : decode mt_X4_run.2.1 100 = .ok (.goto 4, 3) := by decide +kernel
theorem d_X4_run_103 : decode mt_X4_run.2.1 103 = .ok (.iconst 0, 1) := by decide +kernel
theorem d_X4_run_104 : decode mt_X4_run.2.1 104 = .ok (.istore 4, 2) := by decide +kernel
theorem d_X4_run_106 : decode mt_X4_run.2.1 106 = .ok (.iload 4, 2) := by decide +kernel
theorem d_X4_run_108 : decode mt_X4_run.2.1 108 = .ok (.ifCond .eq 21, 3) := by decide +kernel
theorem d_X4_run_111 : decode mt_X4_run.2.1 111 = .ok (.aload_n 0, 1) := by decide +kernel
theorem d_X4_run_112 : decode mt_X4_run.2.1 112 = .ok (.getfield 27, 3) := by decide +kernel
theorem d_X4_run_115 : decode mt_X4_run.2.1 115 = .ok (.sipush 300, 3) := by decide +kernel
theorem d_X4_run_118 : decode mt_X4_run.2.1 118 = .ok (.if_icmp .lt 11, 3) := by decide +kernel
theorem d_X4_run_121 : decode mt_X4_run.2.1 121 = .ok (.aload_n 0, 1) := by decide +kernel
theorem d_X4_run_122 : decode mt_X4_run.2.1 122 = .ok (.iconst 1, 1) := by decide +kernel
theorem d_X4_run_123 : decode mt_X4_run.2.1 123 = .ok (.putfield 49, 3) := by decide +kernel
theorem d_X4_run_126 : decode mt_X4_run.2.1 126 = .ok (.goto 50, 3) := by decide +kernel
theorem d_X4_run_129 : decode mt_X4_run.2.1 129 = .ok (.aload_n 0, 1) := by decide +kernel
theorem d_X4_run_130 : decode mt_X4_run.2.1 130 = .ok (.dup, 1) := by decide +kernel
theorem d_X4_run_131 : decode mt_X4_run.2.1 131 = .ok (.getfield 27, 3) := by decide +kernel
theorem d_X4_run_134 : decode mt_X4_run.2.1 134 = .ok (.iload 4, 2) := by decide +kernel
theorem d_X4_run_136 : decode mt_X4_run.2.1 136 = .ok (.ifCond .eq 7, 3) := by decide +kernel
theorem d_X4_run_139 : decode mt_X4_run.2.1 139 = .ok (.iconst 1, 1) := by decide +kernel
theorem d_X4_run_140 : decode mt_X4_run.2.1 140 = .ok (.goto 4, 3) := by decide +kernel
theorem d_X4_run_143 : decode mt_X4_run.2.1 143 = .ok (.iconst 0, 1) := by decide +kernel
theorem d_X4_run_144 : decode mt_X4_run.2.1 144 = .ok (.iadd, 1) := by decide +kernel
theorem d_X4_run_145 : decode mt_X4_run.2.1 145 = .ok (.putfield 27, 3) := by decide +kernel
theorem d_X4_run_148 : decode mt_X4_run.2.1 148 = .ok (.aload_n 0, 1) := by decide +kernel
theorem d_X4_run_149 : decode mt_X4_run.2.1 149 = .ok (.dup, 1) := by decide +kernel
theorem d_X4_run_150 : decode mt_X4_run.2.1 150 = .ok (.getfield 30, 3) := by decide +kernel
theorem d_X4_run_153 : decode mt_X4_run.2.1 153 = .ok (.aload_n 0, 1) := by decide +kernel
theorem d_X4_run_154 : decode mt_X4_run.2.1 154 = .ok (.iload_n 2, 1) := by decide +kernel
theorem d_X4_run_155 : decode mt_X4_run.2.1 155 = .ok (.invokevirtual 62, 3) := by decide +kernel
theorem d_X4_run_158 : decode mt_X4_run.2.1 158 = .ok (.ifCond .eq 7, 3) := by decide +kernel
theorem d_X4_run_161 : decode mt_X4_run.2.1 161 = .ok (.iconst 0, 1) := by decide +kernel
theorem d_X4_run_162 : decode mt_X4_run.2.1 162 = .ok (.goto 4, 3) := by decide +kernel
theorem d_X4_run_165 : decode mt_X4_run.2.1 165 = .ok (.iconst 1, 1) := by decide +kernel
theorem d_X4_run_166 : decode mt_X4_run.2.1 166 = .ok (.iadd, 1) := by decide +kernel
theorem d_X4_run_167 : decode mt_X4_run.2.1 167 = .ok (.putfield 30, 3) := by decide +kernel
theorem d_X4_run_170 : decode mt_X4_run.2.1 170 = .ok (.aload_n 0, 1) := by decide +kernel
theorem d_X4_run_171 : decode mt_X4_run.2.1 171 = .ok (.iload_n 2, 1) := by decide +kernel
theorem d_X4_run_172 : decode mt_X4_run.2.1 172 = .ok (.invokevirtual 66, 3) := by decide +kernel
theorem d_X4_run_175 : decode mt_X4_run.2.1 175 = .ok (.istore_n 2, 1) := by decide +kernel
theorem d_X4_run_176 : decode mt_X4_run.2.1 176 = .ok (.iinc 3 1, 3) := by decide +kernel
theorem d_X4_run_179 : decode mt_X4_run.2.1 179 = .ok (.goto (-122), 3) := by decide +kernel
theorem d_X4_run_182 : decode mt_X4_run.2.1 182 = .ok (.aload_n 0, 1) := by decide +kernel
theorem d_X4_run_183 : decode mt_X4_run.2.1 183 = .ok (.aload_n 0, 1) := by decide +kernel
theorem d_X4_run_184 : decode mt_X4_run.2.1 184 = .ok (.getfield 19, 3) := by decide +kernel
theorem d_X4_run_187 : decode mt_X4_run.2.1 187 = .ok (.getfield 33, 3) := by decide +kernel
theorem d_X4_run_190 : decode mt_X4_run.2.1 190 = .ok (.aload_n 0, 1) := by decide +kernel
theorem d_X4_run_191 : decode mt_X4_run.2.1 191 = .ok (.getfield 38, 3) := by decide +kernel
theorem d_X4_run_194 : decode mt_X4_run.2.1 194 = .ok (.isub, 1) := by decide +kernel
theorem d_X4_run_195 : decode mt_X4_run.2.1 195 = .ok (.putfield 38, 3) := by decide +kernel
theorem d_X4_run_198 : decode mt_X4_run.2.1 198 = .ok (.aload_n 0, 1) := by decide +kernel
theorem d_X4_run_199 : decode mt_X4_run.2.1 199 = .ok (.aload_n 0, 1) := by decide +kernel
theorem d_X4_run_200 : decode mt_X4_run.2.1 200 = .ok (.getfield 19, 3) := by decide +kernel
theorem d_X4_run_203 : decode mt_X4_run.2.1 203 = .ok (.getfield 41, 3) := by decide +kernel
theorem d_X4_run_206 : decode mt_X4_run.2.1 206 = .ok (.aload_n 0, 1) := by decide +kernel
theorem d_X4_run_207 : decode mt_X4_run.2.1 207 = .ok (.getfield 44, 3) := by decide +kernel
theorem d_X4_run_210 : decode mt_X4_run.2.1 210 = .ok (.isub, 1) := by decide +kernel
theorem d_X4_run_211 : decode mt_X4_run.2.1 211 = .ok (.putfield 44, 3) := by decide +kernel
theorem d_X4_run_214 : decode mt_X4_run.2.1 214 = .ok (.aload_n 0, 1) := by decide +kernel
theorem d_X4_run_215 : decode mt_X4_run.2.1 215 = .ok (.aload_n 0, 1) := by decide +kernel
theorem d_X4_run_216 : decode mt_X4_run.2.1 216 = .ok (.getfield 19, 3) := by decide +kernel
theorem d_X4_run_219 : decode mt_X4_run.2.1 219 = .ok (.getfield 45, 3) := by decide +kernel
theorem d_X4_run_222 : decode mt_X4_run.2.1 222 = .ok (.aload_n 0, 1) := by decide +kernel
theorem d_X4_run_223 : decode mt_X4_run.2.1 223 = .ok (.getfield 48, 3) := by decide +kernel
theorem d_X4_run_226 : decode mt_X4_run.2.1 226 = .ok (.isub, 1) := by decide +kernel
theorem d_X4_run_227 : decode mt_X4_run.2.1 227 = .ok (.putfield 48, 3) := by decide +kernel
theorem d_X4_run_230 : decode mt_X4_run.2.1 230 = .ok (.return_, 1) := by decide +kernel
noncomputable def f_X4_run_b176 (k57 : (Int → Int → Int → Mem → Option (Mem))) (v0 v2 v3 : Int) (σ : Mem) : Option (Mem) :=
  k57 v0 v2 (w32 (v3 + 1)) σ
theorem L_X4_run_b176 {sc : Nat × (Nat → Int32)} {o : Mem} {k57 : (Int → Int → Int → Mem → Option (Mem))} (hk57 : ∀ {v0 v2 v3 : Int} {σ : Mem}, k57 v0 v2 v3 σ = some o → E sc (Fm Sh none Sh o) mt_X4_run 7 Sh Sh 57 [(2, v0), (9, 0), (0, v2), (0, v3), (9, 0)] [] Sh σ) {v0 v2 v3 : Int} {σ : Mem} (h : f_X4_run_b176 k57 v0 v2 v3 σ = some o) : E sc (Fm Sh none Sh o) mt_X4_run 7 Sh Sh 176 [(2, v0), (9, 0), (0, v2), (0, v3), (9, 0)] [] Sh σ := by
  unfold f_X4_run_b176 at h
  refine E_iinc d_X4_run_176 (ls' := [(2, v0), (9, 0), (0, v2), (0, w32 (v3 + 1)), (9, 0)]) rfl ⟨by decide, rfl⟩ ?_
  refine E_goto (tgt := 57) d_X4_run_179 (by decide) ?_
  exact (hk57 h)
noncomputable def f_X4_run_b166 (k57 : (Int → Int → Int → Mem → Option (Mem))) (v0 v2 v3 s0 s1 s2 : Int) (σ : Mem) : Option (Mem) :=
  (pf Sh σ 4 s2 5 (w32 (s1 + s0))).bind fun σ39 =>
  (f_X4_whereNext v0 v2 σ39).bind fun r40 =>
  f_X4_run_b176 k57 v0 r40.1 v3 r40.2
theorem L_X4_run_b166 {sc : Nat × (Nat → Int32)} {o : Mem} {k57 : (Int → Int → Int → Mem → Option (Mem))} (hk57 : ∀ {v0 v2 v3 : Int} {σ : Mem}, k57 v0 v2 v3 σ = some o → E sc (Fm Sh none Sh o) mt_X4_run 7 Sh Sh 57 [(2, v0), (9, 0), (0, v2), (0, v3), (9, 0)] [] Sh σ) {v0 v2 v3 s0 s1 s2 : Int} {σ : Mem} (h : f_X4_run_b166 k57 v0 v2 v3 s0 s1 s2 σ = some o) : E sc (Fm Sh none Sh o) mt_X4_run 7 Sh Sh 166 [(2, v0), (9, 0), (0, v2), (0, v3), (9, 0)] [(0, s0), (0, s1), (2, s2)] Sh σ := by
  unfold f_X4_run_b166 at h
  refine E_iadd d_X4_run_166 ?_
  refine E_put d_X4_run_167 okX4 fl_X4_30 ⟨by decide, rfl⟩ (Or.inl ⟨rfl, rfl⟩) (Or.inl rfl) h (fun σ39 h => ?_)
  refine E_aload_n d_X4_run_170 rfl (by decide) ?_
  refine E_iload_n d_X4_run_171 rfl ?_
  refine bd h (fun r40 q41 h => ?_)
  refine E_cV (as := [(0, v2)]) (st := []) (a := v0) d_X4_run_172 mk_X4_whereNext nl_X4_66 (by omega) ⟨rfl, rfl, Nat.le_of_ble_eq_true rfl⟩ okX4 rfl (L_X4_whereNext q41) ?_
  refine E_istore_n d_X4_run_175 (ls' := [(2, v0), (9, 0), (0, r40.1), (0, v3), (9, 0)]) ⟨by decide, rfl⟩ ?_
  exact (L_X4_run_b176 hk57 h)
noncomputable def f_X4_run_b144 (k57 : (Int → Int → Int → Mem → Option (Mem))) (v0 v2 v3 s0 s1 s2 : Int) (σ : Mem) : Option (Mem) :=
  (pf Sh σ 4 s2 4 (w32 (s1 + s0))).bind fun σ35 =>
  (gf Sh σ35 4 v0 5).bind fun x36 =>
  (f_X4_isDone v0 v2 σ35).bind fun r37 =>
  if r37.1 = 0 then
    f_X4_run_b166 k57 v0 v2 v3 1 x36 v0 r37.2
  else
    f_X4_run_b166 k57 v0 v2 v3 0 x36 v0 r37.2
theorem L_X4_run_b144 {sc : Nat × (Nat → Int32)} {o : Mem} {k57 : (Int → Int → Int → Mem → Option (Mem))} (hk57 : ∀ {v0 v2 v3 : Int} {σ : Mem}, k57 v0 v2 v3 σ = some o → E sc (Fm Sh none Sh o) mt_X4_run 7 Sh Sh 57 [(2, v0), (9, 0), (0, v2), (0, v3), (9, 0)] [] Sh σ) {v0 v2 v3 s0 s1 s2 : Int} {σ : Mem} (h : f_X4_run_b144 k57 v0 v2 v3 s0 s1 s2 σ = some o) : E sc (Fm Sh none Sh o) mt_X4_run 7 Sh Sh 144 [(2, v0), (9, 0), (0, v2), (0, v3), (9, 0)] [(0, s0), (0, s1), (2, s2)] Sh σ := by
  unfold f_X4_run_b144 at h
  refine E_iadd d_X4_run_144 ?_
  refine E_put d_X4_run_145 okX4 fl_X4_27 ⟨by decide, rfl⟩ (Or.inl ⟨rfl, rfl⟩) (Or.inl rfl) h (fun σ35 h => ?_)
  refine E_aload_n d_X4_run_148 rfl (by decide) ?_
  refine E_dupT d_X4_run_149 (by decide) ?_
  refine E_get d_X4_run_150 okX4 fl_X4_30 ⟨by decide, rfl⟩ h (fun x36 h => ?_)
  refine E_aload_n d_X4_run_153 rfl (by decide) ?_
  refine E_iload_n d_X4_run_154 rfl ?_
  refine bd h (fun r37 q38 h => ?_)
  refine E_cV (as := [(0, v2)]) (st := [(0, x36), (2, v0)]) (a := v0) d_X4_run_155 mk_X4_isDone nl_X4_62 (by omega) ⟨rfl, rfl, Nat.le_of_ble_eq_true rfl⟩ okX4 rfl (L_X4_isDone q38) ?_
  refine E_if_eq (tgt := 165) d_X4_run_158 (by decide) h (fun _ h => ?_) (fun _ h => ?_)
  · refine E_iconst d_X4_run_165 (c32 rfl) ?_
    exact (L_X4_run_b166 hk57 h)
  · refine E_iconst d_X4_run_161 (c32 rfl) ?_
    refine E_goto (tgt := 166) d_X4_run_162 (by decide) ?_
    exact (L_X4_run_b166 hk57 h)
noncomputable def f_X4_run_b129 (k57 : (Int → Int → Int → Mem → Option (Mem))) (v0 v2 v3 v4 : Int) (σ : Mem) : Option (Mem) :=
  (gf Sh σ 4 v0 4).bind fun x34 =>
  if v4 = 0 then
    f_X4_run_b144 k57 v0 v2 v3 0 x34 v0 σ
  else
    f_X4_run_b144 k57 v0 v2 v3 1 x34 v0 σ
theorem L_X4_run_b129 {sc : Nat × (Nat → Int32)} {o : Mem} {k57 : (Int → Int → Int → Mem → Option (Mem))} (hk57 : ∀ {v0 v2 v3 : Int} {σ : Mem}, k57 v0 v2 v3 σ = some o → E sc (Fm Sh none Sh o) mt_X4_run 7 Sh Sh 57 [(2, v0), (9, 0), (0, v2), (0, v3), (9, 0)] [] Sh σ) {v0 v2 v3 v4 : Int} {σ : Mem} (h : f_X4_run_b129 k57 v0 v2 v3 v4 σ = some o) : E sc (Fm Sh none Sh o) mt_X4_run 7 Sh Sh 129 [(2, v0), (9, 0), (0, v2), (0, v3), (0, v4)] [] Sh σ := by
  unfold f_X4_run_b129 at h
  refine E_aload_n d_X4_run_129 rfl (by decide) ?_
  refine E_dupT d_X4_run_130 (by decide) ?_
  refine E_get d_X4_run_131 okX4 fl_X4_27 ⟨by decide, rfl⟩ h (fun x34 h => ?_)
  refine E_iload d_X4_run_134 rfl ?_
  refine E_if_eq (tgt := 143) d_X4_run_136 (by decide) h (fun _ h => ?_) (fun _ h => ?_)
  · refine E_iconst d_X4_run_143 (c32 rfl) ?_
    exact E_weak (ls' := [(2, v0), (9, 0), (0, v2), (0, v3), (9, 0)]) ⟨Or.inr rfl, Or.inl rfl, Or.inr rfl, Or.inr rfl, Or.inl rfl, trivial⟩ (L_X4_run_b144 hk57 h)
  · refine E_iconst d_X4_run_139 (c32 rfl) ?_
    refine E_goto (tgt := 144) d_X4_run_140 (by decide) ?_
    exact E_weak (ls' := [(2, v0), (9, 0), (0, v2), (0, v3), (9, 0)]) ⟨Or.inr rfl, Or.inl rfl, Or.inr rfl, Or.inr rfl, Or.inl rfl, trivial⟩ (L_X4_run_b144 hk57 h)
noncomputable def f_X4_run_b104 (k57 : (Int → Int → Int → Mem → Option (Mem))) (v0 v2 v3 s0 : Int) (σ : Mem) : Option (Mem) :=
  if s0 = 0 then
    f_X4_run_b129 k57 v0 v2 v3 s0 σ
  else
    (gf Sh σ 4 v0 4).bind fun x32 =>
    if x32 < 300 then
      f_X4_run_b129 k57 v0 v2 v3 s0 σ
    else
      (pf Sh σ 4 v0 9 1).bind fun σ33 =>
      f_X4_run_b176 k57 v0 v2 v3 σ33
theorem L_X4_run_b104 {sc : Nat × (Nat → Int32)} {o : Mem} {k57 : (Int → Int → Int → Mem → Option (Mem))} (hk57 : ∀ {v0 v2 v3 : Int} {σ : Mem}, k57 v0 v2 v3 σ = some o → E sc (Fm Sh none Sh o) mt_X4_run 7 Sh Sh 57 [(2, v0), (9, 0), (0, v2), (0, v3), (9, 0)] [] Sh σ) {v0 v2 v3 s0 : Int} {σ : Mem} (h : f_X4_run_b104 k57 v0 v2 v3 s0 σ = some o) : E sc (Fm Sh none Sh o) mt_X4_run 7 Sh Sh 104 [(2, v0), (9, 0), (0, v2), (0, v3), (9, 0)] [(0, s0)] Sh σ := by
  unfold f_X4_run_b104 at h
  refine E_istore d_X4_run_104 (ls' := [(2, v0), (9, 0), (0, v2), (0, v3), (0, s0)]) ⟨by decide, rfl⟩ ?_
  refine E_iload d_X4_run_106 rfl ?_
  refine E_if_eq (tgt := 129) d_X4_run_108 (by decide) h (fun _ h => ?_) (fun _ h => ?_)
  · exact (L_X4_run_b129 hk57 h)
  · refine E_aload_n d_X4_run_111 rfl (by decide) ?_
    refine E_get d_X4_run_112 okX4 fl_X4_27 ⟨by decide, rfl⟩ h (fun x32 h => ?_)
    refine E_sipush d_X4_run_115 (c16 rfl) ?_
    refine E_icmp_lt (tgt := 129) d_X4_run_118 (by decide) h (fun _ h => ?_) (fun _ h => ?_)
    · exact (L_X4_run_b129 hk57 h)
    · refine E_aload_n d_X4_run_121 rfl (by decide) ?_
      refine E_iconst d_X4_run_122 (c32 rfl) ?_
      refine E_put d_X4_run_123 okX4 fl_X4_49 ⟨by decide, rfl⟩ (Or.inr (Or.inr (Or.inl ⟨rfl, rfl, (Or.inr rfl)⟩))) (Or.inl rfl) h (fun σ33 h => ?_)
      refine E_goto (tgt := 176) d_X4_run_126 (by decide) ?_
      exact E_weak (ls' := [(2, v0), (9, 0), (0, v2), (0, v3), (9, 0)]) ⟨Or.inr rfl, Or.inl rfl, Or.inr rfl, Or.inr rfl, Or.inl rfl, trivial⟩ (L_X4_run_b176 hk57 h)
noncomputable def f_X4_run_b182 (v0 : Int) (σ : Mem) : Option (Mem) :=
  (gf Sh σ 4 v0 1).bind fun x20 =>
  (gf Sh σ 9 x20 12).bind fun x21 =>
  (gf Sh σ 4 v0 6).bind fun x22 =>
  (pf Sh σ 4 v0 6 (w32 (x21 - x22))).bind fun σ23 =>
  (gf Sh σ23 4 v0 1).bind fun x24 =>
  (gf Sh σ23 9 x24 14).bind fun x25 =>
  (gf Sh σ23 4 v0 7).bind fun x26 =>
  (pf Sh σ23 4 v0 7 (w32 (x25 - x26))).bind fun σ27 =>
  (gf Sh σ27 4 v0 1).bind fun x28 =>
  (gf Sh σ27 9 x28 15).bind fun x29 =>
  (gf Sh σ27 4 v0 8).bind fun x30 =>
  (pf Sh σ27 4 v0 8 (w32 (x29 - x30))).bind fun σ31 =>
  some σ31
theorem L_X4_run_b182 {sc : Nat × (Nat → Int32)} {o : Mem} {v0 : Int} {σ : Mem} (h : f_X4_run_b182 v0 σ = some o) : E sc (Fm Sh none Sh o) mt_X4_run 7 Sh Sh 182 [(2, v0), (9, 0), (9, 0), (9, 0), (9, 0)] [] Sh σ := by
  unfold f_X4_run_b182 at h
  refine E_aload_n d_X4_run_182 rfl (by decide) ?_
  refine E_aload_n d_X4_run_183 rfl (by decide) ?_
  refine E_get d_X4_run_184 okX4 fl_X4_19 ⟨by decide, rfl⟩ h (fun x20 h => ?_)
  refine E_get d_X4_run_187 okX9 fl_X4_33 ⟨by decide, rfl⟩ h (fun x21 h => ?_)
  refine E_aload_n d_X4_run_190 rfl (by decide) ?_
  refine E_get d_X4_run_191 okX4 fl_X4_38 ⟨by decide, rfl⟩ h (fun x22 h => ?_)
  refine E_isub d_X4_run_194 ?_
  refine E_put d_X4_run_195 okX4 fl_X4_38 ⟨by decide, rfl⟩ (Or.inl ⟨rfl, rfl⟩) (Or.inl rfl) h (fun σ23 h => ?_)
  refine E_aload_n d_X4_run_198 rfl (by decide) ?_
  refine E_aload_n d_X4_run_199 rfl (by decide) ?_
  refine E_get d_X4_run_200 okX4 fl_X4_19 ⟨by decide, rfl⟩ h (fun x24 h => ?_)
  refine E_get d_X4_run_203 okX9 fl_X4_41 ⟨by decide, rfl⟩ h (fun x25 h => ?_)
  refine E_aload_n d_X4_run_206 rfl (by decide) ?_
  refine E_get d_X4_run_207 okX4 fl_X4_44 ⟨by decide, rfl⟩ h (fun x26 h => ?_)
  refine E_isub d_X4_run_210 ?_
  refine E_put d_X4_run_211 okX4 fl_X4_44 ⟨by decide, rfl⟩ (Or.inl ⟨rfl, rfl⟩) (Or.inl rfl) h (fun σ27 h => ?_)
  refine E_aload_n d_X4_run_214 rfl (by decide) ?_
  refine E_aload_n d_X4_run_215 rfl (by decide) ?_
  refine E_get d_X4_run_216 okX4 fl_X4_19 ⟨by decide, rfl⟩ h (fun x28 h => ?_)
  refine E_get d_X4_run_219 okX9 fl_X4_45 ⟨by decide, rfl⟩ h (fun x29 h => ?_)
  refine E_aload_n d_X4_run_222 rfl (by decide) ?_
  refine E_get d_X4_run_223 okX4 fl_X4_48 ⟨by decide, rfl⟩ h (fun x30 h => ?_)
  refine E_isub d_X4_run_226 ?_
  refine E_put d_X4_run_227 okX4 fl_X4_48 ⟨by decide, rfl⟩ (Or.inl ⟨rfl, rfl⟩) (Or.inl rfl) h (fun σ31 h => ?_)
  cases h
  exact E_vret d_X4_run_230 rfl
noncomputable def f_X4_run_b57 (k57 : (Int → Int → Int → Mem → Option (Mem))) (v0 v2 v3 : Int) (σ : Mem) : Option (Mem) :=
  if 100000 ≤ v3 then
    f_X4_run_b182 v0 σ
  else
    if v2 < 0 then
      f_X4_run_b182 v0 σ
    else
      (gf Sh σ 4 v0 0).bind fun x14 =>
      (gf Sh σ 5 x14 2).bind fun x15 =>
      if x15 ≤ v2 then
        f_X4_run_b182 v0 σ
      else
        (gf Sh σ 4 v0 9).bind fun x16 =>
        if x16 = 0 then
          (gf Sh σ 4 v0 0).bind fun x17 =>
          (gf Sh σ 5 x17 3).bind fun x18 =>
          (al Sh σ 20 x18 v2).bind fun x19 =>
          if x19 = 21 then
            f_X4_run_b104 k57 v0 v2 v3 0 σ
          else
            f_X4_run_b104 k57 v0 v2 v3 1 σ
        else
          f_X4_run_b182 v0 σ
theorem L_X4_run_b57 {sc : Nat × (Nat → Int32)} {o : Mem} {k57 : (Int → Int → Int → Mem → Option (Mem))} (hk57 : ∀ {v0 v2 v3 : Int} {σ : Mem}, k57 v0 v2 v3 σ = some o → E sc (Fm Sh none Sh o) mt_X4_run 7 Sh Sh 57 [(2, v0), (9, 0), (0, v2), (0, v3), (9, 0)] [] Sh σ) {v0 v2 v3 : Int} {σ : Mem} (h : f_X4_run_b57 k57 v0 v2 v3 σ = some o) : E sc (Fm Sh none Sh o) mt_X4_run 7 Sh Sh 57 [(2, v0), (9, 0), (0, v2), (0, v3), (9, 0)] [] Sh σ := by
  unfold f_X4_run_b57 at h
  refine E_iload_n d_X4_run_57 rfl ?_
  refine E_ldc d_X4_run_58 kw_X4_53 ?_
  refine E_icmp_ge (tgt := 182) d_X4_run_60 (by decide) h (fun _ h => ?_) (fun _ h => ?_)
  · exact E_weak (ls' := [(2, v0), (9, 0), (9, 0), (9, 0), (9, 0)]) ⟨Or.inr rfl, Or.inl rfl, Or.inl rfl, Or.inl rfl, Or.inl rfl, trivial⟩ (L_X4_run_b182 h)
  · refine E_iload_n d_X4_run_63 rfl ?_
    refine E_if_lt (tgt := 182) d_X4_run_64 (by decide) h (fun _ h => ?_) (fun _ h => ?_)
    · exact E_weak (ls' := [(2, v0), (9, 0), (9, 0), (9, 0), (9, 0)]) ⟨Or.inr rfl, Or.inl rfl, Or.inl rfl, Or.inl rfl, Or.inl rfl, trivial⟩ (L_X4_run_b182 h)
    · refine E_iload_n d_X4_run_67 rfl ?_
      refine E_aload_n d_X4_run_68 rfl (by decide) ?_
      refine E_get d_X4_run_69 okX4 fl_X4_15 ⟨by decide, rfl⟩ h (fun x14 h => ?_)
      refine E_get d_X4_run_72 okX5 fl_X4_54 ⟨by decide, rfl⟩ h (fun x15 h => ?_)
      refine E_icmp_ge (tgt := 182) d_X4_run_75 (by decide) h (fun _ h => ?_) (fun _ h => ?_)
      · exact E_weak (ls' := [(2, v0), (9, 0), (9, 0), (9, 0), (9, 0)]) ⟨Or.inr rfl, Or.inl rfl, Or.inl rfl, Or.inl rfl, Or.inl rfl, trivial⟩ (L_X4_run_b182 h)
      · refine E_aload_n d_X4_run_78 rfl (by decide) ?_
        refine E_get d_X4_run_79 okX4 fl_X4_49 ⟨by decide, rfl⟩ h (fun x16 h => ?_)
        refine E_if_ne (tgt := 182) d_X4_run_82 (by decide) h (fun _ h => ?_) (fun _ h => ?_)
        · refine E_aload_n d_X4_run_85 rfl (by decide) ?_
          refine E_get d_X4_run_86 okX4 fl_X4_15 ⟨by decide, rfl⟩ h (fun x17 h => ?_)
          refine E_get d_X4_run_89 okX5 fl_X4_59 ⟨by decide, rfl⟩ h (fun x18 h => ?_)
          refine E_iload_n d_X4_run_92 rfl ?_
          refine E_iaload d_X4_run_93 h (fun x19 h => ?_)
          refine E_bipush d_X4_run_94 (c8 rfl) ?_
          refine E_icmp_eq (tgt := 103) d_X4_run_96 (by decide) h (fun _ h => ?_) (fun _ h => ?_)
          · refine E_iconst d_X4_run_103 (c32 rfl) ?_
            exact (L_X4_run_b104 hk57 h)
          · refine E_iconst d_X4_run_99 (c32 rfl) ?_
            refine E_goto (tgt := 104) d_X4_run_100 (by decide) ?_
            exact (L_X4_run_b104 hk57 h)
        · exact E_weak (ls' := [(2, v0), (9, 0), (9, 0), (9, 0), (9, 0)]) ⟨Or.inr rfl, Or.inl rfl, Or.inl rfl, Or.inl rfl, Or.inl rfl, trivial⟩ (L_X4_run_b182 h)
noncomputable def f_X4_run_h57 (n : Nat) : Int → Int → Int → Mem → Option (Mem) := Nat.rec (motive := fun _ => Int → Int → Int → Mem → Option (Mem)) (fun _ _ _ _ => none) (fun _ ih => f_X4_run_b57 (ih)) n
theorem L_X4_run_h57 {sc : Nat × (Nat → Int32)} {o : Mem} : ∀ (n : Nat) {v0 v2 v3 : Int} {σ : Mem}, f_X4_run_h57 n v0 v2 v3 σ = some o → E sc (Fm Sh none Sh o) mt_X4_run 7 Sh Sh 57 [(2, v0), (9, 0), (0, v2), (0, v3), (9, 0)] [] Sh σ := by
  intro n
  induction n with
  | zero => intro v0 v2 v3 σ h; cases h
  | succ n ih => intro v0 v2 v3 σ h; exact L_X4_run_b57 (@ih) h
noncomputable def f_X4_run_b0 (v0 v1 : Int) (σ : Mem) : Option (Mem) :=
  (pf Sh σ 4 v0 3 v1).bind fun σ1 =>
  (pf Sh σ1 4 v0 4 0).bind fun σ2 =>
  (pf Sh σ2 4 v0 5 0).bind fun σ3 =>
  (gf Sh σ3 4 v0 1).bind fun x4 =>
  (gf Sh σ3 9 x4 12).bind fun x5 =>
  (pf Sh σ3 4 v0 6 x5).bind fun σ6 =>
  (gf Sh σ6 4 v0 1).bind fun x7 =>
  (gf Sh σ6 9 x7 14).bind fun x8 =>
  (pf Sh σ6 4 v0 7 x8).bind fun σ9 =>
  (gf Sh σ9 4 v0 1).bind fun x10 =>
  (gf Sh σ9 9 x10 15).bind fun x11 =>
  (pf Sh σ9 4 v0 8 x11).bind fun σ12 =>
  (pf Sh σ12 4 v0 9 0).bind fun σ13 =>
  f_X4_run_h57 FU v0 0 0 σ13
theorem L_X4_run_b0 {sc : Nat × (Nat → Int32)} {o : Mem} {v0 v1 : Int} {σ : Mem} (h : f_X4_run_b0 v0 v1 σ = some o) : E sc (Fm Sh none Sh o) mt_X4_run 7 Sh Sh 0 [(2, v0), (0, v1), (9, 0), (9, 0), (9, 0)] [] Sh σ := by
  unfold f_X4_run_b0 at h
  refine E_aload_n d_X4_run_0 rfl (by decide) ?_
  refine E_iload_n d_X4_run_1 rfl ?_
  refine E_put d_X4_run_2 okX4 fl_X4_23 ⟨by decide, rfl⟩ (Or.inl ⟨rfl, rfl⟩) (Or.inl rfl) h (fun σ1 h => ?_)
  refine E_aload_n d_X4_run_5 rfl (by decide) ?_
  refine E_iconst d_X4_run_6 (c32 rfl) ?_
  refine E_put d_X4_run_7 okX4 fl_X4_27 ⟨by decide, rfl⟩ (Or.inl ⟨rfl, rfl⟩) (Or.inl rfl) h (fun σ2 h => ?_)
  refine E_aload_n d_X4_run_10 rfl (by decide) ?_
  refine E_iconst d_X4_run_11 (c32 rfl) ?_
  refine E_put d_X4_run_12 okX4 fl_X4_30 ⟨by decide, rfl⟩ (Or.inl ⟨rfl, rfl⟩) (Or.inl rfl) h (fun σ3 h => ?_)
  refine E_aload_n d_X4_run_15 rfl (by decide) ?_
  refine E_aload_n d_X4_run_16 rfl (by decide) ?_
  refine E_get d_X4_run_17 okX4 fl_X4_19 ⟨by decide, rfl⟩ h (fun x4 h => ?_)
  refine E_get d_X4_run_20 okX9 fl_X4_33 ⟨by decide, rfl⟩ h (fun x5 h => ?_)
  refine E_put d_X4_run_23 okX4 fl_X4_38 ⟨by decide, rfl⟩ (Or.inl ⟨rfl, rfl⟩) (Or.inl rfl) h (fun σ6 h => ?_)
  refine E_aload_n d_X4_run_26 rfl (by decide) ?_
  refine E_aload_n d_X4_run_27 rfl (by decide) ?_
  refine E_get d_X4_run_28 okX4 fl_X4_19 ⟨by decide, rfl⟩ h (fun x7 h => ?_)
  refine E_get d_X4_run_31 okX9 fl_X4_41 ⟨by decide, rfl⟩ h (fun x8 h => ?_)
  refine E_put d_X4_run_34 okX4 fl_X4_44 ⟨by decide, rfl⟩ (Or.inl ⟨rfl, rfl⟩) (Or.inl rfl) h (fun σ9 h => ?_)
  refine E_aload_n d_X4_run_37 rfl (by decide) ?_
  refine E_aload_n d_X4_run_38 rfl (by decide) ?_
  refine E_get d_X4_run_39 okX4 fl_X4_19 ⟨by decide, rfl⟩ h (fun x10 h => ?_)
  refine E_get d_X4_run_42 okX9 fl_X4_45 ⟨by decide, rfl⟩ h (fun x11 h => ?_)
  refine E_put d_X4_run_45 okX4 fl_X4_48 ⟨by decide, rfl⟩ (Or.inl ⟨rfl, rfl⟩) (Or.inl rfl) h (fun σ12 h => ?_)
  refine E_aload_n d_X4_run_48 rfl (by decide) ?_
  refine E_iconst d_X4_run_49 (c32 rfl) ?_
  refine E_put d_X4_run_50 okX4 fl_X4_49 ⟨by decide, rfl⟩ (Or.inr (Or.inr (Or.inl ⟨rfl, rfl, (Or.inl rfl)⟩))) (Or.inl rfl) h (fun σ13 h => ?_)
  refine E_iconst d_X4_run_53 (c32 rfl) ?_
  refine E_istore_n d_X4_run_54 (ls' := [(2, v0), (0, v1), (0, 0), (9, 0), (9, 0)]) ⟨by decide, rfl⟩ ?_
  refine E_iconst d_X4_run_55 (c32 rfl) ?_
  refine E_istore_n d_X4_run_56 (ls' := [(2, v0), (0, v1), (0, 0), (0, 0), (9, 0)]) ⟨by decide, rfl⟩ ?_
  exact E_weak (ls' := [(2, v0), (9, 0), (0, 0), (0, 0), (9, 0)]) ⟨Or.inr rfl, Or.inl rfl, Or.inr rfl, Or.inr rfl, Or.inl rfl, trivial⟩ (L_X4_run_h57 FU h)
noncomputable def f_X4_run (v0 v1 : Int) (σ : Mem) : Option (Mem) := if isO Sh 4 v0 = true then f_X4_run_b0 v0 v1 σ else none
theorem L_X4_run {o : Mem} {v0 v1 : Int} {σ : Mem} (h : f_X4_run v0 v1 σ = some o) : (isO Sh 4 v0 = true ∧ Cn mt_X4_run 7 [(2, v0), (0, v1)] Sh σ none Sh o) := ⟨(ite_ok h).1, Cn_of mk_X4_run.1.2.2.1 (Nat.le_of_ble_eq_true rfl) (fun sc => L_X4_run_b0 (ite_ok h).2)⟩
