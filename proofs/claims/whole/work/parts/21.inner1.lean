theorem d_X8_isSort_0 : decode mt_X8_isSort.2.1 0 = .ok (.iload_n 0, 1) := by decide +kernel
theorem d_X8_isSort_1 : decode mt_X8_isSort.2.1 1 = .ok (.ifCond .lt 12, 3) := by decide +kernel
theorem d_X8_isSort_4 : decode mt_X8_isSort.2.1 4 = .ok (.iload_n 0, 1) := by decide +kernel
theorem d_X8_isSort_5 : decode mt_X8_isSort.2.1 5 = .ok (.iconst 3, 1) := by decide +kernel
theorem d_X8_isSort_6 : decode mt_X8_isSort.2.1 6 = .ok (.if_icmp .gt 7, 3) := by decide +kernel
theorem d_X8_isSort_9 : decode mt_X8_isSort.2.1 9 = .ok (.iconst 1, 1) := by decide +kernel
theorem d_X8_isSort_10 : decode mt_X8_isSort.2.1 10 = .ok (.goto 4, 3) := by decide +kernel
theorem d_X8_isSort_13 : decode mt_X8_isSort.2.1 13 = .ok (.iconst 0, 1) := by decide +kernel
theorem d_X8_isSort_14 : decode mt_X8_isSort.2.1 14 = .ok (.ireturn, 1) := by decide +kernel
noncomputable def f_X8_isSort_b0 (v0 : Int) (σ : Mem) : Option (Int) :=
  if v0 < 0 then
    some (0)
  else
    if 3 < v0 then
      some (0)
    else
      some (1)
theorem L_X8_isSort_b0 {sc : Nat × (Nat → Int32)} {o : Int} {σ : Mem} {v0 : Int} (h : f_X8_isSort_b0 v0 σ = some o) : E sc (Fm Sh (some (0, o)) Sh σ) mt_X8_isSort 1 Sh Sh 0 [(0, v0)] [] Sh σ := by
  unfold f_X8_isSort_b0 at h
  refine E_iload_n d_X8_isSort_0 rfl ?_
  refine E_if_lt (tgt := 13) d_X8_isSort_1 (by decide) h (fun _ h => ?_) (fun _ h => ?_)
  · refine E_iconst d_X8_isSort_13 (c32 rfl) ?_
    cases h
    exact E_zret d_X8_isSort_14 rfl (Or.inl rfl)
  · refine E_iload_n d_X8_isSort_4 rfl ?_
    refine E_iconst d_X8_isSort_5 (c32 rfl) ?_
    refine E_icmp_gt (tgt := 13) d_X8_isSort_6 (by decide) h (fun _ h => ?_) (fun _ h => ?_)
    · refine E_iconst d_X8_isSort_13 (c32 rfl) ?_
      cases h
      exact E_zret d_X8_isSort_14 rfl (Or.inl rfl)
    · refine E_iconst d_X8_isSort_9 (c32 rfl) ?_
      refine E_goto (tgt := 14) d_X8_isSort_10 (by decide) ?_
      cases h
      exact E_zret d_X8_isSort_14 rfl (Or.inr rfl)
noncomputable def f_X8_isSort (v0 : Int) (σ : Mem) : Option (Int) := f_X8_isSort_b0 v0 σ
theorem L_X8_isSort {o : Int} {v0 : Int} {σ : Mem} (h : f_X8_isSort v0 σ = some o) : Cn mt_X8_isSort 1 [(0, v0)] Sh σ (some (0, o)) Sh σ := Cn_of mk_X8_isSort.1.2.2.1 (Nat.le_of_ble_eq_true rfl) (fun sc => L_X8_isSort_b0 h)
theorem d_X8_make_0 : decode mt_X8_make.2.1 0 = .ok (.aload_n 0, 1) := by decide +kernel
theorem d_X8_make_1 : decode mt_X8_make.2.1 1 = .ok (.iload_n 1, 1) := by decide +kernel
theorem d_X8_make_2 : decode mt_X8_make.2.1 2 = .ok (.putfield 15, 3) := by decide +kernel
theorem d_X8_make_5 : decode mt_X8_make.2.1 5 = .ok (.aload_n 0, 1) := by decide +kernel
theorem d_X8_make_6 : decode mt_X8_make.2.1 6 = .ok (.iload_n 2, 1) := by decide +kernel
theorem d_X8_make_7 : decode mt_X8_make.2.1 7 = .ok (.putfield 19, 3) := by decide +kernel
theorem d_X8_make_10 : decode mt_X8_make.2.1 10 = .ok (.iconst 0, 1) := by decide +kernel
theorem d_X8_make_11 : decode mt_X8_make.2.1 11 = .ok (.istore_n 3, 1) := by decide +kernel
theorem d_X8_make_12 : decode mt_X8_make.2.1 12 = .ok (.iload_n 3, 1) := by decide +kernel
theorem d_X8_make_13 : decode mt_X8_make.2.1 13 = .ok (.bipush 60, 2) := by decide +kernel
theorem d_X8_make_15 : decode mt_X8_make.2.1 15 = .ok (.if_icmp .ge 16, 3) := by decide +kernel
theorem d_X8_make_18 : decode mt_X8_make.2.1 18 = .ok (.aload_n 0, 1) := by decide +kernel
theorem d_X8_make_19 : decode mt_X8_make.2.1 19 = .ok (.getfield 9, 3) := by decide +kernel
theorem d_X8_make_22 : decode mt_X8_make.2.1 22 = .ok (.iload_n 3, 1) := by decide +kernel
theorem d_X8_make_23 : decode mt_X8_make.2.1 23 = .ok (.lconst 0, 1) := by decide +kernel
theorem d_X8_make_24 : decode mt_X8_make.2.1 24 = .ok (.lastore, 1) := by decide +kernel
theorem d_X8_make_25 : decode mt_X8_make.2.1 25 = .ok (.iinc 3 1, 3) := by decide +kernel
theorem d_X8_make_28 : decode mt_X8_make.2.1 28 = .ok (.goto (-16), 3) := by decide +kernel
theorem d_X8_make_31 : decode mt_X8_make.2.1 31 = .ok (.return_, 1) := by decide +kernel
noncomputable def f_X8_make_b12 (k12 : (Int → Int → Mem → Option (Mem))) (v0 v3 : Int) (σ : Mem) : Option (Mem) :=
  if 60 ≤ v3 then
    some σ
  else
    (gf Sh σ 8 v0 0).bind fun x3 =>
    (st_ Sh σ 21 x3 v3 0).bind fun σ4 =>
    k12 v0 (w32 (v3 + 1)) σ4
theorem L_X8_make_b12 {sc : Nat × (Nat → Int32)} {o : Mem} {k12 : (Int → Int → Mem → Option (Mem))} (hk12 : ∀ {v0 v3 : Int} {σ : Mem}, k12 v0 v3 σ = some o → E sc (Fm Sh none Sh o) mt_X8_make 1 Sh Sh 12 [(2, v0), (9, 0), (9, 0), (0, v3)] [] Sh σ) {v0 v3 : Int} {σ : Mem} (h : f_X8_make_b12 k12 v0 v3 σ = some o) : E sc (Fm Sh none Sh o) mt_X8_make 1 Sh Sh 12 [(2, v0), (9, 0), (9, 0), (0, v3)] [] Sh σ := by
  unfold f_X8_make_b12 at h
  refine E_iload_n d_X8_make_12 rfl ?_
  refine E_bipush d_X8_make_13 (c8 rfl) ?_
  refine E_icmp_ge (tgt := 31) d_X8_make_15 (by decide) h (fun _ h => ?_) (fun _ h => ?_)
  · cases h
    exact E_vret d_X8_make_31 rfl
  · refine E_aload_n d_X8_make_18 rfl (by decide) ?_
    refine E_get d_X8_make_19 okX8 fl_X8_9 ⟨by decide, rfl⟩ h (fun x3 h => ?_)
    refine E_iload_n d_X8_make_22 rfl ?_
    refine E_lconst d_X8_make_23 cl0 ?_
    refine E_lastore d_X8_make_24 h (fun σ4 h => ?_)
    refine E_iinc d_X8_make_25 (ls' := [(2, v0), (9, 0), (9, 0), (0, w32 (v3 + 1))]) rfl ⟨by decide, rfl⟩ ?_
    refine E_goto (tgt := 12) d_X8_make_28 (by decide) ?_
    exact (hk12 h)
noncomputable def f_X8_make_h12 (n : Nat) : Int → Int → Mem → Option (Mem) := Nat.rec (motive := fun _ => Int → Int → Mem → Option (Mem)) (fun _ _ _ => none) (fun _ ih => f_X8_make_b12 (ih)) n
theorem L_X8_make_h12 {sc : Nat × (Nat → Int32)} {o : Mem} : ∀ (n : Nat) {v0 v3 : Int} {σ : Mem}, f_X8_make_h12 n v0 v3 σ = some o → E sc (Fm Sh none Sh o) mt_X8_make 1 Sh Sh 12 [(2, v0), (9, 0), (9, 0), (0, v3)] [] Sh σ := by
  intro n
  induction n with
  | zero => intro v0 v3 σ h; cases h
  | succ n ih => intro v0 v3 σ h; exact L_X8_make_b12 (@ih) h
noncomputable def f_X8_make_b0 (v0 v1 v2 : Int) (σ : Mem) : Option (Mem) :=
  (pf Sh σ 8 v0 1 v1).bind fun σ1 =>
  (pf Sh σ1 8 v0 2 v2).bind fun σ2 =>
  f_X8_make_h12 FU v0 0 σ2
theorem L_X8_make_b0 {sc : Nat × (Nat → Int32)} {o : Mem} {v0 v1 v2 : Int} {σ : Mem} (h : f_X8_make_b0 v0 v1 v2 σ = some o) : E sc (Fm Sh none Sh o) mt_X8_make 1 Sh Sh 0 [(2, v0), (0, v1), (0, v2), (9, 0)] [] Sh σ := by
  unfold f_X8_make_b0 at h
  refine E_aload_n d_X8_make_0 rfl (by decide) ?_
  refine E_iload_n d_X8_make_1 rfl ?_
  refine E_put d_X8_make_2 okX8 fl_X8_15 ⟨by decide, rfl⟩ (Or.inl ⟨rfl, rfl⟩) (Or.inl rfl) h (fun σ1 h => ?_)
  refine E_aload_n d_X8_make_5 rfl (by decide) ?_
  refine E_iload_n d_X8_make_6 rfl ?_
  refine E_put d_X8_make_7 okX8 fl_X8_19 ⟨by decide, rfl⟩ (Or.inl ⟨rfl, rfl⟩) (Or.inl rfl) h (fun σ2 h => ?_)
  refine E_iconst d_X8_make_10 (c32 rfl) ?_
  refine E_istore_n d_X8_make_11 (ls' := [(2, v0), (0, v1), (0, v2), (0, 0)]) ⟨by decide, rfl⟩ ?_
  exact E_weak (ls' := [(2, v0), (9, 0), (9, 0), (0, 0)]) ⟨Or.inr rfl, Or.inl rfl, Or.inl rfl, Or.inr rfl, trivial⟩ (L_X8_make_h12 FU h)
noncomputable def f_X8_make (v0 v1 v2 : Int) (σ : Mem) : Option (Mem) := if isO Sh 8 v0 = true then f_X8_make_b0 v0 v1 v2 σ else none
theorem L_X8_make {o : Mem} {v0 v1 v2 : Int} {σ : Mem} (h : f_X8_make v0 v1 v2 σ = some o) : (isO Sh 8 v0 = true ∧ Cn mt_X8_make 1 [(2, v0), (0, v1), (0, v2)] Sh σ none Sh o) := ⟨(ite_ok h).1, Cn_of mk_X8_make.1.2.2.1 (Nat.le_of_ble_eq_true rfl) (fun sc => L_X8_make_b0 (ite_ok h).2)⟩
theorem d_X8_isMissing_0 : decode mt_X8_isMissing.2.1 0 = .ok (.aload_n 0, 1) := by decide +kernel
theorem d_X8_isMissing_1 : decode mt_X8_isMissing.2.1 1 = .ok (.getfield 15, 3) := by decide +kernel
theorem d_X8_isMissing_4 : decode mt_X8_isMissing.2.1 4 = .ok (.iconst (-1), 1) := by decide +kernel
theorem d_X8_isMissing_5 : decode mt_X8_isMissing.2.1 5 = .ok (.if_icmp .ne 7, 3) := by decide +kernel
theorem d_X8_isMissing_8 : decode mt_X8_isMissing.2.1 8 = .ok (.iconst 1, 1) := by decide +kernel
theorem d_X8_isMissing_9 : decode mt_X8_isMissing.2.1 9 = .ok (.goto 4, 3) := by decide +kernel
theorem d_X8_isMissing_12 : decode mt_X8_isMissing.2.1 12 = .ok (.iconst 0, 1) := by decide +kernel
theorem d_X8_isMissing_13 : decode mt_X8_isMissing.2.1 13 = .ok (.ireturn, 1) := by decide +kernel
noncomputable def f_X8_isMissing_b0 (v0 : Int) (σ : Mem) : Option (Int) :=
  (gf Sh σ 8 v0 1).bind fun x1 =>
  if x1 = (-1) then
    some (1)
  else
    some (0)
theorem L_X8_isMissing_b0 {sc : Nat × (Nat → Int32)} {o : Int} {σ : Mem} {v0 : Int} (h : f_X8_isMissing_b0 v0 σ = some o) : E sc (Fm Sh (some (0, o)) Sh σ) mt_X8_isMissing 1 Sh Sh 0 [(2, v0)] [] Sh σ := by
  unfold f_X8_isMissing_b0 at h
  refine E_aload_n d_X8_isMissing_0 rfl (by decide) ?_
  refine E_get d_X8_isMissing_1 okX8 fl_X8_15 ⟨by decide, rfl⟩ h (fun x1 h => ?_)
  refine E_iconst d_X8_isMissing_4 (c32 rfl) ?_
  refine E_icmp_ne (tgt := 12) d_X8_isMissing_5 (by decide) h (fun _ h => ?_) (fun _ h => ?_)
  · refine E_iconst d_X8_isMissing_8 (c32 rfl) ?_
    refine E_goto (tgt := 13) d_X8_isMissing_9 (by decide) ?_
    cases h
    exact E_zret d_X8_isMissing_13 rfl (Or.inr rfl)
  · refine E_iconst d_X8_isMissing_12 (c32 rfl) ?_
    cases h
    exact E_zret d_X8_isMissing_13 rfl (Or.inl rfl)
noncomputable def f_X8_isMissing (v0 : Int) (σ : Mem) : Option (Int) := if isO Sh 8 v0 = true then f_X8_isMissing_b0 v0 σ else none
theorem L_X8_isMissing {o : Int} {v0 : Int} {σ : Mem} (h : f_X8_isMissing v0 σ = some o) : (isO Sh 8 v0 = true ∧ Cn mt_X8_isMissing 1 [(2, v0)] Sh σ (some (0, o)) Sh σ) := ⟨(ite_ok h).1, Cn_of mk_X8_isMissing.1.2.2.1 (Nat.le_of_ble_eq_true rfl) (fun sc => L_X8_isMissing_b0 (ite_ok h).2)⟩
theorem d_X8_hasRow_0 : decode mt_X8_hasRow.2.1 0 = .ok (.iload_n 1, 1) := by decide +kernel
theorem d_X8_hasRow_1 : decode mt_X8_hasRow.2.1 1 = .ok (.ifCond .lt 25, 3) := by decide +kernel
theorem d_X8_hasRow_4 : decode mt_X8_hasRow.2.1 4 = .ok (.iload_n 2, 1) := by decide +kernel
theorem d_X8_hasRow_5 : decode mt_X8_hasRow.2.1 5 = .ok (.ifCond .lt 21, 3) := by decide +kernel
theorem d_X8_hasRow_8 : decode mt_X8_hasRow.2.1 8 = .ok (.iload_n 1, 1) := by decide +kernel
theorem d_X8_hasRow_9 : decode mt_X8_hasRow.2.1 9 = .ok (.i2l, 1) := by decide +kernel
theorem d_X8_hasRow_10 : decode mt_X8_hasRow.2.1 10 = .ok (.iload_n 2, 1) := by decide +kernel
theorem d_X8_hasRow_11 : decode mt_X8_hasRow.2.1 11 = .ok (.i2l, 1) := by decide +kernel
theorem d_X8_hasRow_12 : decode mt_X8_hasRow.2.1 12 = .ok (.ladd, 1) := by decide +kernel
theorem d_X8_hasRow_13 : decode mt_X8_hasRow.2.1 13 = .ok (.aload_n 0, 1) := by decide +kernel
theorem d_X8_hasRow_14 : decode mt_X8_hasRow.2.1 14 = .ok (.getfield 19, 3) := by decide +kernel
theorem d_X8_hasRow_17 : decode mt_X8_hasRow.2.1 17 = .ok (.i2l, 1) := by decide +kernel
theorem d_X8_hasRow_18 : decode mt_X8_hasRow.2.1 18 = .ok (.lcmp, 1) := by decide +kernel
theorem d_X8_hasRow_19 : decode mt_X8_hasRow.2.1 19 = .ok (.ifCond .gt 7, 3) := by decide +kernel
theorem d_X8_hasRow_22 : decode mt_X8_hasRow.2.1 22 = .ok (.iconst 1, 1) := by decide +kernel
theorem d_X8_hasRow_23 : decode mt_X8_hasRow.2.1 23 = .ok (.goto 4, 3) := by decide +kernel
theorem d_X8_hasRow_26 : decode mt_X8_hasRow.2.1 26 = .ok (.iconst 0, 1) := by decide +kernel
theorem d_X8_hasRow_27 : decode mt_X8_hasRow.2.1 27 = .ok (.ireturn, 1) := by decide +kernel
noncomputable def f_X8_hasRow_b0 (v0 v1 v2 : Int) (σ : Mem) : Option (Int) :=
  if v1 < 0 then
    some (0)
  else
    if v2 < 0 then
      some (0)
    else
      (gf Sh σ 8 v0 2).bind fun x1 =>
      if 0 < lcmp (w64 (v1 + v2)) x1 then
        some (0)
      else
        some (1)
theorem L_X8_hasRow_b0 {sc : Nat × (Nat → Int32)} {o : Int} {σ : Mem} {v0 v1 v2 : Int} (h : f_X8_hasRow_b0 v0 v1 v2 σ = some o) : E sc (Fm Sh (some (0, o)) Sh σ) mt_X8_hasRow 1 Sh Sh 0 [(2, v0), (0, v1), (0, v2)] [] Sh σ := by
  unfold f_X8_hasRow_b0 at h
  refine E_iload_n d_X8_hasRow_0 rfl ?_
  refine E_if_lt (tgt := 26) d_X8_hasRow_1 (by decide) h (fun _ h => ?_) (fun _ h => ?_)
  · refine E_iconst d_X8_hasRow_26 (c32 rfl) ?_
    cases h
    exact E_zret d_X8_hasRow_27 rfl (Or.inl rfl)
  · refine E_iload_n d_X8_hasRow_4 rfl ?_
    refine E_if_lt (tgt := 26) d_X8_hasRow_5 (by decide) h (fun _ h => ?_) (fun _ h => ?_)
    · refine E_iconst d_X8_hasRow_26 (c32 rfl) ?_
      cases h
      exact E_zret d_X8_hasRow_27 rfl (Or.inl rfl)
    · refine E_iload_n d_X8_hasRow_8 rfl ?_
      refine E_i2l d_X8_hasRow_9 ?_
      refine E_iload_n d_X8_hasRow_10 rfl ?_
      refine E_i2l d_X8_hasRow_11 ?_
      refine E_ladd d_X8_hasRow_12 ?_
      refine E_aload_n d_X8_hasRow_13 rfl (by decide) ?_
      refine E_get d_X8_hasRow_14 okX8 fl_X8_19 ⟨by decide, rfl⟩ h (fun x1 h => ?_)
      refine E_i2l d_X8_hasRow_17 ?_
      refine E_lcmp d_X8_hasRow_18 ?_
      refine E_if_gt (tgt := 26) d_X8_hasRow_19 (by decide) h (fun _ h => ?_) (fun _ h => ?_)
      · refine E_iconst d_X8_hasRow_26 (c32 rfl) ?_
        cases h
        exact E_zret d_X8_hasRow_27 rfl (Or.inl rfl)
      · refine E_iconst d_X8_hasRow_22 (c32 rfl) ?_
        refine E_goto (tgt := 27) d_X8_hasRow_23 (by decide) ?_
        cases h
        exact E_zret d_X8_hasRow_27 rfl (Or.inr rfl)
noncomputable def f_X8_hasRow (v0 v1 v2 : Int) (σ : Mem) : Option (Int) := if isO Sh 8 v0 = true then f_X8_hasRow_b0 v0 v1 v2 σ else none
theorem L_X8_hasRow {o : Int} {v0 v1 v2 : Int} {σ : Mem} (h : f_X8_hasRow v0 v1 v2 σ = some o) : (isO Sh 8 v0 = true ∧ Cn mt_X8_hasRow 1 [(2, v0), (0, v1), (0, v2)] Sh σ (some (0, o)) Sh σ) := ⟨(ite_ok h).1, Cn_of mk_X8_hasRow.1.2.2.1 (Nat.le_of_ble_eq_true rfl) (fun sc => L_X8_hasRow_b0 (ite_ok h).2)⟩
theorem d_X8_put_0 : decode mt_X8_put.2.1 0 = .ok (.aload_n 0, 1) := by decide +kernel
theorem d_X8_put_1 : decode mt_X8_put.2.1 1 = .ok (.getfield 15, 3) := by decide +kernel
theorem d_X8_put_4 : decode mt_X8_put.2.1 4 = .ok (.tableswitch 66 0 2 #[28, 41, 54], 28) := by decide +kernel
theorem d_X8_put_32 : decode mt_X8_put.2.1 32 = .ok (.aload_n 0, 1) := by decide +kernel
theorem d_X8_put_33 : decode mt_X8_put.2.1 33 = .ok (.getfield 9, 3) := by decide +kernel
theorem d_X8_put_36 : decode mt_X8_put.2.1 36 = .ok (.iload_n 1, 1) := by decide +kernel
theorem d_X8_put_37 : decode mt_X8_put.2.1 37 = .ok (.lload_n 2, 1) := by decide +kernel
theorem d_X8_put_38 : decode mt_X8_put.2.1 38 = .ok (.l2i, 1) := by decide +kernel
theorem d_X8_put_39 : decode mt_X8_put.2.1 39 = .ok (.i2b, 1) := by decide +kernel
theorem d_X8_put_40 : decode mt_X8_put.2.1 40 = .ok (.i2l, 1) := by decide +kernel
theorem d_X8_put_41 : decode mt_X8_put.2.1 41 = .ok (.lastore, 1) := by decide +kernel
theorem d_X8_put_42 : decode mt_X8_put.2.1 42 = .ok (.goto 35, 3) := by decide +kernel
theorem d_X8_put_45 : decode mt_X8_put.2.1 45 = .ok (.aload_n 0, 1) := by decide +kernel
theorem d_X8_put_46 : decode mt_X8_put.2.1 46 = .ok (.getfield 9, 3) := by decide +kernel
theorem d_X8_put_49 : decode mt_X8_put.2.1 49 = .ok (.iload_n 1, 1) := by decide +kernel
theorem d_X8_put_50 : decode mt_X8_put.2.1 50 = .ok (.lload_n 2, 1) := by decide +kernel
theorem d_X8_put_51 : decode mt_X8_put.2.1 51 = .ok (.l2i, 1) := by decide +kernel
theorem d_X8_put_52 : decode mt_X8_put.2.1 52 = .ok (.i2s, 1) := by decide +kernel
theorem d_X8_put_53 : decode mt_X8_put.2.1 53 = .ok (.i2l, 1) := by decide +kernel
theorem d_X8_put_54 : decode mt_X8_put.2.1 54 = .ok (.lastore, 1) := by decide +kernel
theorem d_X8_put_55 : decode mt_X8_put.2.1 55 = .ok (.goto 22, 3) := by decide +kernel
theorem d_X8_put_58 : decode mt_X8_put.2.1 58 = .ok (.aload_n 0, 1) := by decide +kernel
theorem d_X8_put_59 : decode mt_X8_put.2.1 59 = .ok (.getfield 9, 3) := by decide +kernel
theorem d_X8_put_62 : decode mt_X8_put.2.1 62 = .ok (.iload_n 1, 1) := by decide +kernel
theorem d_X8_put_63 : decode mt_X8_put.2.1 63 = .ok (.lload_n 2, 1) := by decide +kernel
theorem d_X8_put_64 : decode mt_X8_put.2.1 64 = .ok (.l2i, 1) := by decide +kernel
theorem d_X8_put_65 : decode mt_X8_put.2.1 65 = .ok (.i2l, 1) := by decide +kernel
theorem d_X8_put_66 : decode mt_X8_put.2.1 66 = .ok (.lastore, 1) := by decide +kernel
theorem d_X8_put_67 : decode mt_X8_put.2.1 67 = .ok (.goto 10, 3) := by decide +kernel
theorem d_X8_put_70 : decode mt_X8_put.2.1 70 = .ok (.aload_n 0, 1) := by decide +kernel
theorem d_X8_put_71 : decode mt_X8_put.2.1 71 = .ok (.getfield 9, 3) := by decide +kernel
theorem d_X8_put_74 : decode mt_X8_put.2.1 74 = .ok (.iload_n 1, 1) := by decide +kernel
theorem d_X8_put_75 : decode mt_X8_put.2.1 75 = .ok (.lload_n 2, 1) := by decide +kernel
theorem d_X8_put_76 : decode mt_X8_put.2.1 76 = .ok (.lastore, 1) := by decide +kernel
theorem d_X8_put_77 : decode mt_X8_put.2.1 77 = .ok (.return_, 1) := by decide +kernel
noncomputable def f_X8_put_b0 (v0 v1 v2 : Int) (σ : Mem) : Option (Mem) :=
  (gf Sh σ 8 v0 1).bind fun x1 =>
  if x1 = 0 then
    (gf Sh σ 8 v0 0).bind fun x3 =>
    (st_ Sh σ 21 x3 v1 (w8 (w32 v2))).bind fun σ4 =>
    some σ4
  else if x1 = 1 then
    (gf Sh σ 8 v0 0).bind fun x6 =>
    (st_ Sh σ 21 x6 v1 (w16 (w32 v2))).bind fun σ7 =>
    some σ7
  else if x1 = 2 then
    (gf Sh σ 8 v0 0).bind fun x9 =>
    (st_ Sh σ 21 x9 v1 (w32 v2)).bind fun σ10 =>
    some σ10
  else 
    (gf Sh σ 8 v0 0).bind fun x11 =>
    (st_ Sh σ 21 x11 v1 v2).bind fun σ12 =>
    some σ12
theorem L_X8_put_b0 {sc : Nat × (Nat → Int32)} {o : Mem} {v0 v1 v2 : Int} {σ : Mem} (h : f_X8_put_b0 v0 v1 v2 σ = some o) : E sc (Fm Sh none Sh o) mt_X8_put 1 Sh Sh 0 [(2, v0), (0, v1), (1, v2), (9, 0)] [] Sh σ := by
  unfold f_X8_put_b0 at h
  refine E_aload_n d_X8_put_0 rfl (by decide) ?_
  refine E_get d_X8_put_1 okX8 fl_X8_15 ⟨by decide, rfl⟩ h (fun x1 h => ?_)
  refine br_eq h (fun q2 h => ?_) (fun q2 h => ?_)
  · refine E_tabIn (tgt := 32) d_X8_put_4 q2 ⟨by decide, by decide, rfl, by decide⟩ ?_
    refine E_aload_n d_X8_put_32 rfl (by decide) ?_
    refine E_get d_X8_put_33 okX8 fl_X8_9 ⟨by decide, rfl⟩ h (fun x3 h => ?_)
    refine E_iload_n d_X8_put_36 rfl ?_
    refine E_lload_n d_X8_put_37 rfl ?_
    refine E_l2i d_X8_put_38 ?_
    refine E_i2b d_X8_put_39 ?_
    refine E_i2l d_X8_put_40 ?_
    refine E_lastore d_X8_put_41 h (fun σ4 h => ?_)
    refine E_goto (tgt := 77) d_X8_put_42 (by decide) ?_
    cases h
    exact E_vret d_X8_put_77 rfl
  refine br_eq h (fun q5 h => ?_) (fun q5 h => ?_)
  · refine E_tabIn (tgt := 45) d_X8_put_4 q5 ⟨by decide, by decide, rfl, by decide⟩ ?_
    refine E_aload_n d_X8_put_45 rfl (by decide) ?_
    refine E_get d_X8_put_46 okX8 fl_X8_9 ⟨by decide, rfl⟩ h (fun x6 h => ?_)
    refine E_iload_n d_X8_put_49 rfl ?_
    refine E_lload_n d_X8_put_50 rfl ?_
    refine E_l2i d_X8_put_51 ?_
    refine E_i2s d_X8_put_52 ?_
    refine E_i2l d_X8_put_53 ?_
    refine E_lastore d_X8_put_54 h (fun σ7 h => ?_)
    refine E_goto (tgt := 77) d_X8_put_55 (by decide) ?_
    cases h
    exact E_vret d_X8_put_77 rfl
  refine br_eq h (fun q8 h => ?_) (fun q8 h => ?_)
  · refine E_tabIn (tgt := 58) d_X8_put_4 q8 ⟨by decide, by decide, rfl, by decide⟩ ?_
    refine E_aload_n d_X8_put_58 rfl (by decide) ?_
    refine E_get d_X8_put_59 okX8 fl_X8_9 ⟨by decide, rfl⟩ h (fun x9 h => ?_)
    refine E_iload_n d_X8_put_62 rfl ?_
    refine E_lload_n d_X8_put_63 rfl ?_
    refine E_l2i d_X8_put_64 ?_
    refine E_i2l d_X8_put_65 ?_
    refine E_lastore d_X8_put_66 h (fun σ10 h => ?_)
    refine E_goto (tgt := 77) d_X8_put_67 (by decide) ?_
    cases h
    exact E_vret d_X8_put_77 rfl
  refine E_tabD (tgt := 70) [0, 1, 2] d_X8_put_4 (by simp only [List.mem_cons, List.not_mem_nil, or_false, not_or]; exact ⟨q2, q5, q8⟩) (by decide) ⟨by decide, by decide⟩ ?_
  refine E_aload_n d_X8_put_70 rfl (by decide) ?_
  refine E_get d_X8_put_71 okX8 fl_X8_9 ⟨by decide, rfl⟩ h (fun x11 h => ?_)
  refine E_iload_n d_X8_put_74 rfl ?_
  refine E_lload_n d_X8_put_75 rfl ?_
  refine E_lastore d_X8_put_76 h (fun σ12 h => ?_)
  cases h
  exact E_vret d_X8_put_77 rfl
noncomputable def f_X8_put (v0 v1 v2 : Int) (σ : Mem) : Option (Mem) := if isO Sh 8 v0 = true then f_X8_put_b0 v0 v1 v2 σ else none
theorem L_X8_put {o : Mem} {v0 v1 v2 : Int} {σ : Mem} (h : f_X8_put v0 v1 v2 σ = some o) : (isO Sh 8 v0 = true ∧ Cn mt_X8_put 1 [(2, v0), (0, v1), (1, v2)] Sh σ none Sh o) := ⟨(ite_ok h).1, Cn_of mk_X8_put.1.2.2.1 (Nat.le_of_ble_eq_true rfl) (fun sc => L_X8_put_b0 (ite_ok h).2)⟩
theorem d_X7_isLetter_0 : decode mt_X7_isLetter.2.1 0 = .ok (.iload_n 0, 1) := by decide +kernel
theorem d_X7_isLetter_1 : decode mt_X7_isLetter.2.1 1 = .ok (.bipush 97, 2) := by decide +kernel
theorem d_X7_isLetter_3 : decode mt_X7_isLetter.2.1 3 = .ok (.if_icmp .lt 13, 3) := by decide +kernel
theorem d_X7_isLetter_6 : decode mt_X7_isLetter.2.1 6 = .ok (.iload_n 0, 1) := by decide +kernel
theorem d_X7_isLetter_7 : decode mt_X7_isLetter.2.1 7 = .ok (.bipush 122, 2) := by decide +kernel
theorem d_X7_isLetter_9 : decode mt_X7_isLetter.2.1 9 = .ok (.if_icmp .gt 7, 3) := by decide +kernel
theorem d_X7_isLetter_12 : decode mt_X7_isLetter.2.1 12 = .ok (.iconst 1, 1) := by decide +kernel
theorem d_X7_isLetter_13 : decode mt_X7_isLetter.2.1 13 = .ok (.goto 4, 3) := by decide +kernel
theorem d_X7_isLetter_16 : decode mt_X7_isLetter.2.1 16 = .ok (.iconst 0, 1) := by decide +kernel
theorem d_X7_isLetter_17 : decode mt_X7_isLetter.2.1 17 = .ok (.ireturn, 1) := by decide +kernel
noncomputable def f_X7_isLetter_b0 (v0 : Int) (σ : Mem) : Option (Int) :=
  if v0 < 97 then
    some (0)
  else
    if 122 < v0 then
      some (0)
    else
      some (1)
theorem L_X7_isLetter_b0 {sc : Nat × (Nat → Int32)} {o : Int} {σ : Mem} {v0 : Int} (h : f_X7_isLetter_b0 v0 σ = some o) : E sc (Fm Sh (some (0, o)) Sh σ) mt_X7_isLetter 1 Sh Sh 0 [(0, v0)] [] Sh σ := by
  unfold f_X7_isLetter_b0 at h
  refine E_iload_n d_X7_isLetter_0 rfl ?_
  refine E_bipush d_X7_isLetter_1 (c8 rfl) ?_
  refine E_icmp_lt (tgt := 16) d_X7_isLetter_3 (by decide) h (fun _ h => ?_) (fun _ h => ?_)
  · refine E_iconst d_X7_isLetter_16 (c32 rfl) ?_
    cases h
    exact E_zret d_X7_isLetter_17 rfl (Or.inl rfl)
  · refine E_iload_n d_X7_isLetter_6 rfl ?_
    refine E_bipush d_X7_isLetter_7 (c8 rfl) ?_
    refine E_icmp_gt (tgt := 16) d_X7_isLetter_9 (by decide) h (fun _ h => ?_) (fun _ h => ?_)
    · refine E_iconst d_X7_isLetter_16 (c32 rfl) ?_
      cases h
      exact E_zret d_X7_isLetter_17 rfl (Or.inl rfl)
    · refine E_iconst d_X7_isLetter_12 (c32 rfl) ?_
      refine E_goto (tgt := 17) d_X7_isLetter_13 (by decide) ?_
      cases h
      exact E_zret d_X7_isLetter_17 rfl (Or.inr rfl)
noncomputable def f_X7_isLetter (v0 : Int) (σ : Mem) : Option (Int) := f_X7_isLetter_b0 v0 σ
theorem L_X7_isLetter {o : Int} {v0 : Int} {σ : Mem} (h : f_X7_isLetter v0 σ = some o) : Cn mt_X7_isLetter 1 [(0, v0)] Sh σ (some (0, o)) Sh σ := Cn_of mk_X7_isLetter.1.2.2.1 (Nat.le_of_ble_eq_true rfl) (fun sc => L_X7_isLetter_b0 h)
theorem d_X7_keyOf_0 : decode mt_X7_keyOf.2.1 0 = .ok (.iconst 0, 1) := by decide +kernel
theorem d_X7_keyOf_1 : decode mt_X7_keyOf.2.1 1 = .ok (.istore_n 3, 1) := by decide +kernel
theorem d_X7_keyOf_2 : decode mt_X7_keyOf.2.1 2 = .ok (.iload_n 3, 1) := by decide +kernel
theorem d_X7_keyOf_3 : decode mt_X7_keyOf.2.1 3 = .ok (.bipush 23, 2) := by decide +kernel
theorem d_X7_keyOf_5 : decode mt_X7_keyOf.2.1 5 = .ok (.if_icmp .ge 22, 3) := by decide +kernel
theorem d_X7_keyOf_8 : decode mt_X7_keyOf.2.1 8 = .ok (.aload_n 0, 1) := by decide +kernel
theorem d_X7_keyOf_9 : decode mt_X7_keyOf.2.1 9 = .ok (.getfield 9, 3) := by decide +kernel
theorem d_X7_keyOf_12 : decode mt_X7_keyOf.2.1 12 = .ok (.iload_n 3, 1) := by decide +kernel
theorem d_X7_keyOf_13 : decode mt_X7_keyOf.2.1 13 = .ok (.laload, 1) := by decide +kernel
theorem d_X7_keyOf_14 : decode mt_X7_keyOf.2.1 14 = .ok (.lload_n 1, 1) := by decide +kernel
theorem d_X7_keyOf_15 : decode mt_X7_keyOf.2.1 15 = .ok (.lcmp, 1) := by decide +kernel
theorem d_X7_keyOf_16 : decode mt_X7_keyOf.2.1 16 = .ok (.ifCond .ne 5, 3) := by decide +kernel
theorem d_X7_keyOf_19 : decode mt_X7_keyOf.2.1 19 = .ok (.iload_n 3, 1) := by decide +kernel
theorem d_X7_keyOf_20 : decode mt_X7_keyOf.2.1 20 = .ok (.ireturn, 1) := by decide +kernel
theorem d_X7_keyOf_21 : decode mt_X7_keyOf.2.1 21 = .ok (.iinc 3 1, 3) := by decide +kernel
theorem d_X7_keyOf_24 : decode mt_X7_keyOf.2.1 24 = .ok (.goto (-22), 3) := by decide +kernel
theorem d_X7_keyOf_27 : decode mt_X7_keyOf.2.1 27 = .ok (.iconst (-1), 1) := by decide +kernel
theorem d_X7_keyOf_28 : decode mt_X7_keyOf.2.1 28 = .ok (.ireturn, 1) := by decide +kernel
noncomputable def f_X7_keyOf_b2 (k2 : (Int → Int → Int → Mem → Option (Int))) (v0 v1 v3 : Int) (σ : Mem) : Option (Int) :=
  if 23 ≤ v3 then
    some ((-1))
  else
    (gf Sh σ 7 v0 1).bind fun x1 =>
    (al Sh σ 21 x1 v3).bind fun x2 =>
    if lcmp x2 v1 = 0 then
      some (v3)
    else
      k2 v0 v1 (w32 (v3 + 1)) σ
theorem L_X7_keyOf_b2 {sc : Nat × (Nat → Int32)} {o : Int} {σ : Mem} {k2 : (Int → Int → Int → Mem → Option (Int))} (hk2 : ∀ {v0 v1 v3 : Int}, k2 v0 v1 v3 σ = some o → E sc (Fm Sh (some (0, o)) Sh σ) mt_X7_keyOf 1 Sh Sh 2 [(2, v0), (1, v1), (9, 0), (0, v3)] [] Sh σ) {v0 v1 v3 : Int} (h : f_X7_keyOf_b2 k2 v0 v1 v3 σ = some o) : E sc (Fm Sh (some (0, o)) Sh σ) mt_X7_keyOf 1 Sh Sh 2 [(2, v0), (1, v1), (9, 0), (0, v3)] [] Sh σ := by
  unfold f_X7_keyOf_b2 at h
  refine E_iload_n d_X7_keyOf_2 rfl ?_
  refine E_bipush d_X7_keyOf_3 (c8 rfl) ?_
  refine E_icmp_ge (tgt := 27) d_X7_keyOf_5 (by decide) h (fun _ h => ?_) (fun _ h => ?_)
  · refine E_iconst d_X7_keyOf_27 (c32 rfl) ?_
    cases h
    exact E_iret d_X7_keyOf_28 rfl
  · refine E_aload_n d_X7_keyOf_8 rfl (by decide) ?_
    refine E_get d_X7_keyOf_9 okX7 fl_X7_9 ⟨by decide, rfl⟩ h (fun x1 h => ?_)
    refine E_iload_n d_X7_keyOf_12 rfl ?_
    refine E_laload d_X7_keyOf_13 h (fun x2 h => ?_)
    refine E_lload_n d_X7_keyOf_14 rfl ?_
    refine E_lcmp d_X7_keyOf_15 ?_
    refine E_if_ne (tgt := 21) d_X7_keyOf_16 (by decide) h (fun _ h => ?_) (fun _ h => ?_)
    · refine E_iload_n d_X7_keyOf_19 rfl ?_
      cases h
      exact E_iret d_X7_keyOf_20 rfl
    · refine E_iinc d_X7_keyOf_21 (ls' := [(2, v0), (1, v1), (9, 0), (0, w32 (v3 + 1))]) rfl ⟨by decide, rfl⟩ ?_
      refine E_goto (tgt := 2) d_X7_keyOf_24 (by decide) ?_
      exact (hk2 h)
noncomputable def f_X7_keyOf_h2 (n : Nat) : Int → Int → Int → Mem → Option (Int) := Nat.rec (motive := fun _ => Int → Int → Int → Mem → Option (Int)) (fun _ _ _ _ => none) (fun _ ih => f_X7_keyOf_b2 (ih)) n
theorem L_X7_keyOf_h2 {sc : Nat × (Nat → Int32)} {o : Int} {σ : Mem} : ∀ (n : Nat) {v0 v1 v3 : Int}, f_X7_keyOf_h2 n v0 v1 v3 σ = some o → E sc (Fm Sh (some (0, o)) Sh σ) mt_X7_keyOf 1 Sh Sh 2 [(2, v0), (1, v1), (9, 0), (0, v3)] [] Sh σ := by
  intro n
  induction n with
  | zero => intro v0 v1 v3 h; cases h
  | succ n ih => intro v0 v1 v3 h; exact L_X7_keyOf_b2 (@ih) h
noncomputable def f_X7_keyOf_b0 (v0 v1 : Int) (σ : Mem) : Option (Int) :=
  f_X7_keyOf_h2 FU v0 v1 0 σ
theorem L_X7_keyOf_b0 {sc : Nat × (Nat → Int32)} {o : Int} {σ : Mem} {v0 v1 : Int} (h : f_X7_keyOf_b0 v0 v1 σ = some o) : E sc (Fm Sh (some (0, o)) Sh σ) mt_X7_keyOf 1 Sh Sh 0 [(2, v0), (1, v1), (9, 0), (9, 0)] [] Sh σ := by
  unfold f_X7_keyOf_b0 at h
  refine E_iconst d_X7_keyOf_0 (c32 rfl) ?_
  refine E_istore_n d_X7_keyOf_1 (ls' := [(2, v0), (1, v1), (9, 0), (0, 0)]) ⟨by decide, rfl⟩ ?_
  exact (L_X7_keyOf_h2 FU h)
noncomputable def f_X7_keyOf (v0 v1 : Int) (σ : Mem) : Option (Int) := if isO Sh 7 v0 = true then f_X7_keyOf_b0 v0 v1 σ else none
theorem L_X7_keyOf {o : Int} {v0 v1 : Int} {σ : Mem} (h : f_X7_keyOf v0 v1 σ = some o) : (isO Sh 7 v0 = true ∧ Cn mt_X7_keyOf 1 [(2, v0), (1, v1)] Sh σ (some (0, o)) Sh σ) := ⟨(ite_ok h).1, Cn_of mk_X7_keyOf.1.2.2.1 (Nat.le_of_ble_eq_true rfl) (fun sc => L_X7_keyOf_b0 (ite_ok h).2)⟩
theorem d_X7_stepWord_0 : decode mt_X7_stepWord.2.1 0 = .ok (.aload_n 0, 1) := by decide +kernel
theorem d_X7_stepWord_1 : decode mt_X7_stepWord.2.1 1 = .ok (.lconst 0, 1) := by decide +kernel
theorem d_X7_stepWord_2 : decode mt_X7_stepWord.2.1 2 = .ok (.putfield 76, 3) := by decide +kernel
theorem d_X7_stepWord_5 : decode mt_X7_stepWord.2.1 5 = .ok (.aload_n 0, 1) := by decide +kernel
theorem d_X7_stepWord_6 : decode mt_X7_stepWord.2.1 6 = .ok (.getfield 48, 3) := by decide +kernel
theorem d_X7_stepWord_9 : decode mt_X7_stepWord.2.1 9 = .ok (.aload_n 0, 1) := by decide +kernel
theorem d_X7_stepWord_10 : decode mt_X7_stepWord.2.1 10 = .ok (.getfield 46, 3) := by decide +kernel
theorem d_X7_stepWord_13 : decode mt_X7_stepWord.2.1 13 = .ok (.if_icmp .ge 83, 3) := by decide +kernel
theorem d_X7_stepWord_16 : decode mt_X7_stepWord.2.1 16 = .ok (.aload_n 0, 1) := by decide +kernel
theorem d_X7_stepWord_17 : decode mt_X7_stepWord.2.1 17 = .ok (.getfield 22, 3) := by decide +kernel
theorem d_X7_stepWord_20 : decode mt_X7_stepWord.2.1 20 = .ok (.aload_n 0, 1) := by decide +kernel
theorem d_X7_stepWord_21 : decode mt_X7_stepWord.2.1 21 = .ok (.getfield 48, 3) := by decide +kernel
theorem d_X7_stepWord_24 : decode mt_X7_stepWord.2.1 24 = .ok (.baload, 1) := by decide +kernel
theorem d_X7_stepWord_25 : decode mt_X7_stepWord.2.1 25 = .ok (.invokestatic 60, 3) := by decide +kernel
theorem d_X7_stepWord_28 : decode mt_X7_stepWord.2.1 28 = .ok (.ifCond .eq 68, 3) := by decide +kernel
theorem d_X7_stepWord_31 : decode mt_X7_stepWord.2.1 31 = .ok (.aload_n 0, 1) := by decide +kernel
theorem d_X7_stepWord_32 : decode mt_X7_stepWord.2.1 32 = .ok (.getfield 48, 3) := by decide +kernel
theorem d_X7_stepWord_35 : decode mt_X7_stepWord.2.1 35 = .ok (.aload_n 0, 1) := by decide +kernel
theorem d_X7_stepWord_36 : decode mt_X7_stepWord.2.1 36 = .ok (.getfield 54, 3) := by decide +kernel
theorem d_X7_stepWord_39 : decode mt_X7_stepWord.2.1 39 = .ok (.isub, 1) := by decide +kernel
theorem d_X7_stepWord_40 : decode mt_X7_stepWord.2.1 40 = .ok (.bipush 8, 2) := by decide +kernel
theorem d_X7_stepWord_42 : decode mt_X7_stepWord.2.1 42 = .ok (.if_icmp .ge 34, 3) := by decide +kernel
theorem d_X7_stepWord_45 : decode mt_X7_stepWord.2.1 45 = .ok (.aload_n 0, 1) := by decide +kernel
theorem d_X7_stepWord_46 : decode mt_X7_stepWord.2.1 46 = .ok (.aload_n 0, 1) := by decide +kernel
theorem d_X7_stepWord_47 : decode mt_X7_stepWord.2.1 47 = .ok (.getfield 76, 3) := by decide +kernel
theorem d_X7_stepWord_50 : decode mt_X7_stepWord.2.1 50 = .ok (.ldc2_w 38, 3) := by decide +kernel
theorem d_X7_stepWord_53 : decode mt_X7_stepWord.2.1 53 = .ok (.lmul, 1) := by decide +kernel
theorem d_X7_stepWord_54 : decode mt_X7_stepWord.2.1 54 = .ok (.aload_n 0, 1) := by decide +kernel
theorem d_X7_stepWord_55 : decode mt_X7_stepWord.2.1 55 = .ok (.getfield 22, 3) := by decide +kernel
theorem d_X7_stepWord_58 : decode mt_X7_stepWord.2.1 58 = .ok (.aload_n 0, 1) := by decide +kernel
theorem d_X7_stepWord_59 : decode mt_X7_stepWord.2.1 59 = .ok (.getfield 48, 3) := by decide +kernel
theorem d_X7_stepWord_62 : decode mt_X7_stepWord.2.1 62 = .ok (.baload, 1) := by decide +kernel
theorem d_X7_stepWord_63 : decode mt_X7_stepWord.2.1 63 = .ok (.bipush 97, 2) := by decide +kernel
theorem d_X7_stepWord_65 : decode mt_X7_stepWord.2.1 65 = .ok (.isub, 1) := by decide +kernel
theorem d_X7_stepWord_66 : decode mt_X7_stepWord.2.1 66 = .ok (.iconst 1, 1) := by decide +kernel
theorem d_X7_stepWord_67 : decode mt_X7_stepWord.2.1 67 = .ok (.iadd, 1) := by decide +kernel
theorem d_X7_stepWord_68 : decode mt_X7_stepWord.2.1 68 = .ok (.i2l, 1) := by decide +kernel
theorem d_X7_stepWord_69 : decode mt_X7_stepWord.2.1 69 = .ok (.ladd, 1) := by decide +kernel
theorem d_X7_stepWord_70 : decode mt_X7_stepWord.2.1 70 = .ok (.putfield 76, 3) := by decide +kernel
theorem d_X7_stepWord_73 : decode mt_X7_stepWord.2.1 73 = .ok (.goto 10, 3) := by decide +kernel
theorem d_X7_stepWord_76 : decode mt_X7_stepWord.2.1 76 = .ok (.aload_n 0, 1) := by decide +kernel
theorem d_X7_stepWord_77 : decode mt_X7_stepWord.2.1 77 = .ok (.ldc2_w 80, 3) := by decide +kernel
theorem d_X7_stepWord_80 : decode mt_X7_stepWord.2.1 80 = .ok (.putfield 76, 3) := by decide +kernel
theorem d_X7_stepWord_83 : decode mt_X7_stepWord.2.1 83 = .ok (.aload_n 0, 1) := by decide +kernel
theorem d_X7_stepWord_84 : decode mt_X7_stepWord.2.1 84 = .ok (.dup, 1) := by decide +kernel
theorem d_X7_stepWord_85 : decode mt_X7_stepWord.2.1 85 = .ok (.getfield 48, 3) := by decide +kernel
theorem d_X7_stepWord_88 : decode mt_X7_stepWord.2.1 88 = .ok (.iconst 1, 1) := by decide +kernel
theorem d_X7_stepWord_89 : decode mt_X7_stepWord.2.1 89 = .ok (.iadd, 1) := by decide +kernel
theorem d_X7_stepWord_90 : decode mt_X7_stepWord.2.1 90 = .ok (.putfield 48, 3) := by decide +kernel
theorem d_X7_stepWord_93 : decode mt_X7_stepWord.2.1 93 = .ok (.goto (-88), 3) := by decide +kernel
theorem d_X7_stepWord_96 : decode mt_X7_stepWord.2.1 96 = .ok (.aload_n 0, 1) := by decide +kernel
theorem d_X7_stepWord_97 : decode mt_X7_stepWord.2.1 97 = .ok (.iconst 2, 1) := by decide +kernel
theorem d_X7_stepWord_98 : decode mt_X7_stepWord.2.1 98 = .ok (.putfield 57, 3) := by decide +kernel
theorem d_X7_stepWord_101 : decode mt_X7_stepWord.2.1 101 = .ok (.aload_n 0, 1) := by decide +kernel
theorem d_X7_stepWord_102 : decode mt_X7_stepWord.2.1 102 = .ok (.aload_n 0, 1) := by decide +kernel
theorem d_X7_stepWord_103 : decode mt_X7_stepWord.2.1 103 = .ok (.aload_n 0, 1) := by decide +kernel
theorem d_X7_stepWord_104 : decode mt_X7_stepWord.2.1 104 = .ok (.getfield 76, 3) := by decide +kernel
theorem d_X7_stepWord_107 : decode mt_X7_stepWord.2.1 107 = .ok (.invokevirtual 82, 3) := by decide +kernel
theorem d_X7_stepWord_110 : decode mt_X7_stepWord.2.1 110 = .ok (.putfield 86, 3) := by decide +kernel
theorem d_X7_stepWord_113 : decode mt_X7_stepWord.2.1 113 = .ok (.return_, 1) := by decide +kernel
noncomputable def f_X7_stepWord_b83 (k5 : (Int → Mem → Option (Mem))) (v0 : Int) (σ : Mem) : Option (Mem) :=
  (gf Sh σ 7 v0 3).bind fun x17 =>
  (pf Sh σ 7 v0 3 (w32 (x17 + 1))).bind fun σ18 =>
  k5 v0 σ18
theorem L_X7_stepWord_b83 {sc : Nat × (Nat → Int32)} {o : Mem} {k5 : (Int → Mem → Option (Mem))} (hk5 : ∀ {v0 : Int} {σ : Mem}, k5 v0 σ = some o → E sc (Fm Sh none Sh o) mt_X7_stepWord 2 Sh Sh 5 [(2, v0)] [] Sh σ) {v0 : Int} {σ : Mem} (h : f_X7_stepWord_b83 k5 v0 σ = some o) : E sc (Fm Sh none Sh o) mt_X7_stepWord 2 Sh Sh 83 [(2, v0)] [] Sh σ := by
  unfold f_X7_stepWord_b83 at h
  refine E_aload_n d_X7_stepWord_83 rfl (by decide) ?_
  refine E_dupT d_X7_stepWord_84 (by decide) ?_
  refine E_get d_X7_stepWord_85 okX7 fl_X7_48 ⟨by decide, rfl⟩ h (fun x17 h => ?_)
  refine E_iconst d_X7_stepWord_88 (c32 rfl) ?_
  refine E_iadd d_X7_stepWord_89 ?_
  refine E_put d_X7_stepWord_90 okX7 fl_X7_48 ⟨by decide, rfl⟩ (Or.inl ⟨rfl, rfl⟩) (Or.inl rfl) h (fun σ18 h => ?_)
  refine E_goto (tgt := 5) d_X7_stepWord_93 (by decide) ?_
  exact (hk5 h)
noncomputable def f_X7_stepWord_b96 (v0 : Int) (σ : Mem) : Option (Mem) :=
  (pf Sh σ 7 v0 4 2).bind fun σ19 =>
  (gf Sh σ19 7 v0 6).bind fun x20 =>
  (f_X7_keyOf v0 x20 σ19).bind fun r21 =>
  (pf Sh σ19 7 v0 7 r21).bind fun σ23 =>
  some σ23
theorem L_X7_stepWord_b96 {sc : Nat × (Nat → Int32)} {o : Mem} {v0 : Int} {σ : Mem} (h : f_X7_stepWord_b96 v0 σ = some o) : E sc (Fm Sh none Sh o) mt_X7_stepWord 2 Sh Sh 96 [(2, v0)] [] Sh σ := by
  unfold f_X7_stepWord_b96 at h
  refine E_aload_n d_X7_stepWord_96 rfl (by decide) ?_
  refine E_iconst d_X7_stepWord_97 (c32 rfl) ?_
  refine E_put d_X7_stepWord_98 okX7 fl_X7_57 ⟨by decide, rfl⟩ (Or.inl ⟨rfl, rfl⟩) (Or.inl rfl) h (fun σ19 h => ?_)
  refine E_aload_n d_X7_stepWord_101 rfl (by decide) ?_
  refine E_aload_n d_X7_stepWord_102 rfl (by decide) ?_
  refine E_aload_n d_X7_stepWord_103 rfl (by decide) ?_
  refine E_get d_X7_stepWord_104 okX7 fl_X7_76 ⟨by decide, rfl⟩ h (fun x20 h => ?_)
  refine bd h (fun r21 q22 h => ?_)
  refine E_cV (as := [(1, x20)]) (st := [(2, v0)]) (a := v0) d_X7_stepWord_107 mk_X7_keyOf nl_X7_82 (by omega) ⟨rfl, rfl, Nat.le_of_ble_eq_true rfl⟩ okX7 rfl (L_X7_keyOf q22) ?_
  refine E_put d_X7_stepWord_110 okX7 fl_X7_86 ⟨by decide, rfl⟩ (Or.inl ⟨rfl, rfl⟩) (Or.inl rfl) h (fun σ23 h => ?_)
  cases h
  exact E_vret d_X7_stepWord_113 rfl
noncomputable def f_X7_stepWord_b5 (k5 : (Int → Mem → Option (Mem))) (v0 : Int) (σ : Mem) : Option (Mem) :=
  (gf Sh σ 7 v0 3).bind fun x2 =>
  (gf Sh σ 7 v0 2).bind fun x3 =>
  if x3 ≤ x2 then
    f_X7_stepWord_b96 v0 σ
  else
    (gf Sh σ 7 v0 0).bind fun x4 =>
    (gf Sh σ 7 v0 3).bind fun x5 =>
    (al Sh σ 22 x4 x5).bind fun x6 =>
    (f_X7_isLetter x6 σ).bind fun r7 =>
    if r7 = 0 then
      f_X7_stepWord_b96 v0 σ
    else
      (gf Sh σ 7 v0 3).bind fun x9 =>
      (gf Sh σ 7 v0 5).bind fun x10 =>
      if 8 ≤ w32 (x9 - x10) then
        (pf Sh σ 7 v0 6 (-1)).bind fun σ11 =>
        f_X7_stepWord_b83 k5 v0 σ11
      else
        (gf Sh σ 7 v0 6).bind fun x12 =>
        (gf Sh σ 7 v0 0).bind fun x13 =>
        (gf Sh σ 7 v0 3).bind fun x14 =>
        (al Sh σ 22 x13 x14).bind fun x15 =>
        (pf Sh σ 7 v0 6 (w64 (w64 (x12 * 27) + (w32 (w32 (x15 - 97) + 1))))).bind fun σ16 =>
        f_X7_stepWord_b83 k5 v0 σ16
theorem L_X7_stepWord_b5 {sc : Nat × (Nat → Int32)} {o : Mem} {k5 : (Int → Mem → Option (Mem))} (hk5 : ∀ {v0 : Int} {σ : Mem}, k5 v0 σ = some o → E sc (Fm Sh none Sh o) mt_X7_stepWord 2 Sh Sh 5 [(2, v0)] [] Sh σ) {v0 : Int} {σ : Mem} (h : f_X7_stepWord_b5 k5 v0 σ = some o) : E sc (Fm Sh none Sh o) mt_X7_stepWord 2 Sh Sh 5 [(2, v0)] [] Sh σ := by
  unfold f_X7_stepWord_b5 at h
  refine E_aload_n d_X7_stepWord_5 rfl (by decide) ?_
  refine E_get d_X7_stepWord_6 okX7 fl_X7_48 ⟨by decide, rfl⟩ h (fun x2 h => ?_)
  refine E_aload_n d_X7_stepWord_9 rfl (by decide) ?_
  refine E_get d_X7_stepWord_10 okX7 fl_X7_46 ⟨by decide, rfl⟩ h (fun x3 h => ?_)
  refine E_icmp_ge (tgt := 96) d_X7_stepWord_13 (by decide) h (fun _ h => ?_) (fun _ h => ?_)
  · exact (L_X7_stepWord_b96 h)
  · refine E_aload_n d_X7_stepWord_16 rfl (by decide) ?_
    refine E_get d_X7_stepWord_17 okX7 fl_X7_22 ⟨by decide, rfl⟩ h (fun x4 h => ?_)
    refine E_aload_n d_X7_stepWord_20 rfl (by decide) ?_
    refine E_get d_X7_stepWord_21 okX7 fl_X7_48 ⟨by decide, rfl⟩ h (fun x5 h => ?_)
    refine E_baload d_X7_stepWord_24 (by decide : 22 = 22 ∨ 22 = 23) h (fun x6 h => ?_)
    refine bd h (fun r7 q8 h => ?_)
    refine E_cS (as := [(0, x6)]) (st := []) d_X7_stepWord_25 mk_X7_isLetter nl_X7_60 (by omega) ⟨rfl, rfl, Nat.le_of_ble_eq_true rfl⟩ (L_X7_isLetter q8) ?_
    refine E_if_eq (tgt := 96) d_X7_stepWord_28 (by decide) h (fun _ h => ?_) (fun _ h => ?_)
    · exact (L_X7_stepWord_b96 h)
    · refine E_aload_n d_X7_stepWord_31 rfl (by decide) ?_
      refine E_get d_X7_stepWord_32 okX7 fl_X7_48 ⟨by decide, rfl⟩ h (fun x9 h => ?_)
      refine E_aload_n d_X7_stepWord_35 rfl (by decide) ?_
      refine E_get d_X7_stepWord_36 okX7 fl_X7_54 ⟨by decide, rfl⟩ h (fun x10 h => ?_)
      refine E_isub d_X7_stepWord_39 ?_
      refine E_bipush d_X7_stepWord_40 (c8 rfl) ?_
      refine E_icmp_ge (tgt := 76) d_X7_stepWord_42 (by decide) h (fun _ h => ?_) (fun _ h => ?_)
      · refine E_aload_n d_X7_stepWord_76 rfl (by decide) ?_
        refine E_ldc2 d_X7_stepWord_77 kw_X7_80 ?_
        refine E_put d_X7_stepWord_80 okX7 fl_X7_76 ⟨by decide, rfl⟩ (Or.inr (Or.inl ⟨rfl, rfl⟩)) (Or.inl rfl) h (fun σ11 h => ?_)
        exact (L_X7_stepWord_b83 hk5 h)
      · refine E_aload_n d_X7_stepWord_45 rfl (by decide) ?_
        refine E_aload_n d_X7_stepWord_46 rfl (by decide) ?_
        refine E_get d_X7_stepWord_47 okX7 fl_X7_76 ⟨by decide, rfl⟩ h (fun x12 h => ?_)
        refine E_ldc2 d_X7_stepWord_50 kw_X7_38 ?_
        refine E_lmul d_X7_stepWord_53 ?_
        refine E_aload_n d_X7_stepWord_54 rfl (by decide) ?_
        refine E_get d_X7_stepWord_55 okX7 fl_X7_22 ⟨by decide, rfl⟩ h (fun x13 h => ?_)
        refine E_aload_n d_X7_stepWord_58 rfl (by decide) ?_
        refine E_get d_X7_stepWord_59 okX7 fl_X7_48 ⟨by decide, rfl⟩ h (fun x14 h => ?_)
        refine E_baload d_X7_stepWord_62 (by decide : 22 = 22 ∨ 22 = 23) h (fun x15 h => ?_)
        refine E_bipush d_X7_stepWord_63 (c8 rfl) ?_
        refine E_isub d_X7_stepWord_65 ?_
        refine E_iconst d_X7_stepWord_66 (c32 rfl) ?_
        refine E_iadd d_X7_stepWord_67 ?_
        refine E_i2l d_X7_stepWord_68 ?_
        refine E_ladd d_X7_stepWord_69 ?_
        refine E_put d_X7_stepWord_70 okX7 fl_X7_76 ⟨by decide, rfl⟩ (Or.inr (Or.inl ⟨rfl, rfl⟩)) (Or.inl rfl) h (fun σ16 h => ?_)
        refine E_goto (tgt := 83) d_X7_stepWord_73 (by decide) ?_
        exact (L_X7_stepWord_b83 hk5 h)
noncomputable def f_X7_stepWord_h5 (n : Nat) : Int → Mem → Option (Mem) := Nat.rec (motive := fun _ => Int → Mem → Option (Mem)) (fun _ _ => none) (fun _ ih => f_X7_stepWord_b5 (ih)) n
theorem L_X7_stepWord_h5 {sc : Nat × (Nat → Int32)} {o : Mem} : ∀ (n : Nat) {v0 : Int} {σ : Mem}, f_X7_stepWord_h5 n v0 σ = some o → E sc (Fm Sh none Sh o) mt_X7_stepWord 2 Sh Sh 5 [(2, v0)] [] Sh σ := by
  intro n
  induction n with
  | zero => intro v0 σ h; cases h
  | succ n ih => intro v0 σ h; exact L_X7_stepWord_b5 (@ih) h
noncomputable def f_X7_stepWord_b0 (v0 : Int) (σ : Mem) : Option (Mem) :=
  (pf Sh σ 7 v0 6 0).bind fun σ1 =>
  f_X7_stepWord_h5 FU v0 σ1
theorem L_X7_stepWord_b0 {sc : Nat × (Nat → Int32)} {o : Mem} {v0 : Int} {σ : Mem} (h : f_X7_stepWord_b0 v0 σ = some o) : E sc (Fm Sh none Sh o) mt_X7_stepWord 2 Sh Sh 0 [(2, v0)] [] Sh σ := by
  unfold f_X7_stepWord_b0 at h
  refine E_aload_n d_X7_stepWord_0 rfl (by decide) ?_
  refine E_lconst d_X7_stepWord_1 cl0 ?_
  refine E_put d_X7_stepWord_2 okX7 fl_X7_76 ⟨by decide, rfl⟩ (Or.inr (Or.inl ⟨rfl, rfl⟩)) (Or.inl rfl) h (fun σ1 h => ?_)
  exact (L_X7_stepWord_h5 FU h)
noncomputable def f_X7_stepWord (v0 : Int) (σ : Mem) : Option (Mem) := if isO Sh 7 v0 = true then f_X7_stepWord_b0 v0 σ else none
theorem L_X7_stepWord {o : Mem} {v0 : Int} {σ : Mem} (h : f_X7_stepWord v0 σ = some o) : (isO Sh 7 v0 = true ∧ Cn mt_X7_stepWord 2 [(2, v0)] Sh σ none Sh o) := ⟨(ite_ok h).1, Cn_of mk_X7_stepWord.1.2.2.1 (Nat.le_of_ble_eq_true rfl) (fun sc => L_X7_stepWord_b0 (ite_ok h).2)⟩
theorem d_X7_isDigit_0 : decode mt_X7_isDigit.2.1 0 = .ok (.iload_n 0, 1) := by decide +kernel
theorem d_X7_isDigit_1 : decode mt_X7_isDigit.2.1 1 = .ok (.bipush 48, 2) := by decide +kernel
theorem d_X7_isDigit_3 : decode mt_X7_isDigit.2.1 3 = .ok (.if_icmp .lt 13, 3) := by decide +kernel
theorem d_X7_isDigit_6 : decode mt_X7_isDigit.2.1 6 = .ok (.iload_n 0, 1) := by decide +kernel
theorem d_X7_isDigit_7 : decode mt_X7_isDigit.2.1 7 = .ok (.bipush 57, 2) := by decide +kernel
theorem d_X7_isDigit_9 : decode mt_X7_isDigit.2.1 9 = .ok (.if_icmp .gt 7, 3) := by decide +kernel
theorem d_X7_isDigit_12 : decode mt_X7_isDigit.2.1 12 = .ok (.iconst 1, 1) := by decide +kernel
theorem d_X7_isDigit_13 : decode mt_X7_isDigit.2.1 13 = .ok (.goto 4, 3) := by decide +kernel
theorem d_X7_isDigit_16 : decode mt_X7_isDigit.2.1 16 = .ok (.iconst 0, 1) := by decide +kernel
theorem d_X7_isDigit_17 : decode mt_X7_isDigit.2.1 17 = .ok (.ireturn, 1) := by decide +kernel
noncomputable def f_X7_isDigit_b0 (v0 : Int) (σ : Mem) : Option (Int) :=
  if v0 < 48 then
    some (0)
  else
    if 57 < v0 then
      some (0)
    else
      some (1)
theorem L_X7_isDigit_b0 {sc : Nat × (Nat → Int32)} {o : Int} {σ : Mem} {v0 : Int} (h : f_X7_isDigit_b0 v0 σ = some o) : E sc (Fm Sh (some (0, o)) Sh σ) mt_X7_isDigit 1 Sh Sh 0 [(0, v0)] [] Sh σ := by
  unfold f_X7_isDigit_b0 at h
  refine E_iload_n d_X7_isDigit_0 rfl ?_
  refine E_bipush d_X7_isDigit_1 (c8 rfl) ?_
  refine E_icmp_lt (tgt := 16) d_X7_isDigit_3 (by decide) h (fun _ h => ?_) (fun _ h => ?_)
  · refine E_iconst d_X7_isDigit_16 (c32 rfl) ?_
    cases h
    exact E_zret d_X7_isDigit_17 rfl (Or.inl rfl)
  · refine E_iload_n d_X7_isDigit_6 rfl ?_
    refine E_bipush d_X7_isDigit_7 (c8 rfl) ?_
    refine E_icmp_gt (tgt := 16) d_X7_isDigit_9 (by decide) h (fun _ h => ?_) (fun _ h => ?_)
    · refine E_iconst d_X7_isDigit_16 (c32 rfl) ?_
      cases h
      exact E_zret d_X7_isDigit_17 rfl (Or.inl rfl)
    · refine E_iconst d_X7_isDigit_12 (c32 rfl) ?_
      refine E_goto (tgt := 17) d_X7_isDigit_13 (by decide) ?_
      cases h
      exact E_zret d_X7_isDigit_17 rfl (Or.inr rfl)
noncomputable def f_X7_isDigit (v0 : Int) (σ : Mem) : Option (Int) := f_X7_isDigit_b0 v0 σ
theorem L_X7_isDigit {o : Int} {v0 : Int} {σ : Mem} (h : f_X7_isDigit v0 σ = some o) : Cn mt_X7_isDigit 1 [(0, v0)] Sh σ (some (0, o)) Sh σ := Cn_of mk_X7_isDigit.1.2.2.1 (Nat.le_of_ble_eq_true rfl) (fun sc => L_X7_isDigit_b0 h)
theorem d_X7_stepNumber_0 : decode mt_X7_stepNumber.2.1 0 = .ok (.aload_n 0, 1) := by decide +kernel
theorem d_X7_stepNumber_1 : decode mt_X7_stepNumber.2.1 1 = .ok (.iconst 0, 1) := by decide +kernel
theorem d_X7_stepNumber_2 : decode mt_X7_stepNumber.2.1 2 = .ok (.putfield 89, 3) := by decide +kernel
theorem d_X7_stepNumber_5 : decode mt_X7_stepNumber.2.1 5 = .ok (.aload_n 0, 1) := by decide +kernel
theorem d_X7_stepNumber_6 : decode mt_X7_stepNumber.2.1 6 = .ok (.getfield 48, 3) := by decide +kernel
theorem d_X7_stepNumber_9 : decode mt_X7_stepNumber.2.1 9 = .ok (.aload_n 0, 1) := by decide +kernel
theorem d_X7_stepNumber_10 : decode mt_X7_stepNumber.2.1 10 = .ok (.getfield 46, 3) := by decide +kernel
theorem d_X7_stepNumber_13 : decode mt_X7_stepNumber.2.1 13 = .ok (.if_icmp .ge 68, 3) := by decide +kernel
theorem d_X7_stepNumber_16 : decode mt_X7_stepNumber.2.1 16 = .ok (.aload_n 0, 1) := by decide +kernel
theorem d_X7_stepNumber_17 : decode mt_X7_stepNumber.2.1 17 = .ok (.getfield 22, 3) := by decide +kernel
theorem d_X7_stepNumber_20 : decode mt_X7_stepNumber.2.1 20 = .ok (.aload_n 0, 1) := by decide +kernel
theorem d_X7_stepNumber_21 : decode mt_X7_stepNumber.2.1 21 = .ok (.getfield 48, 3) := by decide +kernel
theorem d_X7_stepNumber_24 : decode mt_X7_stepNumber.2.1 24 = .ok (.baload, 1) := by decide +kernel
theorem d_X7_stepNumber_25 : decode mt_X7_stepNumber.2.1 25 = .ok (.invokestatic 67, 3) := by decide +kernel
theorem d_X7_stepNumber_28 : decode mt_X7_stepNumber.2.1 28 = .ok (.ifCond .eq 53, 3) := by decide +kernel
theorem d_X7_stepNumber_31 : decode mt_X7_stepNumber.2.1 31 = .ok (.aload_n 0, 1) := by decide +kernel
theorem d_X7_stepNumber_32 : decode mt_X7_stepNumber.2.1 32 = .ok (.getfield 48, 3) := by decide +kernel
theorem d_X7_stepNumber_35 : decode mt_X7_stepNumber.2.1 35 = .ok (.aload_n 0, 1) := by decide +kernel
theorem d_X7_stepNumber_36 : decode mt_X7_stepNumber.2.1 36 = .ok (.getfield 54, 3) := by decide +kernel
theorem d_X7_stepNumber_39 : decode mt_X7_stepNumber.2.1 39 = .ok (.isub, 1) := by decide +kernel
theorem d_X7_stepNumber_40 : decode mt_X7_stepNumber.2.1 40 = .ok (.iconst 4, 1) := by decide +kernel
theorem d_X7_stepNumber_41 : decode mt_X7_stepNumber.2.1 41 = .ok (.if_icmp .ge 27, 3) := by decide +kernel
theorem d_X7_stepNumber_44 : decode mt_X7_stepNumber.2.1 44 = .ok (.aload_n 0, 1) := by decide +kernel
theorem d_X7_stepNumber_45 : decode mt_X7_stepNumber.2.1 45 = .ok (.aload_n 0, 1) := by decide +kernel
theorem d_X7_stepNumber_46 : decode mt_X7_stepNumber.2.1 46 = .ok (.getfield 89, 3) := by decide +kernel
theorem d_X7_stepNumber_49 : decode mt_X7_stepNumber.2.1 49 = .ok (.bipush 10, 2) := by decide +kernel
theorem d_X7_stepNumber_51 : decode mt_X7_stepNumber.2.1 51 = .ok (.imul, 1) := by decide +kernel
theorem d_X7_stepNumber_52 : decode mt_X7_stepNumber.2.1 52 = .ok (.aload_n 0, 1) := by decide +kernel
theorem d_X7_stepNumber_53 : decode mt_X7_stepNumber.2.1 53 = .ok (.getfield 22, 3) := by decide +kernel
theorem d_X7_stepNumber_56 : decode mt_X7_stepNumber.2.1 56 = .ok (.aload_n 0, 1) := by decide +kernel
theorem d_X7_stepNumber_57 : decode mt_X7_stepNumber.2.1 57 = .ok (.getfield 48, 3) := by decide +kernel
theorem d_X7_stepNumber_60 : decode mt_X7_stepNumber.2.1 60 = .ok (.baload, 1) := by decide +kernel
theorem d_X7_stepNumber_61 : decode mt_X7_stepNumber.2.1 61 = .ok (.bipush 48, 2) := by decide +kernel
theorem d_X7_stepNumber_63 : decode mt_X7_stepNumber.2.1 63 = .ok (.isub, 1) := by decide +kernel
theorem d_X7_stepNumber_64 : decode mt_X7_stepNumber.2.1 64 = .ok (.iadd, 1) := by decide +kernel
theorem d_X7_stepNumber_65 : decode mt_X7_stepNumber.2.1 65 = .ok (.putfield 89, 3) := by decide +kernel
theorem d_X7_stepNumber_68 : decode mt_X7_stepNumber.2.1 68 = .ok (.aload_n 0, 1) := by decide +kernel
theorem d_X7_stepNumber_69 : decode mt_X7_stepNumber.2.1 69 = .ok (.dup, 1) := by decide +kernel
theorem d_X7_stepNumber_70 : decode mt_X7_stepNumber.2.1 70 = .ok (.getfield 48, 3) := by decide +kernel
theorem d_X7_stepNumber_73 : decode mt_X7_stepNumber.2.1 73 = .ok (.iconst 1, 1) := by decide +kernel
theorem d_X7_stepNumber_74 : decode mt_X7_stepNumber.2.1 74 = .ok (.iadd, 1) := by decide +kernel
theorem d_X7_stepNumber_75 : decode mt_X7_stepNumber.2.1 75 = .ok (.putfield 48, 3) := by decide +kernel
theorem d_X7_stepNumber_78 : decode mt_X7_stepNumber.2.1 78 = .ok (.goto (-73), 3) := by decide +kernel
theorem d_X7_stepNumber_81 : decode mt_X7_stepNumber.2.1 81 = .ok (.aload_n 0, 1) := by decide +kernel
theorem d_X7_stepNumber_82 : decode mt_X7_stepNumber.2.1 82 = .ok (.aload_n 0, 1) := by decide +kernel
theorem d_X7_stepNumber_83 : decode mt_X7_stepNumber.2.1 83 = .ok (.getfield 48, 3) := by decide +kernel
theorem d_X7_stepNumber_86 : decode mt_X7_stepNumber.2.1 86 = .ok (.aload_n 0, 1) := by decide +kernel
theorem d_X7_stepNumber_87 : decode mt_X7_stepNumber.2.1 87 = .ok (.getfield 54, 3) := by decide +kernel
theorem d_X7_stepNumber_90 : decode mt_X7_stepNumber.2.1 90 = .ok (.isub, 1) := by decide +kernel
theorem d_X7_stepNumber_91 : decode mt_X7_stepNumber.2.1 91 = .ok (.iconst 4, 1) := by decide +kernel
theorem d_X7_stepNumber_92 : decode mt_X7_stepNumber.2.1 92 = .ok (.if_icmp .le 7, 3) := by decide +kernel
theorem d_X7_stepNumber_95 : decode mt_X7_stepNumber.2.1 95 = .ok (.iconst 1, 1) := by decide +kernel
theorem d_X7_stepNumber_96 : decode mt_X7_stepNumber.2.1 96 = .ok (.goto 4, 3) := by decide +kernel
theorem d_X7_stepNumber_99 : decode mt_X7_stepNumber.2.1 99 = .ok (.iconst 3, 1) := by decide +kernel
theorem d_X7_stepNumber_100 : decode mt_X7_stepNumber.2.1 100 = .ok (.putfield 57, 3) := by decide +kernel
theorem d_X7_stepNumber_103 : decode mt_X7_stepNumber.2.1 103 = .ok (.return_, 1) := by decide +kernel
noncomputable def f_X7_stepNumber_b68 (k5 : (Int → Mem → Option (Mem))) (v0 : Int) (σ : Mem) : Option (Mem) :=
  (gf Sh σ 7 v0 3).bind fun x16 =>
  (pf Sh σ 7 v0 3 (w32 (x16 + 1))).bind fun σ17 =>
  k5 v0 σ17
theorem L_X7_stepNumber_b68 {sc : Nat × (Nat → Int32)} {o : Mem} {k5 : (Int → Mem → Option (Mem))} (hk5 : ∀ {v0 : Int} {σ : Mem}, k5 v0 σ = some o → E sc (Fm Sh none Sh o) mt_X7_stepNumber 2 Sh Sh 5 [(2, v0)] [] Sh σ) {v0 : Int} {σ : Mem} (h : f_X7_stepNumber_b68 k5 v0 σ = some o) : E sc (Fm Sh none Sh o) mt_X7_stepNumber 2 Sh Sh 68 [(2, v0)] [] Sh σ := by
  unfold f_X7_stepNumber_b68 at h
  refine E_aload_n d_X7_stepNumber_68 rfl (by decide) ?_
  refine E_dupT d_X7_stepNumber_69 (by decide) ?_
  refine E_get d_X7_stepNumber_70 okX7 fl_X7_48 ⟨by decide, rfl⟩ h (fun x16 h => ?_)
  refine E_iconst d_X7_stepNumber_73 (c32 rfl) ?_
  refine E_iadd d_X7_stepNumber_74 ?_
  refine E_put d_X7_stepNumber_75 okX7 fl_X7_48 ⟨by decide, rfl⟩ (Or.inl ⟨rfl, rfl⟩) (Or.inl rfl) h (fun σ17 h => ?_)
  refine E_goto (tgt := 5) d_X7_stepNumber_78 (by decide) ?_
  exact (hk5 h)
noncomputable def f_X7_stepNumber_b81 (v0 : Int) (σ : Mem) : Option (Mem) :=
  (gf Sh σ 7 v0 3).bind fun x18 =>
  (gf Sh σ 7 v0 5).bind fun x19 =>
  if w32 (x18 - x19) ≤ 4 then
    (pf Sh σ 7 v0 4 3).bind fun σ20 =>
    some σ20
  else
    (pf Sh σ 7 v0 4 1).bind fun σ21 =>
    some σ21
theorem L_X7_stepNumber_b81 {sc : Nat × (Nat → Int32)} {o : Mem} {v0 : Int} {σ : Mem} (h : f_X7_stepNumber_b81 v0 σ = some o) : E sc (Fm Sh none Sh o) mt_X7_stepNumber 2 Sh Sh 81 [(2, v0)] [] Sh σ := by
  unfold f_X7_stepNumber_b81 at h
  refine E_aload_n d_X7_stepNumber_81 rfl (by decide) ?_
  refine E_aload_n d_X7_stepNumber_82 rfl (by decide) ?_
  refine E_get d_X7_stepNumber_83 okX7 fl_X7_48 ⟨by decide, rfl⟩ h (fun x18 h => ?_)
  refine E_aload_n d_X7_stepNumber_86 rfl (by decide) ?_
  refine E_get d_X7_stepNumber_87 okX7 fl_X7_54 ⟨by decide, rfl⟩ h (fun x19 h => ?_)
  refine E_isub d_X7_stepNumber_90 ?_
  refine E_iconst d_X7_stepNumber_91 (c32 rfl) ?_
  refine E_icmp_le (tgt := 99) d_X7_stepNumber_92 (by decide) h (fun _ h => ?_) (fun _ h => ?_)
  · refine E_iconst d_X7_stepNumber_99 (c32 rfl) ?_
    refine E_put d_X7_stepNumber_100 okX7 fl_X7_57 ⟨by decide, rfl⟩ (Or.inl ⟨rfl, rfl⟩) (Or.inl rfl) h (fun σ20 h => ?_)
    cases h
    exact E_vret d_X7_stepNumber_103 rfl
  · refine E_iconst d_X7_stepNumber_95 (c32 rfl) ?_
    refine E_goto (tgt := 100) d_X7_stepNumber_96 (by decide) ?_
    refine E_put d_X7_stepNumber_100 okX7 fl_X7_57 ⟨by decide, rfl⟩ (Or.inl ⟨rfl, rfl⟩) (Or.inl rfl) h (fun σ21 h => ?_)
    cases h
    exact E_vret d_X7_stepNumber_103 rfl
noncomputable def f_X7_stepNumber_b5 (k5 : (Int → Mem → Option (Mem))) (v0 : Int) (σ : Mem) : Option (Mem) :=
  (gf Sh σ 7 v0 3).bind fun x2 =>
  (gf Sh σ 7 v0 2).bind fun x3 =>
  if x3 ≤ x2 then
    f_X7_stepNumber_b81 v0 σ
  else
    (gf Sh σ 7 v0 0).bind fun x4 =>
    (gf Sh σ 7 v0 3).bind fun x5 =>
    (al Sh σ 22 x4 x5).bind fun x6 =>
    (f_X7_isDigit x6 σ).bind fun r7 =>
    if r7 = 0 then
      f_X7_stepNumber_b81 v0 σ
    else
      (gf Sh σ 7 v0 3).bind fun x9 =>
      (gf Sh σ 7 v0 5).bind fun x10 =>
      if 4 ≤ w32 (x9 - x10) then
        f_X7_stepNumber_b68 k5 v0 σ
      else
        (gf Sh σ 7 v0 8).bind fun x11 =>
        (gf Sh σ 7 v0 0).bind fun x12 =>
        (gf Sh σ 7 v0 3).bind fun x13 =>
        (al Sh σ 22 x12 x13).bind fun x14 =>
        (pf Sh σ 7 v0 8 (w32 (w32 (x11 * 10) + (w32 (x14 - 48))))).bind fun σ15 =>
        f_X7_stepNumber_b68 k5 v0 σ15
theorem L_X7_stepNumber_b5 {sc : Nat × (Nat → Int32)} {o : Mem} {k5 : (Int → Mem → Option (Mem))} (hk5 : ∀ {v0 : Int} {σ : Mem}, k5 v0 σ = some o → E sc (Fm Sh none Sh o) mt_X7_stepNumber 2 Sh Sh 5 [(2, v0)] [] Sh σ) {v0 : Int} {σ : Mem} (h : f_X7_stepNumber_b5 k5 v0 σ = some o) : E sc (Fm Sh none Sh o) mt_X7_stepNumber 2 Sh Sh 5 [(2, v0)] [] Sh σ := by
  unfold f_X7_stepNumber_b5 at h
  refine E_aload_n d_X7_stepNumber_5 rfl (by decide) ?_
  refine E_get d_X7_stepNumber_6 okX7 fl_X7_48 ⟨by decide, rfl⟩ h (fun x2 h => ?_)
  refine E_aload_n d_X7_stepNumber_9 rfl (by decide) ?_
  refine E_get d_X7_stepNumber_10 okX7 fl_X7_46 ⟨by decide, rfl⟩ h (fun x3 h => ?_)
  refine E_icmp_ge (tgt := 81) d_X7_stepNumber_13 (by decide) h (fun _ h => ?_) (fun _ h => ?_)
  · exact (L_X7_stepNumber_b81 h)
  · refine E_aload_n d_X7_stepNumber_16 rfl (by decide) ?_
    refine E_get d_X7_stepNumber_17 okX7 fl_X7_22 ⟨by decide, rfl⟩ h (fun x4 h => ?_)
    refine E_aload_n d_X7_stepNumber_20 rfl (by decide) ?_
    refine E_get d_X7_stepNumber_21 okX7 fl_X7_48 ⟨by decide, rfl⟩ h (fun x5 h => ?_)
    refine E_baload d_X7_stepNumber_24 (by decide : 22 = 22 ∨ 22 = 23) h (fun x6 h => ?_)
    refine bd h (fun r7 q8 h => ?_)
    refine E_cS (as := [(0, x6)]) (st := []) d_X7_stepNumber_25 mk_X7_isDigit nl_X7_67 (by omega) ⟨rfl, rfl, Nat.le_of_ble_eq_true rfl⟩ (L_X7_isDigit q8) ?_
    refine E_if_eq (tgt := 81) d_X7_stepNumber_28 (by decide) h (fun _ h => ?_) (fun _ h => ?_)
    · exact (L_X7_stepNumber_b81 h)
    · refine E_aload_n d_X7_stepNumber_31 rfl (by decide) ?_
      refine E_get d_X7_stepNumber_32 okX7 fl_X7_48 ⟨by decide, rfl⟩ h (fun x9 h => ?_)
      refine E_aload_n d_X7_stepNumber_35 rfl (by decide) ?_
      refine E_get d_X7_stepNumber_36 okX7 fl_X7_54 ⟨by decide, rfl⟩ h (fun x10 h => ?_)
      refine E_isub d_X7_stepNumber_39 ?_
      refine E_iconst d_X7_stepNumber_40 (c32 rfl) ?_
      refine E_icmp_ge (tgt := 68) d_X7_stepNumber_41 (by decide) h (fun _ h => ?_) (fun _ h => ?_)
      · exact (L_X7_stepNumber_b68 hk5 h)
      · refine E_aload_n d_X7_stepNumber_44 rfl (by decide) ?_
        refine E_aload_n d_X7_stepNumber_45 rfl (by decide) ?_
        refine E_get d_X7_stepNumber_46 okX7 fl_X7_89 ⟨by decide, rfl⟩ h (fun x11 h => ?_)
        refine E_bipush d_X7_stepNumber_49 (c8 rfl) ?_
        refine E_imul d_X7_stepNumber_51 ?_
        refine E_aload_n d_X7_stepNumber_52 rfl (by decide) ?_
        refine E_get d_X7_stepNumber_53 okX7 fl_X7_22 ⟨by decide, rfl⟩ h (fun x12 h => ?_)
        refine E_aload_n d_X7_stepNumber_56 rfl (by decide) ?_
        refine E_get d_X7_stepNumber_57 okX7 fl_X7_48 ⟨by decide, rfl⟩ h (fun x13 h => ?_)
        refine E_baload d_X7_stepNumber_60 (by decide : 22 = 22 ∨ 22 = 23) h (fun x14 h => ?_)
        refine E_bipush d_X7_stepNumber_61 (c8 rfl) ?_
        refine E_isub d_X7_stepNumber_63 ?_
        refine E_iadd d_X7_stepNumber_64 ?_
        refine E_put d_X7_stepNumber_65 okX7 fl_X7_89 ⟨by decide, rfl⟩ (Or.inl ⟨rfl, rfl⟩) (Or.inl rfl) h (fun σ15 h => ?_)
        exact (L_X7_stepNumber_b68 hk5 h)
noncomputable def f_X7_stepNumber_h5 (n : Nat) : Int → Mem → Option (Mem) := Nat.rec (motive := fun _ => Int → Mem → Option (Mem)) (fun _ _ => none) (fun _ ih => f_X7_stepNumber_b5 (ih)) n
theorem L_X7_stepNumber_h5 {sc : Nat × (Nat → Int32)} {o : Mem} : ∀ (n : Nat) {v0 : Int} {σ : Mem}, f_X7_stepNumber_h5 n v0 σ = some o → E sc (Fm Sh none Sh o) mt_X7_stepNumber 2 Sh Sh 5 [(2, v0)] [] Sh σ := by
  intro n
  induction n with
  | zero => intro v0 σ h; cases h
  | succ n ih => intro v0 σ h; exact L_X7_stepNumber_b5 (@ih) h
noncomputable def f_X7_stepNumber_b0 (v0 : Int) (σ : Mem) : Option (Mem) :=
  (pf Sh σ 7 v0 8 0).bind fun σ1 =>
  f_X7_stepNumber_h5 FU v0 σ1
theorem L_X7_stepNumber_b0 {sc : Nat × (Nat → Int32)} {o : Mem} {v0 : Int} {σ : Mem} (h : f_X7_stepNumber_b0 v0 σ = some o) : E sc (Fm Sh none Sh o) mt_X7_stepNumber 2 Sh Sh 0 [(2, v0)] [] Sh σ := by
  unfold f_X7_stepNumber_b0 at h
  refine E_aload_n d_X7_stepNumber_0 rfl (by decide) ?_
  refine E_iconst d_X7_stepNumber_1 (c32 rfl) ?_
  refine E_put d_X7_stepNumber_2 okX7 fl_X7_89 ⟨by decide, rfl⟩ (Or.inl ⟨rfl, rfl⟩) (Or.inl rfl) h (fun σ1 h => ?_)
  exact (L_X7_stepNumber_h5 FU h)
noncomputable def f_X7_stepNumber (v0 : Int) (σ : Mem) : Option (Mem) := if isO Sh 7 v0 = true then f_X7_stepNumber_b0 v0 σ else none
theorem L_X7_stepNumber {o : Mem} {v0 : Int} {σ : Mem} (h : f_X7_stepNumber v0 σ = some o) : (isO Sh 7 v0 = true ∧ Cn mt_X7_stepNumber 2 [(2, v0)] Sh σ none Sh o) := ⟨(ite_ok h).1, Cn_of mk_X7_stepNumber.1.2.2.1 (Nat.le_of_ble_eq_true rfl) (fun sc => L_X7_stepNumber_b0 (ite_ok h).2)⟩
theorem d_X7_stepSign_0 : decode mt_X7_stepSign.2.1 0 = .ok (.aload_n 0, 1) := by decide +kernel
theorem d_X7_stepSign_1 : decode mt_X7_stepSign.2.1 1 = .ok (.aload_n 0, 1) := by decide +kernel
theorem d_X7_stepSign_2 : decode mt_X7_stepSign.2.1 2 = .ok (.getfield 22, 3) := by decide +kernel
theorem d_X7_stepSign_5 : decode mt_X7_stepSign.2.1 5 = .ok (.aload_n 0, 1) := by decide +kernel
theorem d_X7_stepSign_6 : decode mt_X7_stepSign.2.1 6 = .ok (.getfield 54, 3) := by decide +kernel
theorem d_X7_stepSign_9 : decode mt_X7_stepSign.2.1 9 = .ok (.baload, 1) := by decide +kernel
theorem d_X7_stepSign_10 : decode mt_X7_stepSign.2.1 10 = .ok (.putfield 89, 3) := by decide +kernel
theorem d_X7_stepSign_13 : decode mt_X7_stepSign.2.1 13 = .ok (.aload_n 0, 1) := by decide +kernel
theorem d_X7_stepSign_14 : decode mt_X7_stepSign.2.1 14 = .ok (.dup, 1) := by decide +kernel
theorem d_X7_stepSign_15 : decode mt_X7_stepSign.2.1 15 = .ok (.getfield 48, 3) := by decide +kernel
theorem d_X7_stepSign_18 : decode mt_X7_stepSign.2.1 18 = .ok (.iconst 1, 1) := by decide +kernel
theorem d_X7_stepSign_19 : decode mt_X7_stepSign.2.1 19 = .ok (.iadd, 1) := by decide +kernel
theorem d_X7_stepSign_20 : decode mt_X7_stepSign.2.1 20 = .ok (.putfield 48, 3) := by decide +kernel
theorem d_X7_stepSign_23 : decode mt_X7_stepSign.2.1 23 = .ok (.aload_n 0, 1) := by decide +kernel
theorem d_X7_stepSign_24 : decode mt_X7_stepSign.2.1 24 = .ok (.aload_n 0, 1) := by decide +kernel
theorem d_X7_stepSign_25 : decode mt_X7_stepSign.2.1 25 = .ok (.getfield 89, 3) := by decide +kernel
theorem d_X7_stepSign_28 : decode mt_X7_stepSign.2.1 28 = .ok (.bipush 59, 2) := by decide +kernel
theorem d_X7_stepSign_30 : decode mt_X7_stepSign.2.1 30 = .ok (.if_icmp .eq 30, 3) := by decide +kernel
theorem d_X7_stepSign_33 : decode mt_X7_stepSign.2.1 33 = .ok (.aload_n 0, 1) := by decide +kernel
theorem d_X7_stepSign_34 : decode mt_X7_stepSign.2.1 34 = .ok (.getfield 89, 3) := by decide +kernel
theorem d_X7_stepSign_37 : decode mt_X7_stepSign.2.1 37 = .ok (.bipush 60, 2) := by decide +kernel
theorem d_X7_stepSign_39 : decode mt_X7_stepSign.2.1 39 = .ok (.if_icmp .eq 21, 3) := by decide +kernel
theorem d_X7_stepSign_42 : decode mt_X7_stepSign.2.1 42 = .ok (.aload_n 0, 1) := by decide +kernel
theorem d_X7_stepSign_43 : decode mt_X7_stepSign.2.1 43 = .ok (.getfield 89, 3) := by decide +kernel
theorem d_X7_stepSign_46 : decode mt_X7_stepSign.2.1 46 = .ok (.bipush 62, 2) := by decide +kernel
theorem d_X7_stepSign_48 : decode mt_X7_stepSign.2.1 48 = .ok (.if_icmp .eq 12, 3) := by decide +kernel
theorem d_X7_stepSign_51 : decode mt_X7_stepSign.2.1 51 = .ok (.aload_n 0, 1) := by decide +kernel
theorem d_X7_stepSign_52 : decode mt_X7_stepSign.2.1 52 = .ok (.getfield 89, 3) := by decide +kernel
theorem d_X7_stepSign_55 : decode mt_X7_stepSign.2.1 55 = .ok (.bipush 61, 2) := by decide +kernel
theorem d_X7_stepSign_57 : decode mt_X7_stepSign.2.1 57 = .ok (.if_icmp .ne 7, 3) := by decide +kernel
theorem d_X7_stepSign_60 : decode mt_X7_stepSign.2.1 60 = .ok (.iconst 4, 1) := by decide +kernel
theorem d_X7_stepSign_61 : decode mt_X7_stepSign.2.1 61 = .ok (.goto 4, 3) := by decide +kernel
theorem d_X7_stepSign_64 : decode mt_X7_stepSign.2.1 64 = .ok (.iconst 1, 1) := by decide +kernel
theorem d_X7_stepSign_65 : decode mt_X7_stepSign.2.1 65 = .ok (.putfield 57, 3) := by decide +kernel
theorem d_X7_stepSign_68 : decode mt_X7_stepSign.2.1 68 = .ok (.return_, 1) := by decide +kernel
noncomputable def f_X7_stepSign_b60 (s0 : Int) (σ : Mem) : Option (Mem) :=
  (pf Sh σ 7 s0 4 4).bind fun σ12 =>
  some σ12
theorem L_X7_stepSign_b60 {sc : Nat × (Nat → Int32)} {o : Mem} {s0 : Int} {σ : Mem} (h : f_X7_stepSign_b60 s0 σ = some o) : E sc (Fm Sh none Sh o) mt_X7_stepSign 1 Sh Sh 60 [(9, 0)] [(2, s0)] Sh σ := by
  unfold f_X7_stepSign_b60 at h
  refine E_iconst d_X7_stepSign_60 (c32 rfl) ?_
  refine E_goto (tgt := 65) d_X7_stepSign_61 (by decide) ?_
  refine E_put d_X7_stepSign_65 okX7 fl_X7_57 ⟨by decide, rfl⟩ (Or.inl ⟨rfl, rfl⟩) (Or.inl rfl) h (fun σ12 h => ?_)
  cases h
  exact E_vret d_X7_stepSign_68 rfl
noncomputable def f_X7_stepSign_b0 (v0 : Int) (σ : Mem) : Option (Mem) :=
  (gf Sh σ 7 v0 0).bind fun x1 =>
  (gf Sh σ 7 v0 5).bind fun x2 =>
  (al Sh σ 22 x1 x2).bind fun x3 =>
  (pf Sh σ 7 v0 8 x3).bind fun σ4 =>
  (gf Sh σ4 7 v0 3).bind fun x5 =>
  (pf Sh σ4 7 v0 3 (w32 (x5 + 1))).bind fun σ6 =>
  (gf Sh σ6 7 v0 8).bind fun x7 =>
  if x7 = 59 then
    f_X7_stepSign_b60 v0 σ6
  else
    (gf Sh σ6 7 v0 8).bind fun x8 =>
    if x8 = 60 then
      f_X7_stepSign_b60 v0 σ6
    else
      (gf Sh σ6 7 v0 8).bind fun x9 =>
      if x9 = 62 then
        f_X7_stepSign_b60 v0 σ6
      else
        (gf Sh σ6 7 v0 8).bind fun x10 =>
        if x10 = 61 then
          f_X7_stepSign_b60 v0 σ6
        else
          (pf Sh σ6 7 v0 4 1).bind fun σ11 =>
          some σ11
theorem L_X7_stepSign_b0 {sc : Nat × (Nat → Int32)} {o : Mem} {v0 : Int} {σ : Mem} (h : f_X7_stepSign_b0 v0 σ = some o) : E sc (Fm Sh none Sh o) mt_X7_stepSign 1 Sh Sh 0 [(2, v0)] [] Sh σ := by
  unfold f_X7_stepSign_b0 at h
  refine E_aload_n d_X7_stepSign_0 rfl (by decide) ?_
  refine E_aload_n d_X7_stepSign_1 rfl (by decide) ?_
  refine E_get d_X7_stepSign_2 okX7 fl_X7_22 ⟨by decide, rfl⟩ h (fun x1 h => ?_)
  refine E_aload_n d_X7_stepSign_5 rfl (by decide) ?_
  refine E_get d_X7_stepSign_6 okX7 fl_X7_54 ⟨by decide, rfl⟩ h (fun x2 h => ?_)
  refine E_baload d_X7_stepSign_9 (by decide : 22 = 22 ∨ 22 = 23) h (fun x3 h => ?_)
  refine E_put d_X7_stepSign_10 okX7 fl_X7_89 ⟨by decide, rfl⟩ (Or.inl ⟨rfl, rfl⟩) (Or.inl rfl) h (fun σ4 h => ?_)
  refine E_aload_n d_X7_stepSign_13 rfl (by decide) ?_
  refine E_dupT d_X7_stepSign_14 (by decide) ?_
  refine E_get d_X7_stepSign_15 okX7 fl_X7_48 ⟨by decide, rfl⟩ h (fun x5 h => ?_)
  refine E_iconst d_X7_stepSign_18 (c32 rfl) ?_
  refine E_iadd d_X7_stepSign_19 ?_
  refine E_put d_X7_stepSign_20 okX7 fl_X7_48 ⟨by decide, rfl⟩ (Or.inl ⟨rfl, rfl⟩) (Or.inl rfl) h (fun σ6 h => ?_)
  refine E_aload_n d_X7_stepSign_23 rfl (by decide) ?_
  refine E_aload_n d_X7_stepSign_24 rfl (by decide) ?_
  refine E_get d_X7_stepSign_25 okX7 fl_X7_89 ⟨by decide, rfl⟩ h (fun x7 h => ?_)
  refine E_bipush d_X7_stepSign_28 (c8 rfl) ?_
  refine E_icmp_eq (tgt := 60) d_X7_stepSign_30 (by decide) h (fun _ h => ?_) (fun _ h => ?_)
  · exact E_weak (ls' := [(9, 0)]) ⟨Or.inl rfl, trivial⟩ (L_X7_stepSign_b60 h)
  · refine E_aload_n d_X7_stepSign_33 rfl (by decide) ?_
    refine E_get d_X7_stepSign_34 okX7 fl_X7_89 ⟨by decide, rfl⟩ h (fun x8 h => ?_)
    refine E_bipush d_X7_stepSign_37 (c8 rfl) ?_
    refine E_icmp_eq (tgt := 60) d_X7_stepSign_39 (by decide) h (fun _ h => ?_) (fun _ h => ?_)
    · exact E_weak (ls' := [(9, 0)]) ⟨Or.inl rfl, trivial⟩ (L_X7_stepSign_b60 h)
    · refine E_aload_n d_X7_stepSign_42 rfl (by decide) ?_
      refine E_get d_X7_stepSign_43 okX7 fl_X7_89 ⟨by decide, rfl⟩ h (fun x9 h => ?_)
      refine E_bipush d_X7_stepSign_46 (c8 rfl) ?_
      refine E_icmp_eq (tgt := 60) d_X7_stepSign_48 (by decide) h (fun _ h => ?_) (fun _ h => ?_)
      · exact E_weak (ls' := [(9, 0)]) ⟨Or.inl rfl, trivial⟩ (L_X7_stepSign_b60 h)
      · refine E_aload_n d_X7_stepSign_51 rfl (by decide) ?_
        refine E_get d_X7_stepSign_52 okX7 fl_X7_89 ⟨by decide, rfl⟩ h (fun x10 h => ?_)
        refine E_bipush d_X7_stepSign_55 (c8 rfl) ?_
        refine E_icmp_ne (tgt := 64) d_X7_stepSign_57 (by decide) h (fun _ h => ?_) (fun _ h => ?_)
        · exact E_weak (ls' := [(9, 0)]) ⟨Or.inl rfl, trivial⟩ (L_X7_stepSign_b60 h)
        · refine E_iconst d_X7_stepSign_64 (c32 rfl) ?_
          refine E_put d_X7_stepSign_65 okX7 fl_X7_57 ⟨by decide, rfl⟩ (Or.inl ⟨rfl, rfl⟩) (Or.inl rfl) h (fun σ11 h => ?_)
          cases h
          exact E_vret d_X7_stepSign_68 rfl
noncomputable def f_X7_stepSign (v0 : Int) (σ : Mem) : Option (Mem) := if isO Sh 7 v0 = true then f_X7_stepSign_b0 v0 σ else none
theorem L_X7_stepSign {o : Mem} {v0 : Int} {σ : Mem} (h : f_X7_stepSign v0 σ = some o) : (isO Sh 7 v0 = true ∧ Cn mt_X7_stepSign 1 [(2, v0)] Sh σ none Sh o) := ⟨(ite_ok h).1, Cn_of mk_X7_stepSign.1.2.2.1 (Nat.le_of_ble_eq_true rfl) (fun sc => L_X7_stepSign_b0 (ite_ok h).2)⟩
theorem d_X7_step_0 : decode mt_X7_step.2.1 0 = .ok (.aload_n 0, 1) := by decide +kernel
theorem d_X7_step_1 : decode mt_X7_step.2.1 1 = .ok (.getfield 48, 3) := by decide +kernel
theorem d_X7_step_4 : decode mt_X7_step.2.1 4 = .ok (.aload_n 0, 1) := by decide +kernel
theorem d_X7_step_5 : decode mt_X7_step.2.1 5 = .ok (.getfield 46, 3) := by decide +kernel
theorem d_X7_step_8 : decode mt_X7_step.2.1 8 = .ok (.if_icmp .ge 44, 3) := by decide +kernel
theorem d_X7_step_11 : decode mt_X7_step.2.1 11 = .ok (.aload_n 0, 1) := by decide +kernel
theorem d_X7_step_12 : decode mt_X7_step.2.1 12 = .ok (.getfield 22, 3) := by decide +kernel
theorem d_X7_step_15 : decode mt_X7_step.2.1 15 = .ok (.aload_n 0, 1) := by decide +kernel
theorem d_X7_step_16 : decode mt_X7_step.2.1 16 = .ok (.getfield 48, 3) := by decide +kernel
theorem d_X7_step_19 : decode mt_X7_step.2.1 19 = .ok (.baload, 1) := by decide +kernel
theorem d_X7_step_20 : decode mt_X7_step.2.1 20 = .ok (.bipush 10, 2) := by decide +kernel
theorem d_X7_step_22 : decode mt_X7_step.2.1 22 = .ok (.if_icmp .eq 17, 3) := by decide +kernel
theorem d_X7_step_25 : decode mt_X7_step.2.1 25 = .ok (.aload_n 0, 1) := by decide +kernel
theorem d_X7_step_26 : decode mt_X7_step.2.1 26 = .ok (.getfield 22, 3) := by decide +kernel
theorem d_X7_step_29 : decode mt_X7_step.2.1 29 = .ok (.aload_n 0, 1) := by decide +kernel
theorem d_X7_step_30 : decode mt_X7_step.2.1 30 = .ok (.getfield 48, 3) := by decide +kernel
theorem d_X7_step_33 : decode mt_X7_step.2.1 33 = .ok (.baload, 1) := by decide +kernel
theorem d_X7_step_34 : decode mt_X7_step.2.1 34 = .ok (.bipush 32, 2) := by decide +kernel
theorem d_X7_step_36 : decode mt_X7_step.2.1 36 = .ok (.if_icmp .ne 16, 3) := by decide +kernel
theorem d_X7_step_39 : decode mt_X7_step.2.1 39 = .ok (.aload_n 0, 1) := by decide +kernel
theorem d_X7_step_40 : decode mt_X7_step.2.1 40 = .ok (.dup, 1) := by decide +kernel
theorem d_X7_step_41 : decode mt_X7_step.2.1 41 = .ok (.getfield 48, 3) := by decide +kernel
theorem d_X7_step_44 : decode mt_X7_step.2.1 44 = .ok (.iconst 1, 1) := by decide +kernel
theorem d_X7_step_45 : decode mt_X7_step.2.1 45 = .ok (.iadd, 1) := by decide +kernel
theorem d_X7_step_46 : decode mt_X7_step.2.1 46 = .ok (.putfield 48, 3) := by decide +kernel
theorem d_X7_step_49 : decode mt_X7_step.2.1 49 = .ok (.goto (-49), 3) := by decide +kernel
theorem d_X7_step_52 : decode mt_X7_step.2.1 52 = .ok (.aload_n 0, 1) := by decide +kernel
theorem d_X7_step_53 : decode mt_X7_step.2.1 53 = .ok (.aload_n 0, 1) := by decide +kernel
theorem d_X7_step_54 : decode mt_X7_step.2.1 54 = .ok (.getfield 48, 3) := by decide +kernel
theorem d_X7_step_57 : decode mt_X7_step.2.1 57 = .ok (.putfield 54, 3) := by decide +kernel
theorem d_X7_step_60 : decode mt_X7_step.2.1 60 = .ok (.aload_n 0, 1) := by decide +kernel
theorem d_X7_step_61 : decode mt_X7_step.2.1 61 = .ok (.getfield 54, 3) := by decide +kernel
theorem d_X7_step_64 : decode mt_X7_step.2.1 64 = .ok (.aload_n 0, 1) := by decide +kernel
theorem d_X7_step_65 : decode mt_X7_step.2.1 65 = .ok (.getfield 46, 3) := by decide +kernel
theorem d_X7_step_68 : decode mt_X7_step.2.1 68 = .ok (.if_icmp .lt 11, 3) := by decide +kernel
theorem d_X7_step_71 : decode mt_X7_step.2.1 71 = .ok (.aload_n 0, 1) := by decide +kernel
theorem d_X7_step_72 : decode mt_X7_step.2.1 72 = .ok (.iconst 0, 1) := by decide +kernel
theorem d_X7_step_73 : decode mt_X7_step.2.1 73 = .ok (.putfield 57, 3) := by decide +kernel
theorem d_X7_step_76 : decode mt_X7_step.2.1 76 = .ok (.goto 51, 3) := by decide +kernel
theorem d_X7_step_79 : decode mt_X7_step.2.1 79 = .ok (.aload_n 0, 1) := by decide +kernel
theorem d_X7_step_80 : decode mt_X7_step.2.1 80 = .ok (.getfield 22, 3) := by decide +kernel
theorem d_X7_step_83 : decode mt_X7_step.2.1 83 = .ok (.aload_n 0, 1) := by decide +kernel
theorem d_X7_step_84 : decode mt_X7_step.2.1 84 = .ok (.getfield 54, 3) := by decide +kernel
theorem d_X7_step_87 : decode mt_X7_step.2.1 87 = .ok (.baload, 1) := by decide +kernel
theorem d_X7_step_88 : decode mt_X7_step.2.1 88 = .ok (.invokestatic 60, 3) := by decide +kernel
theorem d_X7_step_91 : decode mt_X7_step.2.1 91 = .ok (.ifCond .eq 10, 3) := by decide +kernel
theorem d_X7_step_94 : decode mt_X7_step.2.1 94 = .ok (.aload_n 0, 1) := by decide +kernel
theorem d_X7_step_95 : decode mt_X7_step.2.1 95 = .ok (.invokevirtual 64, 3) := by decide +kernel
theorem d_X7_step_98 : decode mt_X7_step.2.1 98 = .ok (.goto 29, 3) := by decide +kernel
theorem d_X7_step_101 : decode mt_X7_step.2.1 101 = .ok (.aload_n 0, 1) := by decide +kernel
theorem d_X7_step_102 : decode mt_X7_step.2.1 102 = .ok (.getfield 22, 3) := by decide +kernel
theorem d_X7_step_105 : decode mt_X7_step.2.1 105 = .ok (.aload_n 0, 1) := by decide +kernel
theorem d_X7_step_106 : decode mt_X7_step.2.1 106 = .ok (.getfield 54, 3) := by decide +kernel
theorem d_X7_step_109 : decode mt_X7_step.2.1 109 = .ok (.baload, 1) := by decide +kernel
theorem d_X7_step_110 : decode mt_X7_step.2.1 110 = .ok (.invokestatic 67, 3) := by decide +kernel
theorem d_X7_step_113 : decode mt_X7_step.2.1 113 = .ok (.ifCond .eq 10, 3) := by decide +kernel
theorem d_X7_step_116 : decode mt_X7_step.2.1 116 = .ok (.aload_n 0, 1) := by decide +kernel
theorem d_X7_step_117 : decode mt_X7_step.2.1 117 = .ok (.invokevirtual 70, 3) := by decide +kernel
theorem d_X7_step_120 : decode mt_X7_step.2.1 120 = .ok (.goto 7, 3) := by decide +kernel
theorem d_X7_step_123 : decode mt_X7_step.2.1 123 = .ok (.aload_n 0, 1) := by decide +kernel
theorem d_X7_step_124 : decode mt_X7_step.2.1 124 = .ok (.invokevirtual 73, 3) := by decide +kernel
theorem d_X7_step_127 : decode mt_X7_step.2.1 127 = .ok (.return_, 1) := by decide +kernel
noncomputable def f_X7_step_b39 (k0 : (Int → Mem → Option (Mem))) (v0 : Int) (σ : Mem) : Option (Mem) :=
  (gf Sh σ 7 v0 3).bind fun x30 =>
  (pf Sh σ 7 v0 3 (w32 (x30 + 1))).bind fun σ31 =>
  k0 v0 σ31
theorem L_X7_step_b39 {sc : Nat × (Nat → Int32)} {o : Mem} {k0 : (Int → Mem → Option (Mem))} (hk0 : ∀ {v0 : Int} {σ : Mem}, k0 v0 σ = some o → E sc (Fm Sh none Sh o) mt_X7_step 3 Sh Sh 0 [(2, v0)] [] Sh σ) {v0 : Int} {σ : Mem} (h : f_X7_step_b39 k0 v0 σ = some o) : E sc (Fm Sh none Sh o) mt_X7_step 3 Sh Sh 39 [(2, v0)] [] Sh σ := by
  unfold f_X7_step_b39 at h
  refine E_aload_n d_X7_step_39 rfl (by decide) ?_
  refine E_dupT d_X7_step_40 (by decide) ?_
  refine E_get d_X7_step_41 okX7 fl_X7_48 ⟨by decide, rfl⟩ h (fun x30 h => ?_)
  refine E_iconst d_X7_step_44 (c32 rfl) ?_
  refine E_iadd d_X7_step_45 ?_
  refine E_put d_X7_step_46 okX7 fl_X7_48 ⟨by decide, rfl⟩ (Or.inl ⟨rfl, rfl⟩) (Or.inl rfl) h (fun σ31 h => ?_)
  refine E_goto (tgt := 0) d_X7_step_49 (by decide) ?_
  exact (hk0 h)
noncomputable def f_X7_step_b52 (v0 : Int) (σ : Mem) : Option (Mem) :=
  (gf Sh σ 7 v0 3).bind fun x9 =>
  (pf Sh σ 7 v0 5 x9).bind fun σ10 =>
  (gf Sh σ10 7 v0 5).bind fun x11 =>
  (gf Sh σ10 7 v0 2).bind fun x12 =>
  if x11 < x12 then
    (gf Sh σ10 7 v0 0).bind fun x13 =>
    (gf Sh σ10 7 v0 5).bind fun x14 =>
    (al Sh σ10 22 x13 x14).bind fun x15 =>
    (f_X7_isLetter x15 σ10).bind fun r16 =>
    if r16 = 0 then
      (gf Sh σ10 7 v0 0).bind fun x18 =>
      (gf Sh σ10 7 v0 5).bind fun x19 =>
      (al Sh σ10 22 x18 x19).bind fun x20 =>
      (f_X7_isDigit x20 σ10).bind fun r21 =>
      if r21 = 0 then
        (f_X7_stepSign v0 σ10).bind fun r23 =>
        some r23
      else
        (f_X7_stepNumber v0 σ10).bind fun r25 =>
        some r25
    else
      (f_X7_stepWord v0 σ10).bind fun r27 =>
      some r27
  else
    (pf Sh σ10 7 v0 4 0).bind fun σ29 =>
    some σ29
theorem L_X7_step_b52 {sc : Nat × (Nat → Int32)} {o : Mem} {v0 : Int} {σ : Mem} (h : f_X7_step_b52 v0 σ = some o) : E sc (Fm Sh none Sh o) mt_X7_step 3 Sh Sh 52 [(2, v0)] [] Sh σ := by
  unfold f_X7_step_b52 at h
  refine E_aload_n d_X7_step_52 rfl (by decide) ?_
  refine E_aload_n d_X7_step_53 rfl (by decide) ?_
  refine E_get d_X7_step_54 okX7 fl_X7_48 ⟨by decide, rfl⟩ h (fun x9 h => ?_)
  refine E_put d_X7_step_57 okX7 fl_X7_54 ⟨by decide, rfl⟩ (Or.inl ⟨rfl, rfl⟩) (Or.inl rfl) h (fun σ10 h => ?_)
  refine E_aload_n d_X7_step_60 rfl (by decide) ?_
  refine E_get d_X7_step_61 okX7 fl_X7_54 ⟨by decide, rfl⟩ h (fun x11 h => ?_)
  refine E_aload_n d_X7_step_64 rfl (by decide) ?_
  refine E_get d_X7_step_65 okX7 fl_X7_46 ⟨by decide, rfl⟩ h (fun x12 h => ?_)
  refine E_icmp_lt (tgt := 79) d_X7_step_68 (by decide) h (fun _ h => ?_) (fun _ h => ?_)
  · refine E_aload_n d_X7_step_79 rfl (by decide) ?_
    refine E_get d_X7_step_80 okX7 fl_X7_22 ⟨by decide, rfl⟩ h (fun x13 h => ?_)
    refine E_aload_n d_X7_step_83 rfl (by decide) ?_
    refine E_get d_X7_step_84 okX7 fl_X7_54 ⟨by decide, rfl⟩ h (fun x14 h => ?_)
    refine E_baload d_X7_step_87 (by decide : 22 = 22 ∨ 22 = 23) h (fun x15 h => ?_)
    refine bd h (fun r16 q17 h => ?_)
    refine E_cS (as := [(0, x15)]) (st := []) d_X7_step_88 mk_X7_isLetter nl_X7_60 (by omega) ⟨rfl, rfl, Nat.le_of_ble_eq_true rfl⟩ (L_X7_isLetter q17) ?_
    refine E_if_eq (tgt := 101) d_X7_step_91 (by decide) h (fun _ h => ?_) (fun _ h => ?_)
    · refine E_aload_n d_X7_step_101 rfl (by decide) ?_
      refine E_get d_X7_step_102 okX7 fl_X7_22 ⟨by decide, rfl⟩ h (fun x18 h => ?_)
      refine E_aload_n d_X7_step_105 rfl (by decide) ?_
      refine E_get d_X7_step_106 okX7 fl_X7_54 ⟨by decide, rfl⟩ h (fun x19 h => ?_)
      refine E_baload d_X7_step_109 (by decide : 22 = 22 ∨ 22 = 23) h (fun x20 h => ?_)
      refine bd h (fun r21 q22 h => ?_)
      refine E_cS (as := [(0, x20)]) (st := []) d_X7_step_110 mk_X7_isDigit nl_X7_67 (by omega) ⟨rfl, rfl, Nat.le_of_ble_eq_true rfl⟩ (L_X7_isDigit q22) ?_
      refine E_if_eq (tgt := 123) d_X7_step_113 (by decide) h (fun _ h => ?_) (fun _ h => ?_)
      · refine E_aload_n d_X7_step_123 rfl (by decide) ?_
        refine bd h (fun r23 q24 h => ?_)
        refine E_cVv (as := []) (st := []) (a := v0) d_X7_step_124 mk_X7_stepSign nl_X7_73 (by omega) ⟨rfl, rfl, Nat.le_of_ble_eq_true rfl⟩ okX7 rfl (L_X7_stepSign q24) ?_
        cases h
        exact E_vret d_X7_step_127 rfl
      · refine E_aload_n d_X7_step_116 rfl (by decide) ?_
        refine bd h (fun r25 q26 h => ?_)
        refine E_cVv (as := []) (st := []) (a := v0) d_X7_step_117 mk_X7_stepNumber nl_X7_70 (by omega) ⟨rfl, rfl, Nat.le_of_ble_eq_true rfl⟩ okX7 rfl (L_X7_stepNumber q26) ?_
        refine E_goto (tgt := 127) d_X7_step_120 (by decide) ?_
        cases h
        exact E_vret d_X7_step_127 rfl
    · refine E_aload_n d_X7_step_94 rfl (by decide) ?_
      refine bd h (fun r27 q28 h => ?_)
      refine E_cVv (as := []) (st := []) (a := v0) d_X7_step_95 mk_X7_stepWord nl_X7_64 (by omega) ⟨rfl, rfl, Nat.le_of_ble_eq_true rfl⟩ okX7 rfl (L_X7_stepWord q28) ?_
      refine E_goto (tgt := 127) d_X7_step_98 (by decide) ?_
      cases h
      exact E_vret d_X7_step_127 rfl
  · refine E_aload_n d_X7_step_71 rfl (by decide) ?_
    refine E_iconst d_X7_step_72 (c32 rfl) ?_
    refine E_put d_X7_step_73 okX7 fl_X7_57 ⟨by decide, rfl⟩ (Or.inl ⟨rfl, rfl⟩) (Or.inl rfl) h (fun σ29 h => ?_)
    refine E_goto (tgt := 127) d_X7_step_76 (by decide) ?_
    cases h
    exact E_vret d_X7_step_127 rfl
noncomputable def f_X7_step_b0 (k0 : (Int → Mem → Option (Mem))) (v0 : Int) (σ : Mem) : Option (Mem) :=
  (gf Sh σ 7 v0 3).bind fun x1 =>
  (gf Sh σ 7 v0 2).bind fun x2 =>
  if x2 ≤ x1 then
    f_X7_step_b52 v0 σ
  else
    (gf Sh σ 7 v0 0).bind fun x3 =>
    (gf Sh σ 7 v0 3).bind fun x4 =>
    (al Sh σ 22 x3 x4).bind fun x5 =>
    if x5 = 10 then
      f_X7_step_b39 k0 v0 σ
    else
      (gf Sh σ 7 v0 0).bind fun x6 =>
      (gf Sh σ 7 v0 3).bind fun x7 =>
      (al Sh σ 22 x6 x7).bind fun x8 =>
      if x8 = 32 then
        f_X7_step_b39 k0 v0 σ
      else
        f_X7_step_b52 v0 σ
theorem L_X7_step_b0 {sc : Nat × (Nat → Int32)} {o : Mem} {k0 : (Int → Mem → Option (Mem))} (hk0 : ∀ {v0 : Int} {σ : Mem}, k0 v0 σ = some o → E sc (Fm Sh none Sh o) mt_X7_step 3 Sh Sh 0 [(2, v0)] [] Sh σ) {v0 : Int} {σ : Mem} (h : f_X7_step_b0 k0 v0 σ = some o) : E sc (Fm Sh none Sh o) mt_X7_step 3 Sh Sh 0 [(2, v0)] [] Sh σ := by
  unfold f_X7_step_b0 at h
  refine E_aload_n d_X7_step_0 rfl (by decide) ?_
  refine E_get d_X7_step_1 okX7 fl_X7_48 ⟨by decide, rfl⟩ h (fun x1 h => ?_)
  refine E_aload_n d_X7_step_4 rfl (by decide) ?_
  refine E_get d_X7_step_5 okX7 fl_X7_46 ⟨by decide, rfl⟩ h (fun x2 h => ?_)
  refine E_icmp_ge (tgt := 52) d_X7_step_8 (by decide) h (fun _ h => ?_) (fun _ h => ?_)
  · exact (L_X7_step_b52 h)
  · refine E_aload_n d_X7_step_11 rfl (by decide) ?_
    refine E_get d_X7_step_12 okX7 fl_X7_22 ⟨by decide, rfl⟩ h (fun x3 h => ?_)
    refine E_aload_n d_X7_step_15 rfl (by decide) ?_
    refine E_get d_X7_step_16 okX7 fl_X7_48 ⟨by decide, rfl⟩ h (fun x4 h => ?_)
    refine E_baload d_X7_step_19 (by decide : 22 = 22 ∨ 22 = 23) h (fun x5 h => ?_)
    refine E_bipush d_X7_step_20 (c8 rfl) ?_
    refine E_icmp_eq (tgt := 39) d_X7_step_22 (by decide) h (fun _ h => ?_) (fun _ h => ?_)
    · exact (L_X7_step_b39 hk0 h)
    · refine E_aload_n d_X7_step_25 rfl (by decide) ?_
      refine E_get d_X7_step_26 okX7 fl_X7_22 ⟨by decide, rfl⟩ h (fun x6 h => ?_)
      refine E_aload_n d_X7_step_29 rfl (by decide) ?_
      refine E_get d_X7_step_30 okX7 fl_X7_48 ⟨by decide, rfl⟩ h (fun x7 h => ?_)
      refine E_baload d_X7_step_33 (by decide : 22 = 22 ∨ 22 = 23) h (fun x8 h => ?_)
      refine E_bipush d_X7_step_34 (c8 rfl) ?_
      refine E_icmp_ne (tgt := 52) d_X7_step_36 (by decide) h (fun _ h => ?_) (fun _ h => ?_)
      · exact (L_X7_step_b39 hk0 h)
      · exact (L_X7_step_b52 h)
noncomputable def f_X7_step_h0 (n : Nat) : Int → Mem → Option (Mem) := Nat.rec (motive := fun _ => Int → Mem → Option (Mem)) (fun _ _ => none) (fun _ ih => f_X7_step_b0 (ih)) n
theorem L_X7_step_h0 {sc : Nat × (Nat → Int32)} {o : Mem} : ∀ (n : Nat) {v0 : Int} {σ : Mem}, f_X7_step_h0 n v0 σ = some o → E sc (Fm Sh none Sh o) mt_X7_step 3 Sh Sh 0 [(2, v0)] [] Sh σ := by
  intro n
  induction n with
  | zero => intro v0 σ h; cases h
  | succ n ih => intro v0 σ h; exact L_X7_step_b0 (@ih) h
noncomputable def f_X7_step (v0 : Int) (σ : Mem) : Option (Mem) := if isO Sh 7 v0 = true then f_X7_step_h0 FU v0 σ else none
theorem L_X7_step {o : Mem} {v0 : Int} {σ : Mem} (h : f_X7_step v0 σ = some o) : (isO Sh 7 v0 = true ∧ Cn mt_X7_step 3 [(2, v0)] Sh σ none Sh o) := ⟨(ite_ok h).1, Cn_of mk_X7_step.1.2.2.1 (Nat.le_of_ble_eq_true rfl) (fun sc => L_X7_step_h0 FU (ite_ok h).2)⟩
theorem d_X7_begin_0 : decode mt_X7_begin.2.1 0 = .ok (.aload_n 0, 1) := by decide +kernel
theorem d_X7_begin_1 : decode mt_X7_begin.2.1 1 = .ok (.iload_n 1, 1) := by decide +kernel
theorem d_X7_begin_2 : decode mt_X7_begin.2.1 2 = .ok (.aload_n 0, 1) := by decide +kernel
theorem d_X7_begin_3 : decode mt_X7_begin.2.1 3 = .ok (.getfield 22, 3) := by decide +kernel
theorem d_X7_begin_6 : decode mt_X7_begin.2.1 6 = .ok (.arraylength, 1) := by decide +kernel
theorem d_X7_begin_7 : decode mt_X7_begin.2.1 7 = .ok (.invokestatic 40, 3) := by decide +kernel
theorem d_X7_begin_10 : decode mt_X7_begin.2.1 10 = .ok (.putfield 46, 3) := by decide +kernel
theorem d_X7_begin_13 : decode mt_X7_begin.2.1 13 = .ok (.aload_n 0, 1) := by decide +kernel
theorem d_X7_begin_14 : decode mt_X7_begin.2.1 14 = .ok (.iconst 0, 1) := by decide +kernel
theorem d_X7_begin_15 : decode mt_X7_begin.2.1 15 = .ok (.putfield 48, 3) := by decide +kernel
theorem d_X7_begin_18 : decode mt_X7_begin.2.1 18 = .ok (.aload_n 0, 1) := by decide +kernel
theorem d_X7_begin_19 : decode mt_X7_begin.2.1 19 = .ok (.iconst 0, 1) := by decide +kernel
theorem d_X7_begin_20 : decode mt_X7_begin.2.1 20 = .ok (.putfield 15, 3) := by decide +kernel
theorem d_X7_begin_23 : decode mt_X7_begin.2.1 23 = .ok (.aload_n 0, 1) := by decide +kernel
theorem d_X7_begin_24 : decode mt_X7_begin.2.1 24 = .ok (.iconst (-1), 1) := by decide +kernel
theorem d_X7_begin_25 : decode mt_X7_begin.2.1 25 = .ok (.putfield 19, 3) := by decide +kernel
theorem d_X7_begin_28 : decode mt_X7_begin.2.1 28 = .ok (.aload_n 0, 1) := by decide +kernel
theorem d_X7_begin_29 : decode mt_X7_begin.2.1 29 = .ok (.invokevirtual 51, 3) := by decide +kernel
theorem d_X7_begin_32 : decode mt_X7_begin.2.1 32 = .ok (.return_, 1) := by decide +kernel
noncomputable def f_X7_begin_b0 (v0 v1 : Int) (σ : Mem) : Option (Mem) :=
  (gf Sh σ 7 v0 0).bind fun x1 =>
  (ln Sh 22 x1).bind fun x2 =>
  (pf Sh σ 7 v0 2 (imin v1 x2)).bind fun σ3 =>
  (pf Sh σ3 7 v0 3 0).bind fun σ4 =>
  (pf Sh σ4 7 v0 10 0).bind fun σ5 =>
  (pf Sh σ5 7 v0 11 (-1)).bind fun σ6 =>
  (f_X7_step v0 σ6).bind fun r7 =>
  some r7
theorem L_X7_begin_b0 {sc : Nat × (Nat → Int32)} {o : Mem} {v0 v1 : Int} {σ : Mem} (h : f_X7_begin_b0 v0 v1 σ = some o) : E sc (Fm Sh none Sh o) mt_X7_begin 4 Sh Sh 0 [(2, v0), (0, v1)] [] Sh σ := by
  unfold f_X7_begin_b0 at h
  refine E_aload_n d_X7_begin_0 rfl (by decide) ?_
  refine E_iload_n d_X7_begin_1 rfl ?_
  refine E_aload_n d_X7_begin_2 rfl (by decide) ?_
  refine E_get d_X7_begin_3 okX7 fl_X7_22 ⟨by decide, rfl⟩ h (fun x1 h => ?_)
  refine E_alen d_X7_begin_6 (Or.inr (Or.inr (Or.inl ⟨rfl, rfl, rfl⟩))) h (fun x2 h => ?_)
  refine E_imin d_X7_begin_7 nl_X7_40 (by omega) (Nat.le_of_ble_eq_true rfl) ?_
  refine E_put d_X7_begin_10 okX7 fl_X7_46 ⟨by decide, rfl⟩ (Or.inl ⟨rfl, rfl⟩) (Or.inl rfl) h (fun σ3 h => ?_)
  refine E_aload_n d_X7_begin_13 rfl (by decide) ?_
  refine E_iconst d_X7_begin_14 (c32 rfl) ?_
  refine E_put d_X7_begin_15 okX7 fl_X7_48 ⟨by decide, rfl⟩ (Or.inl ⟨rfl, rfl⟩) (Or.inl rfl) h (fun σ4 h => ?_)
  refine E_aload_n d_X7_begin_18 rfl (by decide) ?_
  refine E_iconst d_X7_begin_19 (c32 rfl) ?_
  refine E_put d_X7_begin_20 okX7 fl_X7_15 ⟨by decide, rfl⟩ (Or.inl ⟨rfl, rfl⟩) (Or.inl rfl) h (fun σ5 h => ?_)
  refine E_aload_n d_X7_begin_23 rfl (by decide) ?_
  refine E_iconst d_X7_begin_24 (c32 rfl) ?_
  refine E_put d_X7_begin_25 okX7 fl_X7_19 ⟨by decide, rfl⟩ (Or.inl ⟨rfl, rfl⟩) (Or.inl rfl) h (fun σ6 h => ?_)
  refine E_aload_n d_X7_begin_28 rfl (by decide) ?_
  refine bd h (fun r7 q8 h => ?_)
  refine E_cVv (as := []) (st := []) (a := v0) d_X7_begin_29 mk_X7_step nl_X7_51 (by omega) ⟨rfl, rfl, Nat.le_of_ble_eq_true rfl⟩ okX7 rfl (L_X7_step q8) ?_
  cases h
  exact E_vret d_X7_begin_32 rfl
noncomputable def f_X7_begin (v0 v1 : Int) (σ : Mem) : Option (Mem) := if isO Sh 7 v0 = true then f_X7_begin_b0 v0 v1 σ else none
theorem L_X7_begin {o : Mem} {v0 v1 : Int} {σ : Mem} (h : f_X7_begin v0 v1 σ = some o) : (isO Sh 7 v0 = true ∧ Cn mt_X7_begin 4 [(2, v0), (0, v1)] Sh σ none Sh o) := ⟨(ite_ok h).1, Cn_of mk_X7_begin.1.2.2.1 (Nat.le_of_ble_eq_true rfl) (fun sc => L_X7_begin_b0 (ite_ok h).2)⟩
theorem d_X9_empty_0 : decode mt_X9_empty.2.1 0 = .ok (.aload_n 0, 1) := by decide +kernel
theorem d_X9_empty_1 : decode mt_X9_empty.2.1 1 = .ok (.iconst 0, 1) := by decide +kernel
theorem d_X9_empty_2 : decode mt_X9_empty.2.1 2 = .ok (.putfield 42, 3) := by decide +kernel
theorem d_X9_empty_5 : decode mt_X9_empty.2.1 5 = .ok (.aload_n 0, 1) := by decide +kernel
theorem d_X9_empty_6 : decode mt_X9_empty.2.1 6 = .ok (.iconst 0, 1) := by decide +kernel
theorem d_X9_empty_7 : decode mt_X9_empty.2.1 7 = .ok (.putfield 45, 3) := by decide +kernel
theorem d_X9_empty_10 : decode mt_X9_empty.2.1 10 = .ok (.aload_n 0, 1) := by decide +kernel
theorem d_X9_empty_11 : decode mt_X9_empty.2.1 11 = .ok (.iconst 0, 1) := by decide +kernel
theorem d_X9_empty_12 : decode mt_X9_empty.2.1 12 = .ok (.putfield 48, 3) := by decide +kernel
theorem d_X9_empty_15 : decode mt_X9_empty.2.1 15 = .ok (.aload_n 0, 1) := by decide +kernel
theorem d_X9_empty_16 : decode mt_X9_empty.2.1 16 = .ok (.bipush 8, 2) := by decide +kernel
theorem d_X9_empty_18 : decode mt_X9_empty.2.1 18 = .ok (.putfield 38, 3) := by decide +kernel
theorem d_X9_empty_21 : decode mt_X9_empty.2.1 21 = .ok (.aload_n 0, 1) := by decide +kernel
theorem d_X9_empty_22 : decode mt_X9_empty.2.1 22 = .ok (.iconst 0, 1) := by decide +kernel
theorem d_X9_empty_23 : decode mt_X9_empty.2.1 23 = .ok (.putfield 51, 3) := by decide +kernel
theorem d_X9_empty_26 : decode mt_X9_empty.2.1 26 = .ok (.aload_n 0, 1) := by decide +kernel
theorem d_X9_empty_27 : decode mt_X9_empty.2.1 27 = .ok (.iconst 0, 1) := by decide +kernel
theorem d_X9_empty_28 : decode mt_X9_empty.2.1 28 = .ok (.putfield 54, 3) := by decide +kernel
theorem d_X9_empty_31 : decode mt_X9_empty.2.1 31 = .ok (.aload_n 0, 1) := by decide +kernel
theorem d_X9_empty_32 : decode mt_X9_empty.2.1 32 = .ok (.iconst 0, 1) := by decide +kernel
theorem d_X9_empty_33 : decode mt_X9_empty.2.1 33 = .ok (.putfield 57, 3) := by decide +kernel
theorem d_X9_empty_36 : decode mt_X9_empty.2.1 36 = .ok (.aload_n 0, 1) := by decide +kernel
theorem d_X9_empty_37 : decode mt_X9_empty.2.1 37 = .ok (.iconst 0, 1) := by decide +kernel
theorem d_X9_empty_38 : decode mt_X9_empty.2.1 38 = .ok (.putfield 60, 3) := by decide +kernel
theorem d_X9_empty_41 : decode mt_X9_empty.2.1 41 = .ok (.return_, 1) := by decide +kernel
noncomputable def f_X9_empty_b0 (v0 : Int) (σ : Mem) : Option (Mem) :=
  (pf Sh σ 9 v0 0 0).bind fun σ1 =>
  (pf Sh σ1 9 v0 1 0).bind fun σ2 =>
  (pf Sh σ2 9 v0 7 0).bind fun σ3 =>
  (pf Sh σ3 9 v0 11 8).bind fun σ4 =>
  (pf Sh σ4 9 v0 12 0).bind fun σ5 =>
  (pf Sh σ5 9 v0 13 0).bind fun σ6 =>
  (pf Sh σ6 9 v0 14 0).bind fun σ7 =>
  (pf Sh σ7 9 v0 15 0).bind fun σ8 =>
  some σ8
theorem L_X9_empty_b0 {sc : Nat × (Nat → Int32)} {o : Mem} {v0 : Int} {σ : Mem} (h : f_X9_empty_b0 v0 σ = some o) : E sc (Fm Sh none Sh o) mt_X9_empty 1 Sh Sh 0 [(2, v0)] [] Sh σ := by
  unfold f_X9_empty_b0 at h
  refine E_aload_n d_X9_empty_0 rfl (by decide) ?_
  refine E_iconst d_X9_empty_1 (c32 rfl) ?_
  refine E_put d_X9_empty_2 okX9 fl_X9_42 ⟨by decide, rfl⟩ (Or.inl ⟨rfl, rfl⟩) (Or.inl rfl) h (fun σ1 h => ?_)
  refine E_aload_n d_X9_empty_5 rfl (by decide) ?_
  refine E_iconst d_X9_empty_6 (c32 rfl) ?_
  refine E_put d_X9_empty_7 okX9 fl_X9_45 ⟨by decide, rfl⟩ (Or.inl ⟨rfl, rfl⟩) (Or.inl rfl) h (fun σ2 h => ?_)
  refine E_aload_n d_X9_empty_10 rfl (by decide) ?_
  refine E_iconst d_X9_empty_11 (c32 rfl) ?_
  refine E_put d_X9_empty_12 okX9 fl_X9_48 ⟨by decide, rfl⟩ (Or.inl ⟨rfl, rfl⟩) (Or.inl rfl) h (fun σ3 h => ?_)
  refine E_aload_n d_X9_empty_15 rfl (by decide) ?_
  refine E_bipush d_X9_empty_16 (c8 rfl) ?_
  refine E_put d_X9_empty_18 okX9 fl_X9_38 ⟨by decide, rfl⟩ (Or.inl ⟨rfl, rfl⟩) (Or.inl rfl) h (fun σ4 h => ?_)
  refine E_aload_n d_X9_empty_21 rfl (by decide) ?_
  refine E_iconst d_X9_empty_22 (c32 rfl) ?_
  refine E_put d_X9_empty_23 okX9 fl_X9_51 ⟨by decide, rfl⟩ (Or.inl ⟨rfl, rfl⟩) (Or.inl rfl) h (fun σ5 h => ?_)
  refine E_aload_n d_X9_empty_26 rfl (by decide) ?_
  refine E_iconst d_X9_empty_27 (c32 rfl) ?_
  refine E_put d_X9_empty_28 okX9 fl_X9_54 ⟨by decide, rfl⟩ (Or.inl ⟨rfl, rfl⟩) (Or.inl rfl) h (fun σ6 h => ?_)
  refine E_aload_n d_X9_empty_31 rfl (by decide) ?_
  refine E_iconst d_X9_empty_32 (c32 rfl) ?_
  refine E_put d_X9_empty_33 okX9 fl_X9_57 ⟨by decide, rfl⟩ (Or.inl ⟨rfl, rfl⟩) (Or.inl rfl) h (fun σ7 h => ?_)
  refine E_aload_n d_X9_empty_36 rfl (by decide) ?_
  refine E_iconst d_X9_empty_37 (c32 rfl) ?_
  refine E_put d_X9_empty_38 okX9 fl_X9_60 ⟨by decide, rfl⟩ (Or.inl ⟨rfl, rfl⟩) (Or.inl rfl) h (fun σ8 h => ?_)
  cases h
  exact E_vret d_X9_empty_41 rfl
noncomputable def f_X9_empty (v0 : Int) (σ : Mem) : Option (Mem) := if isO Sh 9 v0 = true then f_X9_empty_b0 v0 σ else none
theorem L_X9_empty {o : Mem} {v0 : Int} {σ : Mem} (h : f_X9_empty v0 σ = some o) : (isO Sh 9 v0 = true ∧ Cn mt_X9_empty 1 [(2, v0)] Sh σ none Sh o) := ⟨(ite_ok h).1, Cn_of mk_X9_empty.1.2.2.1 (Nat.le_of_ble_eq_true rfl) (fun sc => L_X9_empty_b0 (ite_ok h).2)⟩
theorem d_X7_isAtEnd_0 : decode mt_X7_isAtEnd.2.1 0 = .ok (.aload_n 0, 1) := by decide +kernel
theorem d_X7_isAtEnd_1 : decode mt_X7_isAtEnd.2.1 1 = .ok (.getfield 57, 3) := by decide +kernel
theorem d_X7_isAtEnd_4 : decode mt_X7_isAtEnd.2.1 4 = .ok (.ifCond .ne 7, 3) := by decide +kernel
theorem d_X7_isAtEnd_7 : decode mt_X7_isAtEnd.2.1 7 = .ok (.iconst 1, 1) := by decide +kernel
theorem d_X7_isAtEnd_8 : decode mt_X7_isAtEnd.2.1 8 = .ok (.goto 4, 3) := by decide +kernel
theorem d_X7_isAtEnd_11 : decode mt_X7_isAtEnd.2.1 11 = .ok (.iconst 0, 1) := by decide +kernel
theorem d_X7_isAtEnd_12 : decode mt_X7_isAtEnd.2.1 12 = .ok (.ireturn, 1) := by decide +kernel
noncomputable def f_X7_isAtEnd_b0 (v0 : Int) (σ : Mem) : Option (Int) :=
  (gf Sh σ 7 v0 4).bind fun x1 =>
  if x1 = 0 then
    some (1)
  else
    some (0)
theorem L_X7_isAtEnd_b0 {sc : Nat × (Nat → Int32)} {o : Int} {σ : Mem} {v0 : Int} (h : f_X7_isAtEnd_b0 v0 σ = some o) : E sc (Fm Sh (some (0, o)) Sh σ) mt_X7_isAtEnd 1 Sh Sh 0 [(2, v0)] [] Sh σ := by
  unfold f_X7_isAtEnd_b0 at h
  refine E_aload_n d_X7_isAtEnd_0 rfl (by decide) ?_
  refine E_get d_X7_isAtEnd_1 okX7 fl_X7_57 ⟨by decide, rfl⟩ h (fun x1 h => ?_)
  refine E_if_ne (tgt := 11) d_X7_isAtEnd_4 (by decide) h (fun _ h => ?_) (fun _ h => ?_)
  · refine E_iconst d_X7_isAtEnd_7 (c32 rfl) ?_
    refine E_goto (tgt := 12) d_X7_isAtEnd_8 (by decide) ?_
    cases h
    exact E_zret d_X7_isAtEnd_12 rfl (Or.inr rfl)
  · refine E_iconst d_X7_isAtEnd_11 (c32 rfl) ?_
    cases h
    exact E_zret d_X7_isAtEnd_12 rfl (Or.inl rfl)
noncomputable def f_X7_isAtEnd (v0 : Int) (σ : Mem) : Option (Int) := if isO Sh 7 v0 = true then f_X7_isAtEnd_b0 v0 σ else none
theorem L_X7_isAtEnd {o : Int} {v0 : Int} {σ : Mem} (h : f_X7_isAtEnd v0 σ = some o) : (isO Sh 7 v0 = true ∧ Cn mt_X7_isAtEnd 1 [(2, v0)] Sh σ (some (0, o)) Sh σ) := ⟨(ite_ok h).1, Cn_of mk_X7_isAtEnd.1.2.2.1 (Nat.le_of_ble_eq_true rfl) (fun sc => L_X7_isAtEnd_b0 (ite_ok h).2)⟩
theorem d_X7_isWord_0 : decode mt_X7_isWord.2.1 0 = .ok (.aload_n 0, 1) := by decide +kernel
theorem d_X7_isWord_1 : decode mt_X7_isWord.2.1 1 = .ok (.getfield 57, 3) := by decide +kernel
theorem d_X7_isWord_4 : decode mt_X7_isWord.2.1 4 = .ok (.iconst 2, 1) := by decide +kernel
theorem d_X7_isWord_5 : decode mt_X7_isWord.2.1 5 = .ok (.if_icmp .ne 15, 3) := by decide +kernel
theorem d_X7_isWord_8 : decode mt_X7_isWord.2.1 8 = .ok (.aload_n 0, 1) := by decide +kernel
theorem d_X7_isWord_9 : decode mt_X7_isWord.2.1 9 = .ok (.getfield 86, 3) := by decide +kernel
theorem d_X7_isWord_12 : decode mt_X7_isWord.2.1 12 = .ok (.iload_n 1, 1) := by decide +kernel
theorem d_X7_isWord_13 : decode mt_X7_isWord.2.1 13 = .ok (.if_icmp .ne 7, 3) := by decide +kernel
theorem d_X7_isWord_16 : decode mt_X7_isWord.2.1 16 = .ok (.iconst 1, 1) := by decide +kernel
theorem d_X7_isWord_17 : decode mt_X7_isWord.2.1 17 = .ok (.goto 4, 3) := by decide +kernel
theorem d_X7_isWord_20 : decode mt_X7_isWord.2.1 20 = .ok (.iconst 0, 1) := by decide +kernel
theorem d_X7_isWord_21 : decode mt_X7_isWord.2.1 21 = .ok (.ireturn, 1) := by decide +kernel
noncomputable def f_X7_isWord_b0 (v0 v1 : Int) (σ : Mem) : Option (Int) :=
  (gf Sh σ 7 v0 4).bind fun x1 =>
  if x1 = 2 then
    (gf Sh σ 7 v0 7).bind fun x2 =>
    if x2 = v1 then
      some (1)
    else
      some (0)
  else
    some (0)
theorem L_X7_isWord_b0 {sc : Nat × (Nat → Int32)} {o : Int} {σ : Mem} {v0 v1 : Int} (h : f_X7_isWord_b0 v0 v1 σ = some o) : E sc (Fm Sh (some (0, o)) Sh σ) mt_X7_isWord 1 Sh Sh 0 [(2, v0), (0, v1)] [] Sh σ := by
  unfold f_X7_isWord_b0 at h
  refine E_aload_n d_X7_isWord_0 rfl (by decide) ?_
  refine E_get d_X7_isWord_1 okX7 fl_X7_57 ⟨by decide, rfl⟩ h (fun x1 h => ?_)
  refine E_iconst d_X7_isWord_4 (c32 rfl) ?_
  refine E_icmp_ne (tgt := 20) d_X7_isWord_5 (by decide) h (fun _ h => ?_) (fun _ h => ?_)
  · refine E_aload_n d_X7_isWord_8 rfl (by decide) ?_
    refine E_get d_X7_isWord_9 okX7 fl_X7_86 ⟨by decide, rfl⟩ h (fun x2 h => ?_)
    refine E_iload_n d_X7_isWord_12 rfl ?_
    refine E_icmp_ne (tgt := 20) d_X7_isWord_13 (by decide) h (fun _ h => ?_) (fun _ h => ?_)
    · refine E_iconst d_X7_isWord_16 (c32 rfl) ?_
      refine E_goto (tgt := 21) d_X7_isWord_17 (by decide) ?_
      cases h
      exact E_zret d_X7_isWord_21 rfl (Or.inr rfl)
    · refine E_iconst d_X7_isWord_20 (c32 rfl) ?_
      cases h
      exact E_zret d_X7_isWord_21 rfl (Or.inl rfl)
  · refine E_iconst d_X7_isWord_20 (c32 rfl) ?_
    cases h
    exact E_zret d_X7_isWord_21 rfl (Or.inl rfl)
noncomputable def f_X7_isWord (v0 v1 : Int) (σ : Mem) : Option (Int) := if isO Sh 7 v0 = true then f_X7_isWord_b0 v0 v1 σ else none
theorem L_X7_isWord {o : Int} {v0 v1 : Int} {σ : Mem} (h : f_X7_isWord v0 v1 σ = some o) : (isO Sh 7 v0 = true ∧ Cn mt_X7_isWord 1 [(2, v0), (0, v1)] Sh σ (some (0, o)) Sh σ) := ⟨(ite_ok h).1, Cn_of mk_X7_isWord.1.2.2.1 (Nat.le_of_ble_eq_true rfl) (fun sc => L_X7_isWord_b0 (ite_ok h).2)⟩
theorem d_X7_refuse_0 : decode mt_X7_refuse.2.1 0 = .ok (.aload_n 0, 1) := by decide +kernel
theorem d_X7_refuse_1 : decode mt_X7_refuse.2.1 1 = .ok (.aload_n 0, 1) := by decide +kernel
theorem d_X7_refuse_2 : decode mt_X7_refuse.2.1 2 = .ok (.getfield 57, 3) := by decide +kernel
theorem d_X7_refuse_5 : decode mt_X7_refuse.2.1 5 = .ok (.iconst 1, 1) := by decide +kernel
theorem d_X7_refuse_6 : decode mt_X7_refuse.2.1 6 = .ok (.if_icmp .ne 7, 3) := by decide +kernel
theorem d_X7_refuse_9 : decode mt_X7_refuse.2.1 9 = .ok (.iconst 1, 1) := by decide +kernel
theorem d_X7_refuse_10 : decode mt_X7_refuse.2.1 10 = .ok (.goto 4, 3) := by decide +kernel
theorem d_X7_refuse_13 : decode mt_X7_refuse.2.1 13 = .ok (.iload_n 1, 1) := by decide +kernel
theorem d_X7_refuse_14 : decode mt_X7_refuse.2.1 14 = .ok (.putfield 15, 3) := by decide +kernel
theorem d_X7_refuse_17 : decode mt_X7_refuse.2.1 17 = .ok (.aload_n 0, 1) := by decide +kernel
theorem d_X7_refuse_18 : decode mt_X7_refuse.2.1 18 = .ok (.aload_n 0, 1) := by decide +kernel
theorem d_X7_refuse_19 : decode mt_X7_refuse.2.1 19 = .ok (.getfield 54, 3) := by decide +kernel
theorem d_X7_refuse_22 : decode mt_X7_refuse.2.1 22 = .ok (.putfield 19, 3) := by decide +kernel
theorem d_X7_refuse_25 : decode mt_X7_refuse.2.1 25 = .ok (.iconst 0, 1) := by decide +kernel
theorem d_X7_refuse_26 : decode mt_X7_refuse.2.1 26 = .ok (.ireturn, 1) := by decide +kernel
noncomputable def f_X7_refuse_b14 (v0 s0 s1 : Int) (σ : Mem) : Option (Int × Mem) :=
  (pf Sh σ 7 s1 10 s0).bind fun σ2 =>
  (gf Sh σ2 7 v0 5).bind fun x3 =>
  (pf Sh σ2 7 v0 11 x3).bind fun σ4 =>
  some (0, σ4)
theorem L_X7_refuse_b14 {sc : Nat × (Nat → Int32)} {o : Int × Mem} {v0 s0 s1 : Int} {σ : Mem} (h : f_X7_refuse_b14 v0 s0 s1 σ = some o) : E sc (Fm Sh (some (0, o.1)) Sh o.2) mt_X7_refuse 1 Sh Sh 14 [(2, v0), (9, 0)] [(0, s0), (2, s1)] Sh σ := by
  unfold f_X7_refuse_b14 at h
  refine E_put d_X7_refuse_14 okX7 fl_X7_15 ⟨by decide, rfl⟩ (Or.inl ⟨rfl, rfl⟩) (Or.inl rfl) h (fun σ2 h => ?_)
  refine E_aload_n d_X7_refuse_17 rfl (by decide) ?_
  refine E_aload_n d_X7_refuse_18 rfl (by decide) ?_
  refine E_get d_X7_refuse_19 okX7 fl_X7_54 ⟨by decide, rfl⟩ h (fun x3 h => ?_)
  refine E_put d_X7_refuse_22 okX7 fl_X7_19 ⟨by decide, rfl⟩ (Or.inl ⟨rfl, rfl⟩) (Or.inl rfl) h (fun σ4 h => ?_)
  refine E_iconst d_X7_refuse_25 (c32 rfl) ?_
  cases h
  exact E_zret d_X7_refuse_26 rfl (Or.inl rfl)
noncomputable def f_X7_refuse_b0 (v0 v1 : Int) (σ : Mem) : Option (Int × Mem) :=
  (gf Sh σ 7 v0 4).bind fun x1 =>
  if x1 = 1 then
    f_X7_refuse_b14 v0 1 v0 σ
  else
    f_X7_refuse_b14 v0 v1 v0 σ
theorem L_X7_refuse_b0 {sc : Nat × (Nat → Int32)} {o : Int × Mem} {v0 v1 : Int} {σ : Mem} (h : f_X7_refuse_b0 v0 v1 σ = some o) : E sc (Fm Sh (some (0, o.1)) Sh o.2) mt_X7_refuse 1 Sh Sh 0 [(2, v0), (0, v1)] [] Sh σ := by
  unfold f_X7_refuse_b0 at h
  refine E_aload_n d_X7_refuse_0 rfl (by decide) ?_
  refine E_aload_n d_X7_refuse_1 rfl (by decide) ?_
  refine E_get d_X7_refuse_2 okX7 fl_X7_57 ⟨by decide, rfl⟩ h (fun x1 h => ?_)
  refine E_iconst d_X7_refuse_5 (c32 rfl) ?_
  refine E_icmp_ne (tgt := 13) d_X7_refuse_6 (by decide) h (fun _ h => ?_) (fun _ h => ?_)
  · refine E_iconst d_X7_refuse_9 (c32 rfl) ?_
    refine E_goto (tgt := 14) d_X7_refuse_10 (by decide) ?_
    exact E_weak (ls' := [(2, v0), (9, 0)]) ⟨Or.inr rfl, Or.inl rfl, trivial⟩ (L_X7_refuse_b14 h)
  · refine E_iload_n d_X7_refuse_13 rfl ?_
    exact E_weak (ls' := [(2, v0), (9, 0)]) ⟨Or.inr rfl, Or.inl rfl, trivial⟩ (L_X7_refuse_b14 h)
noncomputable def f_X7_refuse (v0 v1 : Int) (σ : Mem) : Option (Int × Mem) := if isO Sh 7 v0 = true then f_X7_refuse_b0 v0 v1 σ else none
theorem L_X7_refuse {o : Int × Mem} {v0 v1 : Int} {σ : Mem} (h : f_X7_refuse v0 v1 σ = some o) : (isO Sh 7 v0 = true ∧ Cn mt_X7_refuse 1 [(2, v0), (0, v1)] Sh σ (some (0, o.1)) Sh o.2) := ⟨(ite_ok h).1, Cn_of mk_X7_refuse.1.2.2.1 (Nat.le_of_ble_eq_true rfl) (fun sc => L_X7_refuse_b0 (ite_ok h).2)⟩
theorem d_X7_takeNumber_0 : decode mt_X7_takeNumber.2.1 0 = .ok (.aload_n 0, 1) := by decide +kernel
theorem d_X7_takeNumber_1 : decode mt_X7_takeNumber.2.1 1 = .ok (.getfield 57, 3) := by decide +kernel
theorem d_X7_takeNumber_4 : decode mt_X7_takeNumber.2.1 4 = .ok (.iconst 3, 1) := by decide +kernel
theorem d_X7_takeNumber_5 : decode mt_X7_takeNumber.2.1 5 = .ok (.if_icmp .eq 9, 3) := by decide +kernel
theorem d_X7_takeNumber_8 : decode mt_X7_takeNumber.2.1 8 = .ok (.aload_n 0, 1) := by decide +kernel
theorem d_X7_takeNumber_9 : decode mt_X7_takeNumber.2.1 9 = .ok (.iconst 2, 1) := by decide +kernel
theorem d_X7_takeNumber_10 : decode mt_X7_takeNumber.2.1 10 = .ok (.invokevirtual 95, 3) := by decide +kernel
theorem d_X7_takeNumber_13 : decode mt_X7_takeNumber.2.1 13 = .ok (.ireturn, 1) := by decide +kernel
theorem d_X7_takeNumber_14 : decode mt_X7_takeNumber.2.1 14 = .ok (.aload_n 0, 1) := by decide +kernel
theorem d_X7_takeNumber_15 : decode mt_X7_takeNumber.2.1 15 = .ok (.getfield 89, 3) := by decide +kernel
theorem d_X7_takeNumber_18 : decode mt_X7_takeNumber.2.1 18 = .ok (.iload_n 1, 1) := by decide +kernel
theorem d_X7_takeNumber_19 : decode mt_X7_takeNumber.2.1 19 = .ok (.if_icmp .lt 11, 3) := by decide +kernel
theorem d_X7_takeNumber_22 : decode mt_X7_takeNumber.2.1 22 = .ok (.aload_n 0, 1) := by decide +kernel
theorem d_X7_takeNumber_23 : decode mt_X7_takeNumber.2.1 23 = .ok (.getfield 89, 3) := by decide +kernel
theorem d_X7_takeNumber_26 : decode mt_X7_takeNumber.2.1 26 = .ok (.iload_n 2, 1) := by decide +kernel
theorem d_X7_takeNumber_27 : decode mt_X7_takeNumber.2.1 27 = .ok (.if_icmp .le 9, 3) := by decide +kernel
theorem d_X7_takeNumber_30 : decode mt_X7_takeNumber.2.1 30 = .ok (.aload_n 0, 1) := by decide +kernel
theorem d_X7_takeNumber_31 : decode mt_X7_takeNumber.2.1 31 = .ok (.iconst 4, 1) := by decide +kernel
theorem d_X7_takeNumber_32 : decode mt_X7_takeNumber.2.1 32 = .ok (.invokevirtual 95, 3) := by decide +kernel
theorem d_X7_takeNumber_35 : decode mt_X7_takeNumber.2.1 35 = .ok (.ireturn, 1) := by decide +kernel
theorem d_X7_takeNumber_36 : decode mt_X7_takeNumber.2.1 36 = .ok (.aload_n 0, 1) := by decide +kernel
theorem d_X7_takeNumber_37 : decode mt_X7_takeNumber.2.1 37 = .ok (.aload_n 0, 1) := by decide +kernel
theorem d_X7_takeNumber_38 : decode mt_X7_takeNumber.2.1 38 = .ok (.getfield 89, 3) := by decide +kernel
theorem d_X7_takeNumber_41 : decode mt_X7_takeNumber.2.1 41 = .ok (.putfield 101, 3) := by decide +kernel
theorem d_X7_takeNumber_44 : decode mt_X7_takeNumber.2.1 44 = .ok (.aload_n 0, 1) := by decide +kernel
theorem d_X7_takeNumber_45 : decode mt_X7_takeNumber.2.1 45 = .ok (.invokevirtual 51, 3) := by decide +kernel
theorem d_X7_takeNumber_48 : decode mt_X7_takeNumber.2.1 48 = .ok (.iconst 1, 1) := by decide +kernel
theorem d_X7_takeNumber_49 : decode mt_X7_takeNumber.2.1 49 = .ok (.ireturn, 1) := by decide +kernel
noncomputable def f_X7_takeNumber_b30 (v0 : Int) (σ : Mem) : Option (Int × Mem) :=
  (f_X7_refuse v0 4 σ).bind fun r11 =>
  (bz r11.1).bind fun _ =>
  some (r11.1, r11.2)
theorem L_X7_takeNumber_b30 {sc : Nat × (Nat → Int32)} {o : Int × Mem} {v0 : Int} {σ : Mem} (h : f_X7_takeNumber_b30 v0 σ = some o) : E sc (Fm Sh (some (0, o.1)) Sh o.2) mt_X7_takeNumber 4 Sh Sh 30 [(2, v0), (9, 0), (9, 0)] [] Sh σ := by
  unfold f_X7_takeNumber_b30 at h
  refine E_aload_n d_X7_takeNumber_30 rfl (by decide) ?_
  refine E_iconst d_X7_takeNumber_31 (c32 rfl) ?_
  refine bd h (fun r11 q12 h => ?_)
  refine E_cV (as := [(0, 4)]) (st := []) (a := v0) d_X7_takeNumber_32 mk_X7_refuse nl_X7_95 (by omega) ⟨rfl, rfl, Nat.le_of_ble_eq_true rfl⟩ okX7 rfl (L_X7_refuse q12) ?_
  refine bd_bz h (fun q13 h => ?_)
  cases h
  exact E_zret d_X7_takeNumber_35 rfl q13
noncomputable def f_X7_takeNumber_b0 (v0 v1 v2 : Int) (σ : Mem) : Option (Int × Mem) :=
  (gf Sh σ 7 v0 4).bind fun x1 =>
  if x1 = 3 then
    (gf Sh σ 7 v0 8).bind fun x2 =>
    if x2 < v1 then
      f_X7_takeNumber_b30 v0 σ
    else
      (gf Sh σ 7 v0 8).bind fun x3 =>
      if x3 ≤ v2 then
        (gf Sh σ 7 v0 8).bind fun x4 =>
        (pf Sh σ 7 v0 9 x4).bind fun σ5 =>
        (f_X7_step v0 σ5).bind fun r6 =>
        some (1, r6)
      else
        f_X7_takeNumber_b30 v0 σ
  else
    (f_X7_refuse v0 2 σ).bind fun r8 =>
    (bz r8.1).bind fun _ =>
    some (r8.1, r8.2)
theorem L_X7_takeNumber_b0 {sc : Nat × (Nat → Int32)} {o : Int × Mem} {v0 v1 v2 : Int} {σ : Mem} (h : f_X7_takeNumber_b0 v0 v1 v2 σ = some o) : E sc (Fm Sh (some (0, o.1)) Sh o.2) mt_X7_takeNumber 4 Sh Sh 0 [(2, v0), (0, v1), (0, v2)] [] Sh σ := by
  unfold f_X7_takeNumber_b0 at h
  refine E_aload_n d_X7_takeNumber_0 rfl (by decide) ?_
  refine E_get d_X7_takeNumber_1 okX7 fl_X7_57 ⟨by decide, rfl⟩ h (fun x1 h => ?_)
  refine E_iconst d_X7_takeNumber_4 (c32 rfl) ?_
  refine E_icmp_eq (tgt := 14) d_X7_takeNumber_5 (by decide) h (fun _ h => ?_) (fun _ h => ?_)
  · refine E_aload_n d_X7_takeNumber_14 rfl (by decide) ?_
    refine E_get d_X7_takeNumber_15 okX7 fl_X7_89 ⟨by decide, rfl⟩ h (fun x2 h => ?_)
    refine E_iload_n d_X7_takeNumber_18 rfl ?_
    refine E_icmp_lt (tgt := 30) d_X7_takeNumber_19 (by decide) h (fun _ h => ?_) (fun _ h => ?_)
    · exact E_weak (ls' := [(2, v0), (9, 0), (9, 0)]) ⟨Or.inr rfl, Or.inl rfl, Or.inl rfl, trivial⟩ (L_X7_takeNumber_b30 h)
    · refine E_aload_n d_X7_takeNumber_22 rfl (by decide) ?_
      refine E_get d_X7_takeNumber_23 okX7 fl_X7_89 ⟨by decide, rfl⟩ h (fun x3 h => ?_)
      refine E_iload_n d_X7_takeNumber_26 rfl ?_
      refine E_icmp_le (tgt := 36) d_X7_takeNumber_27 (by decide) h (fun _ h => ?_) (fun _ h => ?_)
      · refine E_aload_n d_X7_takeNumber_36 rfl (by decide) ?_
        refine E_aload_n d_X7_takeNumber_37 rfl (by decide) ?_
        refine E_get d_X7_takeNumber_38 okX7 fl_X7_89 ⟨by decide, rfl⟩ h (fun x4 h => ?_)
        refine E_put d_X7_takeNumber_41 okX7 fl_X7_101 ⟨by decide, rfl⟩ (Or.inl ⟨rfl, rfl⟩) (Or.inl rfl) h (fun σ5 h => ?_)
        refine E_aload_n d_X7_takeNumber_44 rfl (by decide) ?_
        refine bd h (fun r6 q7 h => ?_)
        refine E_cVv (as := []) (st := []) (a := v0) d_X7_takeNumber_45 mk_X7_step nl_X7_51 (by omega) ⟨rfl, rfl, Nat.le_of_ble_eq_true rfl⟩ okX7 rfl (L_X7_step q7) ?_
        refine E_iconst d_X7_takeNumber_48 (c32 rfl) ?_
        cases h
        exact E_zret d_X7_takeNumber_49 rfl (Or.inr rfl)
      · exact E_weak (ls' := [(2, v0), (9, 0), (9, 0)]) ⟨Or.inr rfl, Or.inl rfl, Or.inl rfl, trivial⟩ (L_X7_takeNumber_b30 h)
  · refine E_aload_n d_X7_takeNumber_8 rfl (by decide) ?_
    refine E_iconst d_X7_takeNumber_9 (c32 rfl) ?_
    refine bd h (fun r8 q9 h => ?_)
    refine E_cV (as := [(0, 2)]) (st := []) (a := v0) d_X7_takeNumber_10 mk_X7_refuse nl_X7_95 (by omega) ⟨rfl, rfl, Nat.le_of_ble_eq_true rfl⟩ okX7 rfl (L_X7_refuse q9) ?_
    refine bd_bz h (fun q10 h => ?_)
    cases h
    exact E_zret d_X7_takeNumber_13 rfl q10
noncomputable def f_X7_takeNumber (v0 v1 v2 : Int) (σ : Mem) : Option (Int × Mem) := if isO Sh 7 v0 = true then f_X7_takeNumber_b0 v0 v1 v2 σ else none
theorem L_X7_takeNumber {o : Int × Mem} {v0 v1 v2 : Int} {σ : Mem} (h : f_X7_takeNumber v0 v1 v2 σ = some o) : (isO Sh 7 v0 = true ∧ Cn mt_X7_takeNumber 4 [(2, v0), (0, v1), (0, v2)] Sh σ (some (0, o.1)) Sh o.2) := ⟨(ite_ok h).1, Cn_of mk_X7_takeNumber.1.2.2.1 (Nat.le_of_ble_eq_true rfl) (fun sc => L_X7_takeNumber_b0 (ite_ok h).2)⟩
theorem d_X7_isSign_0 : decode mt_X7_isSign.2.1 0 = .ok (.aload_n 0, 1) := by decide +kernel
theorem d_X7_isSign_1 : decode mt_X7_isSign.2.1 1 = .ok (.getfield 57, 3) := by decide +kernel
theorem d_X7_isSign_4 : decode mt_X7_isSign.2.1 4 = .ok (.iconst 4, 1) := by decide +kernel
theorem d_X7_isSign_5 : decode mt_X7_isSign.2.1 5 = .ok (.if_icmp .ne 15, 3) := by decide +kernel
theorem d_X7_isSign_8 : decode mt_X7_isSign.2.1 8 = .ok (.aload_n 0, 1) := by decide +kernel
theorem d_X7_isSign_9 : decode mt_X7_isSign.2.1 9 = .ok (.getfield 89, 3) := by decide +kernel
theorem d_X7_isSign_12 : decode mt_X7_isSign.2.1 12 = .ok (.iload_n 1, 1) := by decide +kernel
theorem d_X7_isSign_13 : decode mt_X7_isSign.2.1 13 = .ok (.if_icmp .ne 7, 3) := by decide +kernel
theorem d_X7_isSign_16 : decode mt_X7_isSign.2.1 16 = .ok (.iconst 1, 1) := by decide +kernel
theorem d_X7_isSign_17 : decode mt_X7_isSign.2.1 17 = .ok (.goto 4, 3) := by decide +kernel
theorem d_X7_isSign_20 : decode mt_X7_isSign.2.1 20 = .ok (.iconst 0, 1) := by decide +kernel
theorem d_X7_isSign_21 : decode mt_X7_isSign.2.1 21 = .ok (.ireturn, 1) := by decide +kernel
noncomputable def f_X7_isSign_b0 (v0 v1 : Int) (σ : Mem) : Option (Int) :=
  (gf Sh σ 7 v0 4).bind fun x1 =>
  if x1 = 4 then
    (gf Sh σ 7 v0 8).bind fun x2 =>
    if x2 = v1 then
      some (1)
    else
      some (0)
  else
    some (0)
theorem L_X7_isSign_b0 {sc : Nat × (Nat → Int32)} {o : Int} {σ : Mem} {v0 v1 : Int} (h : f_X7_isSign_b0 v0 v1 σ = some o) : E sc (Fm Sh (some (0, o)) Sh σ) mt_X7_isSign 1 Sh Sh 0 [(2, v0), (0, v1)] [] Sh σ := by
  unfold f_X7_isSign_b0 at h
  refine E_aload_n d_X7_isSign_0 rfl (by decide) ?_
  refine E_get d_X7_isSign_1 okX7 fl_X7_57 ⟨by decide, rfl⟩ h (fun x1 h => ?_)
  refine E_iconst d_X7_isSign_4 (c32 rfl) ?_
  refine E_icmp_ne (tgt := 20) d_X7_isSign_5 (by decide) h (fun _ h => ?_) (fun _ h => ?_)
  · refine E_aload_n d_X7_isSign_8 rfl (by decide) ?_
    refine E_get d_X7_isSign_9 okX7 fl_X7_89 ⟨by decide, rfl⟩ h (fun x2 h => ?_)
    refine E_iload_n d_X7_isSign_12 rfl ?_
    refine E_icmp_ne (tgt := 20) d_X7_isSign_13 (by decide) h (fun _ h => ?_) (fun _ h => ?_)
    · refine E_iconst d_X7_isSign_16 (c32 rfl) ?_
      refine E_goto (tgt := 21) d_X7_isSign_17 (by decide) ?_
      cases h
      exact E_zret d_X7_isSign_21 rfl (Or.inr rfl)
    · refine E_iconst d_X7_isSign_20 (c32 rfl) ?_
      cases h
      exact E_zret d_X7_isSign_21 rfl (Or.inl rfl)
  · refine E_iconst d_X7_isSign_20 (c32 rfl) ?_
    cases h
    exact E_zret d_X7_isSign_21 rfl (Or.inl rfl)
noncomputable def f_X7_isSign (v0 v1 : Int) (σ : Mem) : Option (Int) := if isO Sh 7 v0 = true then f_X7_isSign_b0 v0 v1 σ else none
theorem L_X7_isSign {o : Int} {v0 v1 : Int} {σ : Mem} (h : f_X7_isSign v0 v1 σ = some o) : (isO Sh 7 v0 = true ∧ Cn mt_X7_isSign 1 [(2, v0), (0, v1)] Sh σ (some (0, o)) Sh σ) := ⟨(ite_ok h).1, Cn_of mk_X7_isSign.1.2.2.1 (Nat.le_of_ble_eq_true rfl) (fun sc => L_X7_isSign_b0 (ite_ok h).2)⟩
theorem d_X7_takeSign_0 : decode mt_X7_takeSign.2.1 0 = .ok (.aload_n 0, 1) := by decide +kernel
theorem d_X7_takeSign_1 : decode mt_X7_takeSign.2.1 1 = .ok (.iload_n 1, 1) := by decide +kernel
theorem d_X7_takeSign_2 : decode mt_X7_takeSign.2.1 2 = .ok (.invokevirtual 98, 3) := by decide +kernel
theorem d_X7_takeSign_5 : decode mt_X7_takeSign.2.1 5 = .ok (.ifCond .ne 9, 3) := by decide +kernel
theorem d_X7_takeSign_8 : decode mt_X7_takeSign.2.1 8 = .ok (.aload_n 0, 1) := by decide +kernel
theorem d_X7_takeSign_9 : decode mt_X7_takeSign.2.1 9 = .ok (.iconst 2, 1) := by decide +kernel
theorem d_X7_takeSign_10 : decode mt_X7_takeSign.2.1 10 = .ok (.invokevirtual 95, 3) := by decide +kernel
theorem d_X7_takeSign_13 : decode mt_X7_takeSign.2.1 13 = .ok (.ireturn, 1) := by decide +kernel
theorem d_X7_takeSign_14 : decode mt_X7_takeSign.2.1 14 = .ok (.aload_n 0, 1) := by decide +kernel
theorem d_X7_takeSign_15 : decode mt_X7_takeSign.2.1 15 = .ok (.invokevirtual 51, 3) := by decide +kernel
theorem d_X7_takeSign_18 : decode mt_X7_takeSign.2.1 18 = .ok (.iconst 1, 1) := by decide +kernel
theorem d_X7_takeSign_19 : decode mt_X7_takeSign.2.1 19 = .ok (.ireturn, 1) := by decide +kernel
noncomputable def f_X7_takeSign_b0 (v0 v1 : Int) (σ : Mem) : Option (Int × Mem) :=
  (f_X7_isSign v0 v1 σ).bind fun r1 =>
  if r1 = 0 then
    (f_X7_refuse v0 2 σ).bind fun r3 =>
    (bz r3.1).bind fun _ =>
    some (r3.1, r3.2)
  else
    (f_X7_step v0 σ).bind fun r6 =>
    some (1, r6)
theorem L_X7_takeSign_b0 {sc : Nat × (Nat → Int32)} {o : Int × Mem} {v0 v1 : Int} {σ : Mem} (h : f_X7_takeSign_b0 v0 v1 σ = some o) : E sc (Fm Sh (some (0, o.1)) Sh o.2) mt_X7_takeSign 4 Sh Sh 0 [(2, v0), (0, v1)] [] Sh σ := by
  unfold f_X7_takeSign_b0 at h
  refine E_aload_n d_X7_takeSign_0 rfl (by decide) ?_
  refine E_iload_n d_X7_takeSign_1 rfl ?_
  refine bd h (fun r1 q2 h => ?_)
  refine E_cV (as := [(0, v1)]) (st := []) (a := v0) d_X7_takeSign_2 mk_X7_isSign nl_X7_98 (by omega) ⟨rfl, rfl, Nat.le_of_ble_eq_true rfl⟩ okX7 rfl (L_X7_isSign q2) ?_
  refine E_if_ne (tgt := 14) d_X7_takeSign_5 (by decide) h (fun _ h => ?_) (fun _ h => ?_)
  · refine E_aload_n d_X7_takeSign_8 rfl (by decide) ?_
    refine E_iconst d_X7_takeSign_9 (c32 rfl) ?_
    refine bd h (fun r3 q4 h => ?_)
    refine E_cV (as := [(0, 2)]) (st := []) (a := v0) d_X7_takeSign_10 mk_X7_refuse nl_X7_95 (by omega) ⟨rfl, rfl, Nat.le_of_ble_eq_true rfl⟩ okX7 rfl (L_X7_refuse q4) ?_
    refine bd_bz h (fun q5 h => ?_)
    cases h
    exact E_zret d_X7_takeSign_13 rfl q5
  · refine E_aload_n d_X7_takeSign_14 rfl (by decide) ?_
    refine bd h (fun r6 q7 h => ?_)
    refine E_cVv (as := []) (st := []) (a := v0) d_X7_takeSign_15 mk_X7_step nl_X7_51 (by omega) ⟨rfl, rfl, Nat.le_of_ble_eq_true rfl⟩ okX7 rfl (L_X7_step q7) ?_
    refine E_iconst d_X7_takeSign_18 (c32 rfl) ?_
    cases h
    exact E_zret d_X7_takeSign_19 rfl (Or.inr rfl)
noncomputable def f_X7_takeSign (v0 v1 : Int) (σ : Mem) : Option (Int × Mem) := if isO Sh 7 v0 = true then f_X7_takeSign_b0 v0 v1 σ else none
theorem L_X7_takeSign {o : Int × Mem} {v0 v1 : Int} {σ : Mem} (h : f_X7_takeSign v0 v1 σ = some o) : (isO Sh 7 v0 = true ∧ Cn mt_X7_takeSign 4 [(2, v0), (0, v1)] Sh σ (some (0, o.1)) Sh o.2) := ⟨(ite_ok h).1, Cn_of mk_X7_takeSign.1.2.2.1 (Nat.le_of_ble_eq_true rfl) (fun sc => L_X7_takeSign_b0 (ite_ok h).2)⟩
theorem d_X10_readOdds_0 : decode mt_X10_readOdds.2.1 0 = .ok (.aload_n 0, 1) := by decide +kernel
theorem d_X10_readOdds_1 : decode mt_X10_readOdds.2.1 1 = .ok (.getfield 25, 3) := by decide +kernel
theorem d_X10_readOdds_4 : decode mt_X10_readOdds.2.1 4 = .ok (.ifCond .eq 12, 3) := by decide +kernel
theorem d_X10_readOdds_7 : decode mt_X10_readOdds.2.1 7 = .ok (.aload_n 0, 1) := by decide +kernel
theorem d_X10_readOdds_8 : decode mt_X10_readOdds.2.1 8 = .ok (.getfield 18, 3) := by decide +kernel
theorem d_X10_readOdds_11 : decode mt_X10_readOdds.2.1 11 = .ok (.iconst 5, 1) := by decide +kernel
theorem d_X10_readOdds_12 : decode mt_X10_readOdds.2.1 12 = .ok (.invokevirtual 51, 3) := by decide +kernel
theorem d_X10_readOdds_15 : decode mt_X10_readOdds.2.1 15 = .ok (.ireturn, 1) := by decide +kernel
theorem d_X10_readOdds_16 : decode mt_X10_readOdds.2.1 16 = .ok (.aload_n 0, 1) := by decide +kernel
theorem d_X10_readOdds_17 : decode mt_X10_readOdds.2.1 17 = .ok (.iconst 1, 1) := by decide +kernel
theorem d_X10_readOdds_18 : decode mt_X10_readOdds.2.1 18 = .ok (.putfield 25, 3) := by decide +kernel
theorem d_X10_readOdds_21 : decode mt_X10_readOdds.2.1 21 = .ok (.aload_n 0, 1) := by decide +kernel
theorem d_X10_readOdds_22 : decode mt_X10_readOdds.2.1 22 = .ok (.getfield 18, 3) := by decide +kernel
theorem d_X10_readOdds_25 : decode mt_X10_readOdds.2.1 25 = .ok (.invokevirtual 54, 3) := by decide +kernel
theorem d_X10_readOdds_28 : decode mt_X10_readOdds.2.1 28 = .ok (.aload_n 0, 1) := by decide +kernel
theorem d_X10_readOdds_29 : decode mt_X10_readOdds.2.1 29 = .ok (.getfield 18, 3) := by decide +kernel
theorem d_X10_readOdds_32 : decode mt_X10_readOdds.2.1 32 = .ok (.iconst 0, 1) := by decide +kernel
theorem d_X10_readOdds_33 : decode mt_X10_readOdds.2.1 33 = .ok (.bipush 16, 2) := by decide +kernel
theorem d_X10_readOdds_35 : decode mt_X10_readOdds.2.1 35 = .ok (.invokevirtual 57, 3) := by decide +kernel
theorem d_X10_readOdds_38 : decode mt_X10_readOdds.2.1 38 = .ok (.ifCond .ne 5, 3) := by decide +kernel
theorem d_X10_readOdds_41 : decode mt_X10_readOdds.2.1 41 = .ok (.iconst 0, 1) := by decide +kernel
theorem d_X10_readOdds_42 : decode mt_X10_readOdds.2.1 42 = .ok (.ireturn, 1) := by decide +kernel
theorem d_X10_readOdds_43 : decode mt_X10_readOdds.2.1 43 = .ok (.aload_n 0, 1) := by decide +kernel
theorem d_X10_readOdds_44 : decode mt_X10_readOdds.2.1 44 = .ok (.getfield 12, 3) := by decide +kernel
theorem d_X10_readOdds_47 : decode mt_X10_readOdds.2.1 47 = .ok (.aload_n 0, 1) := by decide +kernel
theorem d_X10_readOdds_48 : decode mt_X10_readOdds.2.1 48 = .ok (.getfield 18, 3) := by decide +kernel
theorem d_X10_readOdds_51 : decode mt_X10_readOdds.2.1 51 = .ok (.getfield 61, 3) := by decide +kernel
theorem d_X10_readOdds_54 : decode mt_X10_readOdds.2.1 54 = .ok (.putfield 65, 3) := by decide +kernel
theorem d_X10_readOdds_57 : decode mt_X10_readOdds.2.1 57 = .ok (.aload_n 0, 1) := by decide +kernel
theorem d_X10_readOdds_58 : decode mt_X10_readOdds.2.1 58 = .ok (.getfield 18, 3) := by decide +kernel
theorem d_X10_readOdds_61 : decode mt_X10_readOdds.2.1 61 = .ok (.bipush 59, 2) := by decide +kernel
theorem d_X10_readOdds_63 : decode mt_X10_readOdds.2.1 63 = .ok (.invokevirtual 68, 3) := by decide +kernel
theorem d_X10_readOdds_66 : decode mt_X10_readOdds.2.1 66 = .ok (.ireturn, 1) := by decide +kernel
noncomputable def f_X10_readOdds_b0 (v0 : Int) (σ : Mem) : Option (Int × Mem) :=
  (gf Sh σ 10 v0 2).bind fun x1 =>
  if x1 = 0 then
    (pf Sh σ 10 v0 2 1).bind fun σ2 =>
    (gf Sh σ2 10 v0 0).bind fun x3 =>
    (f_X7_step x3 σ2).bind fun r4 =>
    (gf Sh r4 10 v0 0).bind fun x6 =>
    (f_X7_takeNumber x6 0 16 r4).bind fun r7 =>
    if r7.1 = 0 then
      some (0, r7.2)
    else
      (gf Sh r7.2 10 v0 1).bind fun x9 =>
      (gf Sh r7.2 10 v0 0).bind fun x10 =>
      (gf Sh r7.2 7 x10 9).bind fun x11 =>
      (pf Sh r7.2 9 x9 11 x11).bind fun σ12 =>
      (gf Sh σ12 10 v0 0).bind fun x13 =>
      (f_X7_takeSign x13 59 σ12).bind fun r14 =>
      (bz r14.1).bind fun _ =>
      some (r14.1, r14.2)
  else
    (gf Sh σ 10 v0 0).bind fun x17 =>
    (f_X7_refuse x17 5 σ).bind fun r18 =>
    (bz r18.1).bind fun _ =>
    some (r18.1, r18.2)
theorem L_X10_readOdds_b0 {sc : Nat × (Nat → Int32)} {o : Int × Mem} {v0 : Int} {σ : Mem} (h : f_X10_readOdds_b0 v0 σ = some o) : E sc (Fm Sh (some (0, o.1)) Sh o.2) mt_X10_readOdds 5 Sh Sh 0 [(2, v0)] [] Sh σ := by
  unfold f_X10_readOdds_b0 at h
  refine E_aload_n d_X10_readOdds_0 rfl (by decide) ?_
  refine E_get d_X10_readOdds_1 okX10 fl_X10_25 ⟨by decide, rfl⟩ h (fun x1 h => ?_)
  refine E_if_eq (tgt := 16) d_X10_readOdds_4 (by decide) h (fun _ h => ?_) (fun _ h => ?_)
  · refine E_aload_n d_X10_readOdds_16 rfl (by decide) ?_
    refine E_iconst d_X10_readOdds_17 (c32 rfl) ?_
    refine E_put d_X10_readOdds_18 okX10 fl_X10_25 ⟨by decide, rfl⟩ (Or.inr (Or.inr (Or.inl ⟨rfl, rfl, (Or.inr rfl)⟩))) (Or.inl rfl) h (fun σ2 h => ?_)
    refine E_aload_n d_X10_readOdds_21 rfl (by decide) ?_
    refine E_get d_X10_readOdds_22 okX10 fl_X10_18 ⟨by decide, rfl⟩ h (fun x3 h => ?_)
    refine bd h (fun r4 q5 h => ?_)
    refine E_cVv (as := []) (st := []) (a := x3) d_X10_readOdds_25 mk_X7_step nl_X10_54 (by omega) ⟨rfl, rfl, Nat.le_of_ble_eq_true rfl⟩ okX7 rfl (L_X7_step q5) ?_
    refine E_aload_n d_X10_readOdds_28 rfl (by decide) ?_
    refine E_get d_X10_readOdds_29 okX10 fl_X10_18 ⟨by decide, rfl⟩ h (fun x6 h => ?_)
    refine E_iconst d_X10_readOdds_32 (c32 rfl) ?_
    refine E_bipush d_X10_readOdds_33 (c8 rfl) ?_
    refine bd h (fun r7 q8 h => ?_)
    refine E_cV (as := [(0, 0), (0, 16)]) (st := []) (a := x6) d_X10_readOdds_35 mk_X7_takeNumber nl_X10_57 (by omega) ⟨rfl, rfl, Nat.le_of_ble_eq_true rfl⟩ okX7 rfl (L_X7_takeNumber q8) ?_
    refine E_if_ne (tgt := 43) d_X10_readOdds_38 (by decide) h (fun _ h => ?_) (fun _ h => ?_)
    · refine E_iconst d_X10_readOdds_41 (c32 rfl) ?_
      cases h
      exact E_zret d_X10_readOdds_42 rfl (Or.inl rfl)
    · refine E_aload_n d_X10_readOdds_43 rfl (by decide) ?_
      refine E_get d_X10_readOdds_44 okX10 fl_X10_12 ⟨by decide, rfl⟩ h (fun x9 h => ?_)
      refine E_aload_n d_X10_readOdds_47 rfl (by decide) ?_
      refine E_get d_X10_readOdds_48 okX10 fl_X10_18 ⟨by decide, rfl⟩ h (fun x10 h => ?_)
      refine E_get d_X10_readOdds_51 okX7 fl_X10_61 ⟨by decide, rfl⟩ h (fun x11 h => ?_)
      refine E_put d_X10_readOdds_54 okX9 fl_X10_65 ⟨by decide, rfl⟩ (Or.inl ⟨rfl, rfl⟩) (Or.inl rfl) h (fun σ12 h => ?_)
      refine E_aload_n d_X10_readOdds_57 rfl (by decide) ?_
      refine E_get d_X10_readOdds_58 okX10 fl_X10_18 ⟨by decide, rfl⟩ h (fun x13 h => ?_)
      refine E_bipush d_X10_readOdds_61 (c8 rfl) ?_
      refine bd h (fun r14 q15 h => ?_)
      refine E_cV (as := [(0, 59)]) (st := []) (a := x13) d_X10_readOdds_63 mk_X7_takeSign nl_X10_68 (by omega) ⟨rfl, rfl, Nat.le_of_ble_eq_true rfl⟩ okX7 rfl (L_X7_takeSign q15) ?_
      refine bd_bz h (fun q16 h => ?_)
      cases h
      exact E_zret d_X10_readOdds_66 rfl q16
  · refine E_aload_n d_X10_readOdds_7 rfl (by decide) ?_
    refine E_get d_X10_readOdds_8 okX10 fl_X10_18 ⟨by decide, rfl⟩ h (fun x17 h => ?_)
    refine E_iconst d_X10_readOdds_11 (c32 rfl) ?_
    refine bd h (fun r18 q19 h => ?_)
    refine E_cV (as := [(0, 5)]) (st := []) (a := x17) d_X10_readOdds_12 mk_X7_refuse nl_X10_51 (by omega) ⟨rfl, rfl, Nat.le_of_ble_eq_true rfl⟩ okX7 rfl (L_X7_refuse q19) ?_
    refine bd_bz h (fun q20 h => ?_)
    cases h
    exact E_zret d_X10_readOdds_15 rfl q20
noncomputable def f_X10_readOdds (v0 : Int) (σ : Mem) : Option (Int × Mem) := if isO Sh 10 v0 = true then f_X10_readOdds_b0 v0 σ else none
theorem L_X10_readOdds {o : Int × Mem} {v0 : Int} {σ : Mem} (h : f_X10_readOdds v0 σ = some o) : (isO Sh 10 v0 = true ∧ Cn mt_X10_readOdds 5 [(2, v0)] Sh σ (some (0, o.1)) Sh o.2) := ⟨(ite_ok h).1, Cn_of mk_X10_readOdds.1.2.2.1 (Nat.le_of_ble_eq_true rfl) (fun sc => L_X10_readOdds_b0 (ite_ok h).2)⟩
theorem d_X9_isFull_0 : decode mt_X9_isFull.2.1 0 = .ok (.aload_n 0, 1) := by decide +kernel
theorem d_X9_isFull_1 : decode mt_X9_isFull.2.1 1 = .ok (.getfield 42, 3) := by decide +kernel
theorem d_X9_isFull_4 : decode mt_X9_isFull.2.1 4 = .ok (.bipush 10, 2) := by decide +kernel
theorem d_X9_isFull_6 : decode mt_X9_isFull.2.1 6 = .ok (.if_icmp .lt 7, 3) := by decide +kernel
theorem d_X9_isFull_9 : decode mt_X9_isFull.2.1 9 = .ok (.iconst 1, 1) := by decide +kernel
theorem d_X9_isFull_10 : decode mt_X9_isFull.2.1 10 = .ok (.goto 4, 3) := by decide +kernel
theorem d_X9_isFull_13 : decode mt_X9_isFull.2.1 13 = .ok (.iconst 0, 1) := by decide +kernel
theorem d_X9_isFull_14 : decode mt_X9_isFull.2.1 14 = .ok (.ireturn, 1) := by decide +kernel
noncomputable def f_X9_isFull_b0 (v0 : Int) (σ : Mem) : Option (Int) :=
  (gf Sh σ 9 v0 0).bind fun x1 =>
  if x1 < 10 then
    some (0)
  else
    some (1)
theorem L_X9_isFull_b0 {sc : Nat × (Nat → Int32)} {o : Int} {σ : Mem} {v0 : Int} (h : f_X9_isFull_b0 v0 σ = some o) : E sc (Fm Sh (some (0, o)) Sh σ) mt_X9_isFull 1 Sh Sh 0 [(2, v0)] [] Sh σ := by
  unfold f_X9_isFull_b0 at h
  refine E_aload_n d_X9_isFull_0 rfl (by decide) ?_
  refine E_get d_X9_isFull_1 okX9 fl_X9_42 ⟨by decide, rfl⟩ h (fun x1 h => ?_)
  refine E_bipush d_X9_isFull_4 (c8 rfl) ?_
  refine E_icmp_lt (tgt := 13) d_X9_isFull_6 (by decide) h (fun _ h => ?_) (fun _ h => ?_)
  · refine E_iconst d_X9_isFull_13 (c32 rfl) ?_
    cases h
    exact E_zret d_X9_isFull_14 rfl (Or.inl rfl)
  · refine E_iconst d_X9_isFull_9 (c32 rfl) ?_
    refine E_goto (tgt := 14) d_X9_isFull_10 (by decide) ?_
    cases h
    exact E_zret d_X9_isFull_14 rfl (Or.inr rfl)
noncomputable def f_X9_isFull (v0 : Int) (σ : Mem) : Option (Int) := if isO Sh 9 v0 = true then f_X9_isFull_b0 v0 σ else none
theorem L_X9_isFull {o : Int} {v0 : Int} {σ : Mem} (h : f_X9_isFull v0 σ = some o) : (isO Sh 9 v0 = true ∧ Cn mt_X9_isFull 1 [(2, v0)] Sh σ (some (0, o)) Sh σ) := ⟨(ite_ok h).1, Cn_of mk_X9_isFull.1.2.2.1 (Nat.le_of_ble_eq_true rfl) (fun sc => L_X9_isFull_b0 (ite_ok h).2)⟩
theorem d_X7_isName_0 : decode mt_X7_isName.2.1 0 = .ok (.aload_n 0, 1) := by decide +kernel
theorem d_X7_isName_1 : decode mt_X7_isName.2.1 1 = .ok (.getfield 57, 3) := by decide +kernel
theorem d_X7_isName_4 : decode mt_X7_isName.2.1 4 = .ok (.iconst 2, 1) := by decide +kernel
theorem d_X7_isName_5 : decode mt_X7_isName.2.1 5 = .ok (.if_icmp .ne 26, 3) := by decide +kernel
theorem d_X7_isName_8 : decode mt_X7_isName.2.1 8 = .ok (.aload_n 0, 1) := by decide +kernel
theorem d_X7_isName_9 : decode mt_X7_isName.2.1 9 = .ok (.getfield 86, 3) := by decide +kernel
theorem d_X7_isName_12 : decode mt_X7_isName.2.1 12 = .ok (.iconst (-1), 1) := by decide +kernel
theorem d_X7_isName_13 : decode mt_X7_isName.2.1 13 = .ok (.if_icmp .ne 18, 3) := by decide +kernel
theorem d_X7_isName_16 : decode mt_X7_isName.2.1 16 = .ok (.aload_n 0, 1) := by decide +kernel
theorem d_X7_isName_17 : decode mt_X7_isName.2.1 17 = .ok (.getfield 76, 3) := by decide +kernel
theorem d_X7_isName_20 : decode mt_X7_isName.2.1 20 = .ok (.ldc2_w 80, 3) := by decide +kernel
theorem d_X7_isName_23 : decode mt_X7_isName.2.1 23 = .ok (.lcmp, 1) := by decide +kernel
theorem d_X7_isName_24 : decode mt_X7_isName.2.1 24 = .ok (.ifCond .eq 7, 3) := by decide +kernel
theorem d_X7_isName_27 : decode mt_X7_isName.2.1 27 = .ok (.iconst 1, 1) := by decide +kernel
theorem d_X7_isName_28 : decode mt_X7_isName.2.1 28 = .ok (.goto 4, 3) := by decide +kernel
theorem d_X7_isName_31 : decode mt_X7_isName.2.1 31 = .ok (.iconst 0, 1) := by decide +kernel
theorem d_X7_isName_32 : decode mt_X7_isName.2.1 32 = .ok (.ireturn, 1) := by decide +kernel
noncomputable def f_X7_isName_b0 (v0 : Int) (σ : Mem) : Option (Int) :=
  (gf Sh σ 7 v0 4).bind fun x1 =>
  if x1 = 2 then
    (gf Sh σ 7 v0 7).bind fun x2 =>
    if x2 = (-1) then
      (gf Sh σ 7 v0 6).bind fun x3 =>
      if lcmp x3 (-1) = 0 then
        some (0)
      else
        some (1)
    else
      some (0)
  else
    some (0)
theorem L_X7_isName_b0 {sc : Nat × (Nat → Int32)} {o : Int} {σ : Mem} {v0 : Int} (h : f_X7_isName_b0 v0 σ = some o) : E sc (Fm Sh (some (0, o)) Sh σ) mt_X7_isName 1 Sh Sh 0 [(2, v0)] [] Sh σ := by
  unfold f_X7_isName_b0 at h
  refine E_aload_n d_X7_isName_0 rfl (by decide) ?_
  refine E_get d_X7_isName_1 okX7 fl_X7_57 ⟨by decide, rfl⟩ h (fun x1 h => ?_)
  refine E_iconst d_X7_isName_4 (c32 rfl) ?_
  refine E_icmp_ne (tgt := 31) d_X7_isName_5 (by decide) h (fun _ h => ?_) (fun _ h => ?_)
  · refine E_aload_n d_X7_isName_8 rfl (by decide) ?_
    refine E_get d_X7_isName_9 okX7 fl_X7_86 ⟨by decide, rfl⟩ h (fun x2 h => ?_)
    refine E_iconst d_X7_isName_12 (c32 rfl) ?_
    refine E_icmp_ne (tgt := 31) d_X7_isName_13 (by decide) h (fun _ h => ?_) (fun _ h => ?_)
    · refine E_aload_n d_X7_isName_16 rfl (by decide) ?_
      refine E_get d_X7_isName_17 okX7 fl_X7_76 ⟨by decide, rfl⟩ h (fun x3 h => ?_)
      refine E_ldc2 d_X7_isName_20 kw_X7_80 ?_
      refine E_lcmp d_X7_isName_23 ?_
      refine E_if_eq (tgt := 31) d_X7_isName_24 (by decide) h (fun _ h => ?_) (fun _ h => ?_)
      · refine E_iconst d_X7_isName_31 (c32 rfl) ?_
        cases h
        exact E_zret d_X7_isName_32 rfl (Or.inl rfl)
      · refine E_iconst d_X7_isName_27 (c32 rfl) ?_
        refine E_goto (tgt := 32) d_X7_isName_28 (by decide) ?_
        cases h
        exact E_zret d_X7_isName_32 rfl (Or.inr rfl)
    · refine E_iconst d_X7_isName_31 (c32 rfl) ?_
      cases h
      exact E_zret d_X7_isName_32 rfl (Or.inl rfl)
  · refine E_iconst d_X7_isName_31 (c32 rfl) ?_
    cases h
    exact E_zret d_X7_isName_32 rfl (Or.inl rfl)
noncomputable def f_X7_isName (v0 : Int) (σ : Mem) : Option (Int) := if isO Sh 7 v0 = true then f_X7_isName_b0 v0 σ else none
theorem L_X7_isName {o : Int} {v0 : Int} {σ : Mem} (h : f_X7_isName v0 σ = some o) : (isO Sh 7 v0 = true ∧ Cn mt_X7_isName 1 [(2, v0)] Sh σ (some (0, o)) Sh σ) := ⟨(ite_ok h).1, Cn_of mk_X7_isName.1.2.2.1 (Nat.le_of_ble_eq_true rfl) (fun sc => L_X7_isName_b0 (ite_ok h).2)⟩
theorem d_X9_stoneNamed_0 : decode mt_X9_stoneNamed.2.1 0 = .ok (.iconst 0, 1) := by decide +kernel
theorem d_X9_stoneNamed_1 : decode mt_X9_stoneNamed.2.1 1 = .ok (.istore_n 3, 1) := by decide +kernel
theorem d_X9_stoneNamed_2 : decode mt_X9_stoneNamed.2.1 2 = .ok (.iload_n 3, 1) := by decide +kernel
theorem d_X9_stoneNamed_3 : decode mt_X9_stoneNamed.2.1 3 = .ok (.aload_n 0, 1) := by decide +kernel
theorem d_X9_stoneNamed_4 : decode mt_X9_stoneNamed.2.1 4 = .ok (.getfield 42, 3) := by decide +kernel
theorem d_X9_stoneNamed_7 : decode mt_X9_stoneNamed.2.1 7 = .ok (.if_icmp .ge 22, 3) := by decide +kernel
theorem d_X9_stoneNamed_10 : decode mt_X9_stoneNamed.2.1 10 = .ok (.aload_n 0, 1) := by decide +kernel
theorem d_X9_stoneNamed_11 : decode mt_X9_stoneNamed.2.1 11 = .ok (.getfield 24, 3) := by decide +kernel
theorem d_X9_stoneNamed_14 : decode mt_X9_stoneNamed.2.1 14 = .ok (.iload_n 3, 1) := by decide +kernel
theorem d_X9_stoneNamed_15 : decode mt_X9_stoneNamed.2.1 15 = .ok (.laload, 1) := by decide +kernel
theorem d_X9_stoneNamed_16 : decode mt_X9_stoneNamed.2.1 16 = .ok (.lload_n 1, 1) := by decide +kernel
theorem d_X9_stoneNamed_17 : decode mt_X9_stoneNamed.2.1 17 = .ok (.lcmp, 1) := by decide +kernel
theorem d_X9_stoneNamed_18 : decode mt_X9_stoneNamed.2.1 18 = .ok (.ifCond .ne 5, 3) := by decide +kernel
theorem d_X9_stoneNamed_21 : decode mt_X9_stoneNamed.2.1 21 = .ok (.iload_n 3, 1) := by decide +kernel
theorem d_X9_stoneNamed_22 : decode mt_X9_stoneNamed.2.1 22 = .ok (.ireturn, 1) := by decide +kernel
theorem d_X9_stoneNamed_23 : decode mt_X9_stoneNamed.2.1 23 = .ok (.iinc 3 1, 3) := by decide +kernel
theorem d_X9_stoneNamed_26 : decode mt_X9_stoneNamed.2.1 26 = .ok (.goto (-24), 3) := by decide +kernel
theorem d_X9_stoneNamed_29 : decode mt_X9_stoneNamed.2.1 29 = .ok (.iconst (-1), 1) := by decide +kernel
theorem d_X9_stoneNamed_30 : decode mt_X9_stoneNamed.2.1 30 = .ok (.ireturn, 1) := by decide +kernel
noncomputable def f_X9_stoneNamed_b2 (k2 : (Int → Int → Int → Mem → Option (Int))) (v0 v1 v3 : Int) (σ : Mem) : Option (Int) :=
  (gf Sh σ 9 v0 0).bind fun x1 =>
  if x1 ≤ v3 then
    some ((-1))
  else
    (gf Sh σ 9 v0 6).bind fun x2 =>
    (al Sh σ 21 x2 v3).bind fun x3 =>
    if lcmp x3 v1 = 0 then
      some (v3)
    else
      k2 v0 v1 (w32 (v3 + 1)) σ
theorem L_X9_stoneNamed_b2 {sc : Nat × (Nat → Int32)} {o : Int} {σ : Mem} {k2 : (Int → Int → Int → Mem → Option (Int))} (hk2 : ∀ {v0 v1 v3 : Int}, k2 v0 v1 v3 σ = some o → E sc (Fm Sh (some (0, o)) Sh σ) mt_X9_stoneNamed 1 Sh Sh 2 [(2, v0), (1, v1), (9, 0), (0, v3)] [] Sh σ) {v0 v1 v3 : Int} (h : f_X9_stoneNamed_b2 k2 v0 v1 v3 σ = some o) : E sc (Fm Sh (some (0, o)) Sh σ) mt_X9_stoneNamed 1 Sh Sh 2 [(2, v0), (1, v1), (9, 0), (0, v3)] [] Sh σ := by
  unfold f_X9_stoneNamed_b2 at h
  refine E_iload_n d_X9_stoneNamed_2 rfl ?_
  refine E_aload_n d_X9_stoneNamed_3 rfl (by decide) ?_
  refine E_get d_X9_stoneNamed_4 okX9 fl_X9_42 ⟨by decide, rfl⟩ h (fun x1 h => ?_)
  refine E_icmp_ge (tgt := 29) d_X9_stoneNamed_7 (by decide) h (fun _ h => ?_) (fun _ h => ?_)
  · refine E_iconst d_X9_stoneNamed_29 (c32 rfl) ?_
    cases h
    exact E_iret d_X9_stoneNamed_30 rfl
  · refine E_aload_n d_X9_stoneNamed_10 rfl (by decide) ?_
    refine E_get d_X9_stoneNamed_11 okX9 fl_X9_24 ⟨by decide, rfl⟩ h (fun x2 h => ?_)
    refine E_iload_n d_X9_stoneNamed_14 rfl ?_
    refine E_laload d_X9_stoneNamed_15 h (fun x3 h => ?_)
    refine E_lload_n d_X9_stoneNamed_16 rfl ?_
    refine E_lcmp d_X9_stoneNamed_17 ?_
    refine E_if_ne (tgt := 23) d_X9_stoneNamed_18 (by decide) h (fun _ h => ?_) (fun _ h => ?_)
    · refine E_iload_n d_X9_stoneNamed_21 rfl ?_
      cases h
      exact E_iret d_X9_stoneNamed_22 rfl
    · refine E_iinc d_X9_stoneNamed_23 (ls' := [(2, v0), (1, v1), (9, 0), (0, w32 (v3 + 1))]) rfl ⟨by decide, rfl⟩ ?_
      refine E_goto (tgt := 2) d_X9_stoneNamed_26 (by decide) ?_
      exact (hk2 h)
noncomputable def f_X9_stoneNamed_h2 (n : Nat) : Int → Int → Int → Mem → Option (Int) := Nat.rec (motive := fun _ => Int → Int → Int → Mem → Option (Int)) (fun _ _ _ _ => none) (fun _ ih => f_X9_stoneNamed_b2 (ih)) n
theorem L_X9_stoneNamed_h2 {sc : Nat × (Nat → Int32)} {o : Int} {σ : Mem} : ∀ (n : Nat) {v0 v1 v3 : Int}, f_X9_stoneNamed_h2 n v0 v1 v3 σ = some o → E sc (Fm Sh (some (0, o)) Sh σ) mt_X9_stoneNamed 1 Sh Sh 2 [(2, v0), (1, v1), (9, 0), (0, v3)] [] Sh σ := by
  intro n
  induction n with
  | zero => intro v0 v1 v3 h; cases h
  | succ n ih => intro v0 v1 v3 h; exact L_X9_stoneNamed_b2 (@ih) h
noncomputable def f_X9_stoneNamed_b0 (v0 v1 : Int) (σ : Mem) : Option (Int) :=
  f_X9_stoneNamed_h2 FU v0 v1 0 σ
theorem L_X9_stoneNamed_b0 {sc : Nat × (Nat → Int32)} {o : Int} {σ : Mem} {v0 v1 : Int} (h : f_X9_stoneNamed_b0 v0 v1 σ = some o) : E sc (Fm Sh (some (0, o)) Sh σ) mt_X9_stoneNamed 1 Sh Sh 0 [(2, v0), (1, v1), (9, 0), (9, 0)] [] Sh σ := by
  unfold f_X9_stoneNamed_b0 at h
  refine E_iconst d_X9_stoneNamed_0 (c32 rfl) ?_
  refine E_istore_n d_X9_stoneNamed_1 (ls' := [(2, v0), (1, v1), (9, 0), (0, 0)]) ⟨by decide, rfl⟩ ?_
  exact (L_X9_stoneNamed_h2 FU h)
noncomputable def f_X9_stoneNamed (v0 v1 : Int) (σ : Mem) : Option (Int) := if isO Sh 9 v0 = true then f_X9_stoneNamed_b0 v0 v1 σ else none
theorem L_X9_stoneNamed {o : Int} {v0 v1 : Int} {σ : Mem} (h : f_X9_stoneNamed v0 v1 σ = some o) : (isO Sh 9 v0 = true ∧ Cn mt_X9_stoneNamed 1 [(2, v0), (1, v1)] Sh σ (some (0, o)) Sh σ) := ⟨(ite_ok h).1, Cn_of mk_X9_stoneNamed.1.2.2.1 (Nat.le_of_ble_eq_true rfl) (fun sc => L_X9_stoneNamed_b0 (ite_ok h).2)⟩
theorem d_X9_crowNamed_0 : decode mt_X9_crowNamed.2.1 0 = .ok (.iconst 0, 1) := by decide +kernel
theorem d_X9_crowNamed_1 : decode mt_X9_crowNamed.2.1 1 = .ok (.istore_n 3, 1) := by decide +kernel
theorem d_X9_crowNamed_2 : decode mt_X9_crowNamed.2.1 2 = .ok (.iload_n 3, 1) := by decide +kernel
theorem d_X9_crowNamed_3 : decode mt_X9_crowNamed.2.1 3 = .ok (.aload_n 0, 1) := by decide +kernel
theorem d_X9_crowNamed_4 : decode mt_X9_crowNamed.2.1 4 = .ok (.getfield 48, 3) := by decide +kernel
theorem d_X9_crowNamed_7 : decode mt_X9_crowNamed.2.1 7 = .ok (.if_icmp .ge 22, 3) := by decide +kernel
theorem d_X9_crowNamed_10 : decode mt_X9_crowNamed.2.1 10 = .ok (.aload_n 0, 1) := by decide +kernel
theorem d_X9_crowNamed_11 : decode mt_X9_crowNamed.2.1 11 = .ok (.getfield 35, 3) := by decide +kernel
theorem d_X9_crowNamed_14 : decode mt_X9_crowNamed.2.1 14 = .ok (.iload_n 3, 1) := by decide +kernel
theorem d_X9_crowNamed_15 : decode mt_X9_crowNamed.2.1 15 = .ok (.laload, 1) := by decide +kernel
theorem d_X9_crowNamed_16 : decode mt_X9_crowNamed.2.1 16 = .ok (.lload_n 1, 1) := by decide +kernel
theorem d_X9_crowNamed_17 : decode mt_X9_crowNamed.2.1 17 = .ok (.lcmp, 1) := by decide +kernel
theorem d_X9_crowNamed_18 : decode mt_X9_crowNamed.2.1 18 = .ok (.ifCond .ne 5, 3) := by decide +kernel
theorem d_X9_crowNamed_21 : decode mt_X9_crowNamed.2.1 21 = .ok (.iload_n 3, 1) := by decide +kernel
theorem d_X9_crowNamed_22 : decode mt_X9_crowNamed.2.1 22 = .ok (.ireturn, 1) := by decide +kernel
theorem d_X9_crowNamed_23 : decode mt_X9_crowNamed.2.1 23 = .ok (.iinc 3 1, 3) := by decide +kernel
theorem d_X9_crowNamed_26 : decode mt_X9_crowNamed.2.1 26 = .ok (.goto (-24), 3) := by decide +kernel
theorem d_X9_crowNamed_29 : decode mt_X9_crowNamed.2.1 29 = .ok (.iconst (-1), 1) := by decide +kernel
theorem d_X9_crowNamed_30 : decode mt_X9_crowNamed.2.1 30 = .ok (.ireturn, 1) := by decide +kernel
noncomputable def f_X9_crowNamed_b2 (k2 : (Int → Int → Int → Mem → Option (Int))) (v0 v1 v3 : Int) (σ : Mem) : Option (Int) :=
  (gf Sh σ 9 v0 7).bind fun x1 =>
  if x1 ≤ v3 then
    some ((-1))
  else
    (gf Sh σ 9 v0 10).bind fun x2 =>
    (al Sh σ 21 x2 v3).bind fun x3 =>
    if lcmp x3 v1 = 0 then
      some (v3)
    else
      k2 v0 v1 (w32 (v3 + 1)) σ
theorem L_X9_crowNamed_b2 {sc : Nat × (Nat → Int32)} {o : Int} {σ : Mem} {k2 : (Int → Int → Int → Mem → Option (Int))} (hk2 : ∀ {v0 v1 v3 : Int}, k2 v0 v1 v3 σ = some o → E sc (Fm Sh (some (0, o)) Sh σ) mt_X9_crowNamed 1 Sh Sh 2 [(2, v0), (1, v1), (9, 0), (0, v3)] [] Sh σ) {v0 v1 v3 : Int} (h : f_X9_crowNamed_b2 k2 v0 v1 v3 σ = some o) : E sc (Fm Sh (some (0, o)) Sh σ) mt_X9_crowNamed 1 Sh Sh 2 [(2, v0), (1, v1), (9, 0), (0, v3)] [] Sh σ := by
  unfold f_X9_crowNamed_b2 at h
  refine E_iload_n d_X9_crowNamed_2 rfl ?_
  refine E_aload_n d_X9_crowNamed_3 rfl (by decide) ?_
  refine E_get d_X9_crowNamed_4 okX9 fl_X9_48 ⟨by decide, rfl⟩ h (fun x1 h => ?_)
  refine E_icmp_ge (tgt := 29) d_X9_crowNamed_7 (by decide) h (fun _ h => ?_) (fun _ h => ?_)
  · refine E_iconst d_X9_crowNamed_29 (c32 rfl) ?_
    cases h
    exact E_iret d_X9_crowNamed_30 rfl
  · refine E_aload_n d_X9_crowNamed_10 rfl (by decide) ?_
    refine E_get d_X9_crowNamed_11 okX9 fl_X9_35 ⟨by decide, rfl⟩ h (fun x2 h => ?_)
    refine E_iload_n d_X9_crowNamed_14 rfl ?_
    refine E_laload d_X9_crowNamed_15 h (fun x3 h => ?_)
    refine E_lload_n d_X9_crowNamed_16 rfl ?_
    refine E_lcmp d_X9_crowNamed_17 ?_
    refine E_if_ne (tgt := 23) d_X9_crowNamed_18 (by decide) h (fun _ h => ?_) (fun _ h => ?_)
    · refine E_iload_n d_X9_crowNamed_21 rfl ?_
      cases h
      exact E_iret d_X9_crowNamed_22 rfl
    · refine E_iinc d_X9_crowNamed_23 (ls' := [(2, v0), (1, v1), (9, 0), (0, w32 (v3 + 1))]) rfl ⟨by decide, rfl⟩ ?_
      refine E_goto (tgt := 2) d_X9_crowNamed_26 (by decide) ?_
      exact (hk2 h)
noncomputable def f_X9_crowNamed_h2 (n : Nat) : Int → Int → Int → Mem → Option (Int) := Nat.rec (motive := fun _ => Int → Int → Int → Mem → Option (Int)) (fun _ _ _ _ => none) (fun _ ih => f_X9_crowNamed_b2 (ih)) n
theorem L_X9_crowNamed_h2 {sc : Nat × (Nat → Int32)} {o : Int} {σ : Mem} : ∀ (n : Nat) {v0 v1 v3 : Int}, f_X9_crowNamed_h2 n v0 v1 v3 σ = some o → E sc (Fm Sh (some (0, o)) Sh σ) mt_X9_crowNamed 1 Sh Sh 2 [(2, v0), (1, v1), (9, 0), (0, v3)] [] Sh σ := by
  intro n
  induction n with
  | zero => intro v0 v1 v3 h; cases h
  | succ n ih => intro v0 v1 v3 h; exact L_X9_crowNamed_b2 (@ih) h
noncomputable def f_X9_crowNamed_b0 (v0 v1 : Int) (σ : Mem) : Option (Int) :=
  f_X9_crowNamed_h2 FU v0 v1 0 σ
theorem L_X9_crowNamed_b0 {sc : Nat × (Nat → Int32)} {o : Int} {σ : Mem} {v0 v1 : Int} (h : f_X9_crowNamed_b0 v0 v1 σ = some o) : E sc (Fm Sh (some (0, o)) Sh σ) mt_X9_crowNamed 1 Sh Sh 0 [(2, v0), (1, v1), (9, 0), (9, 0)] [] Sh σ := by
  unfold f_X9_crowNamed_b0 at h
  refine E_iconst d_X9_crowNamed_0 (c32 rfl) ?_
  refine E_istore_n d_X9_crowNamed_1 (ls' := [(2, v0), (1, v1), (9, 0), (0, 0)]) ⟨by decide, rfl⟩ ?_
  exact (L_X9_crowNamed_h2 FU h)
noncomputable def f_X9_crowNamed (v0 v1 : Int) (σ : Mem) : Option (Int) := if isO Sh 9 v0 = true then f_X9_crowNamed_b0 v0 v1 σ else none
theorem L_X9_crowNamed {o : Int} {v0 v1 : Int} {σ : Mem} (h : f_X9_crowNamed v0 v1 σ = some o) : (isO Sh 9 v0 = true ∧ Cn mt_X9_crowNamed 1 [(2, v0), (1, v1)] Sh σ (some (0, o)) Sh σ) := ⟨(ite_ok h).1, Cn_of mk_X9_crowNamed.1.2.2.1 (Nat.le_of_ble_eq_true rfl) (fun sc => L_X9_crowNamed_b0 (ite_ok h).2)⟩
theorem d_X10_takeNewName_0 : decode mt_X10_takeNewName.2.1 0 = .ok (.aload_n 0, 1) := by decide +kernel
theorem d_X10_takeNewName_1 : decode mt_X10_takeNewName.2.1 1 = .ok (.getfield 18, 3) := by decide +kernel
theorem d_X10_takeNewName_4 : decode mt_X10_takeNewName.2.1 4 = .ok (.invokevirtual 105, 3) := by decide +kernel
theorem d_X10_takeNewName_7 : decode mt_X10_takeNewName.2.1 7 = .ok (.ifCond .ne 12, 3) := by decide +kernel
theorem d_X10_takeNewName_10 : decode mt_X10_takeNewName.2.1 10 = .ok (.aload_n 0, 1) := by decide +kernel
theorem d_X10_takeNewName_11 : decode mt_X10_takeNewName.2.1 11 = .ok (.getfield 18, 3) := by decide +kernel
theorem d_X10_takeNewName_14 : decode mt_X10_takeNewName.2.1 14 = .ok (.iconst 2, 1) := by decide +kernel
theorem d_X10_takeNewName_15 : decode mt_X10_takeNewName.2.1 15 = .ok (.invokevirtual 51, 3) := by decide +kernel
theorem d_X10_takeNewName_18 : decode mt_X10_takeNewName.2.1 18 = .ok (.ireturn, 1) := by decide +kernel
theorem d_X10_takeNewName_19 : decode mt_X10_takeNewName.2.1 19 = .ok (.aload_n 0, 1) := by decide +kernel
theorem d_X10_takeNewName_20 : decode mt_X10_takeNewName.2.1 20 = .ok (.getfield 12, 3) := by decide +kernel
theorem d_X10_takeNewName_23 : decode mt_X10_takeNewName.2.1 23 = .ok (.aload_n 0, 1) := by decide +kernel
theorem d_X10_takeNewName_24 : decode mt_X10_takeNewName.2.1 24 = .ok (.getfield 18, 3) := by decide +kernel
theorem d_X10_takeNewName_27 : decode mt_X10_takeNewName.2.1 27 = .ok (.getfield 74, 3) := by decide +kernel
theorem d_X10_takeNewName_30 : decode mt_X10_takeNewName.2.1 30 = .ok (.invokevirtual 108, 3) := by decide +kernel
theorem d_X10_takeNewName_33 : decode mt_X10_takeNewName.2.1 33 = .ok (.iconst (-1), 1) := by decide +kernel
theorem d_X10_takeNewName_34 : decode mt_X10_takeNewName.2.1 34 = .ok (.if_icmp .ne 21, 3) := by decide +kernel
theorem d_X10_takeNewName_37 : decode mt_X10_takeNewName.2.1 37 = .ok (.aload_n 0, 1) := by decide +kernel
theorem d_X10_takeNewName_38 : decode mt_X10_takeNewName.2.1 38 = .ok (.getfield 12, 3) := by decide +kernel
theorem d_X10_takeNewName_41 : decode mt_X10_takeNewName.2.1 41 = .ok (.aload_n 0, 1) := by decide +kernel
theorem d_X10_takeNewName_42 : decode mt_X10_takeNewName.2.1 42 = .ok (.getfield 18, 3) := by decide +kernel
theorem d_X10_takeNewName_45 : decode mt_X10_takeNewName.2.1 45 = .ok (.getfield 74, 3) := by decide +kernel
theorem d_X10_takeNewName_48 : decode mt_X10_takeNewName.2.1 48 = .ok (.invokevirtual 116, 3) := by decide +kernel
theorem d_X10_takeNewName_51 : decode mt_X10_takeNewName.2.1 51 = .ok (.iconst (-1), 1) := by decide +kernel
theorem d_X10_takeNewName_52 : decode mt_X10_takeNewName.2.1 52 = .ok (.if_icmp .eq 12, 3) := by decide +kernel
theorem d_X10_takeNewName_55 : decode mt_X10_takeNewName.2.1 55 = .ok (.aload_n 0, 1) := by decide +kernel
theorem d_X10_takeNewName_56 : decode mt_X10_takeNewName.2.1 56 = .ok (.getfield 18, 3) := by decide +kernel
theorem d_X10_takeNewName_59 : decode mt_X10_takeNewName.2.1 59 = .ok (.iconst 3, 1) := by decide +kernel
theorem d_X10_takeNewName_60 : decode mt_X10_takeNewName.2.1 60 = .ok (.invokevirtual 51, 3) := by decide +kernel
theorem d_X10_takeNewName_63 : decode mt_X10_takeNewName.2.1 63 = .ok (.ireturn, 1) := by decide +kernel
theorem d_X10_takeNewName_64 : decode mt_X10_takeNewName.2.1 64 = .ok (.aload_n 0, 1) := by decide +kernel
theorem d_X10_takeNewName_65 : decode mt_X10_takeNewName.2.1 65 = .ok (.getfield 18, 3) := by decide +kernel
theorem d_X10_takeNewName_68 : decode mt_X10_takeNewName.2.1 68 = .ok (.invokevirtual 54, 3) := by decide +kernel
theorem d_X10_takeNewName_71 : decode mt_X10_takeNewName.2.1 71 = .ok (.iconst 1, 1) := by decide +kernel
theorem d_X10_takeNewName_72 : decode mt_X10_takeNewName.2.1 72 = .ok (.ireturn, 1) := by decide +kernel
noncomputable def f_X10_takeNewName_b55 (v0 : Int) (σ : Mem) : Option (Int × Mem) :=
  (gf Sh σ 10 v0 0).bind fun x21 =>
  (f_X7_refuse x21 3 σ).bind fun r22 =>
  (bz r22.1).bind fun _ =>
  some (r22.1, r22.2)
theorem L_X10_takeNewName_b55 {sc : Nat × (Nat → Int32)} {o : Int × Mem} {v0 : Int} {σ : Mem} (h : f_X10_takeNewName_b55 v0 σ = some o) : E sc (Fm Sh (some (0, o.1)) Sh o.2) mt_X10_takeNewName 4 Sh Sh 55 [(2, v0)] [] Sh σ := by
  unfold f_X10_takeNewName_b55 at h
  refine E_aload_n d_X10_takeNewName_55 rfl (by decide) ?_
  refine E_get d_X10_takeNewName_56 okX10 fl_X10_18 ⟨by decide, rfl⟩ h (fun x21 h => ?_)
  refine E_iconst d_X10_takeNewName_59 (c32 rfl) ?_
  refine bd h (fun r22 q23 h => ?_)
  refine E_cV (as := [(0, 3)]) (st := []) (a := x21) d_X10_takeNewName_60 mk_X7_refuse nl_X10_51 (by omega) ⟨rfl, rfl, Nat.le_of_ble_eq_true rfl⟩ okX7 rfl (L_X7_refuse q23) ?_
  refine bd_bz h (fun q24 h => ?_)
  cases h
  exact E_zret d_X10_takeNewName_63 rfl q24
noncomputable def f_X10_takeNewName_b0 (v0 : Int) (σ : Mem) : Option (Int × Mem) :=
  (gf Sh σ 10 v0 0).bind fun x1 =>
  (f_X7_isName x1 σ).bind fun r2 =>
  if r2 = 0 then
    (gf Sh σ 10 v0 0).bind fun x4 =>
    (f_X7_refuse x4 2 σ).bind fun r5 =>
    (bz r5.1).bind fun _ =>
    some (r5.1, r5.2)
  else
    (gf Sh σ 10 v0 1).bind fun x8 =>
    (gf Sh σ 10 v0 0).bind fun x9 =>
    (gf Sh σ 7 x9 6).bind fun x10 =>
    (f_X9_stoneNamed x8 x10 σ).bind fun r11 =>
    if r11 = (-1) then
      (gf Sh σ 10 v0 1).bind fun x13 =>
      (gf Sh σ 10 v0 0).bind fun x14 =>
      (gf Sh σ 7 x14 6).bind fun x15 =>
      (f_X9_crowNamed x13 x15 σ).bind fun r16 =>
      if r16 = (-1) then
        (gf Sh σ 10 v0 0).bind fun x18 =>
        (f_X7_step x18 σ).bind fun r19 =>
        some (1, r19)
      else
        f_X10_takeNewName_b55 v0 σ
    else
      f_X10_takeNewName_b55 v0 σ
theorem L_X10_takeNewName_b0 {sc : Nat × (Nat → Int32)} {o : Int × Mem} {v0 : Int} {σ : Mem} (h : f_X10_takeNewName_b0 v0 σ = some o) : E sc (Fm Sh (some (0, o.1)) Sh o.2) mt_X10_takeNewName 4 Sh Sh 0 [(2, v0)] [] Sh σ := by
  unfold f_X10_takeNewName_b0 at h
  refine E_aload_n d_X10_takeNewName_0 rfl (by decide) ?_
  refine E_get d_X10_takeNewName_1 okX10 fl_X10_18 ⟨by decide, rfl⟩ h (fun x1 h => ?_)
  refine bd h (fun r2 q3 h => ?_)
  refine E_cV (as := []) (st := []) (a := x1) d_X10_takeNewName_4 mk_X7_isName nl_X10_105 (by omega) ⟨rfl, rfl, Nat.le_of_ble_eq_true rfl⟩ okX7 rfl (L_X7_isName q3) ?_
  refine E_if_ne (tgt := 19) d_X10_takeNewName_7 (by decide) h (fun _ h => ?_) (fun _ h => ?_)
  · refine E_aload_n d_X10_takeNewName_10 rfl (by decide) ?_
    refine E_get d_X10_takeNewName_11 okX10 fl_X10_18 ⟨by decide, rfl⟩ h (fun x4 h => ?_)
    refine E_iconst d_X10_takeNewName_14 (c32 rfl) ?_
    refine bd h (fun r5 q6 h => ?_)
    refine E_cV (as := [(0, 2)]) (st := []) (a := x4) d_X10_takeNewName_15 mk_X7_refuse nl_X10_51 (by omega) ⟨rfl, rfl, Nat.le_of_ble_eq_true rfl⟩ okX7 rfl (L_X7_refuse q6) ?_
    refine bd_bz h (fun q7 h => ?_)
    cases h
    exact E_zret d_X10_takeNewName_18 rfl q7
  · refine E_aload_n d_X10_takeNewName_19 rfl (by decide) ?_
    refine E_get d_X10_takeNewName_20 okX10 fl_X10_12 ⟨by decide, rfl⟩ h (fun x8 h => ?_)
    refine E_aload_n d_X10_takeNewName_23 rfl (by decide) ?_
    refine E_get d_X10_takeNewName_24 okX10 fl_X10_18 ⟨by decide, rfl⟩ h (fun x9 h => ?_)
    refine E_get d_X10_takeNewName_27 okX7 fl_X10_74 ⟨by decide, rfl⟩ h (fun x10 h => ?_)
    refine bd h (fun r11 q12 h => ?_)
    refine E_cV (as := [(1, x10)]) (st := []) (a := x8) d_X10_takeNewName_30 mk_X9_stoneNamed nl_X10_108 (by omega) ⟨rfl, rfl, Nat.le_of_ble_eq_true rfl⟩ okX9 rfl (L_X9_stoneNamed q12) ?_
    refine E_iconst d_X10_takeNewName_33 (c32 rfl) ?_
    refine E_icmp_ne (tgt := 55) d_X10_takeNewName_34 (by decide) h (fun _ h => ?_) (fun _ h => ?_)
    · refine E_aload_n d_X10_takeNewName_37 rfl (by decide) ?_
      refine E_get d_X10_takeNewName_38 okX10 fl_X10_12 ⟨by decide, rfl⟩ h (fun x13 h => ?_)
      refine E_aload_n d_X10_takeNewName_41 rfl (by decide) ?_
      refine E_get d_X10_takeNewName_42 okX10 fl_X10_18 ⟨by decide, rfl⟩ h (fun x14 h => ?_)
      refine E_get d_X10_takeNewName_45 okX7 fl_X10_74 ⟨by decide, rfl⟩ h (fun x15 h => ?_)
      refine bd h (fun r16 q17 h => ?_)
      refine E_cV (as := [(1, x15)]) (st := []) (a := x13) d_X10_takeNewName_48 mk_X9_crowNamed nl_X10_116 (by omega) ⟨rfl, rfl, Nat.le_of_ble_eq_true rfl⟩ okX9 rfl (L_X9_crowNamed q17) ?_
      refine E_iconst d_X10_takeNewName_51 (c32 rfl) ?_
      refine E_icmp_eq (tgt := 64) d_X10_takeNewName_52 (by decide) h (fun _ h => ?_) (fun _ h => ?_)
      · refine E_aload_n d_X10_takeNewName_64 rfl (by decide) ?_
        refine E_get d_X10_takeNewName_65 okX10 fl_X10_18 ⟨by decide, rfl⟩ h (fun x18 h => ?_)
        refine bd h (fun r19 q20 h => ?_)
        refine E_cVv (as := []) (st := []) (a := x18) d_X10_takeNewName_68 mk_X7_step nl_X10_54 (by omega) ⟨rfl, rfl, Nat.le_of_ble_eq_true rfl⟩ okX7 rfl (L_X7_step q20) ?_
        refine E_iconst d_X10_takeNewName_71 (c32 rfl) ?_
        cases h
        exact E_zret d_X10_takeNewName_72 rfl (Or.inr rfl)
      · exact (L_X10_takeNewName_b55 h)
    · exact (L_X10_takeNewName_b55 h)
noncomputable def f_X10_takeNewName (v0 : Int) (σ : Mem) : Option (Int × Mem) := if isO Sh 10 v0 = true then f_X10_takeNewName_b0 v0 σ else none
theorem L_X10_takeNewName {o : Int × Mem} {v0 : Int} {σ : Mem} (h : f_X10_takeNewName v0 σ = some o) : (isO Sh 10 v0 = true ∧ Cn mt_X10_takeNewName 4 [(2, v0)] Sh σ (some (0, o.1)) Sh o.2) := ⟨(ite_ok h).1, Cn_of mk_X10_takeNewName.1.2.2.1 (Nat.le_of_ble_eq_true rfl) (fun sc => L_X10_takeNewName_b0 (ite_ok h).2)⟩
theorem d_X7_takeWord_0 : decode mt_X7_takeWord.2.1 0 = .ok (.aload_n 0, 1) := by decide +kernel
theorem d_X7_takeWord_1 : decode mt_X7_takeWord.2.1 1 = .ok (.iload_n 1, 1) := by decide +kernel
theorem d_X7_takeWord_2 : decode mt_X7_takeWord.2.1 2 = .ok (.invokevirtual 92, 3) := by decide +kernel
theorem d_X7_takeWord_5 : decode mt_X7_takeWord.2.1 5 = .ok (.ifCond .ne 9, 3) := by decide +kernel
theorem d_X7_takeWord_8 : decode mt_X7_takeWord.2.1 8 = .ok (.aload_n 0, 1) := by decide +kernel
theorem d_X7_takeWord_9 : decode mt_X7_takeWord.2.1 9 = .ok (.iconst 2, 1) := by decide +kernel
theorem d_X7_takeWord_10 : decode mt_X7_takeWord.2.1 10 = .ok (.invokevirtual 95, 3) := by decide +kernel
theorem d_X7_takeWord_13 : decode mt_X7_takeWord.2.1 13 = .ok (.ireturn, 1) := by decide +kernel
theorem d_X7_takeWord_14 : decode mt_X7_takeWord.2.1 14 = .ok (.aload_n 0, 1) := by decide +kernel
theorem d_X7_takeWord_15 : decode mt_X7_takeWord.2.1 15 = .ok (.invokevirtual 51, 3) := by decide +kernel
theorem d_X7_takeWord_18 : decode mt_X7_takeWord.2.1 18 = .ok (.iconst 1, 1) := by decide +kernel
theorem d_X7_takeWord_19 : decode mt_X7_takeWord.2.1 19 = .ok (.ireturn, 1) := by decide +kernel
noncomputable def f_X7_takeWord_b0 (v0 v1 : Int) (σ : Mem) : Option (Int × Mem) :=
  (f_X7_isWord v0 v1 σ).bind fun r1 =>
  if r1 = 0 then
    (f_X7_refuse v0 2 σ).bind fun r3 =>
    (bz r3.1).bind fun _ =>
    some (r3.1, r3.2)
  else
    (f_X7_step v0 σ).bind fun r6 =>
    some (1, r6)
theorem L_X7_takeWord_b0 {sc : Nat × (Nat → Int32)} {o : Int × Mem} {v0 v1 : Int} {σ : Mem} (h : f_X7_takeWord_b0 v0 v1 σ = some o) : E sc (Fm Sh (some (0, o.1)) Sh o.2) mt_X7_takeWord 4 Sh Sh 0 [(2, v0), (0, v1)] [] Sh σ := by
  unfold f_X7_takeWord_b0 at h
  refine E_aload_n d_X7_takeWord_0 rfl (by decide) ?_
  refine E_iload_n d_X7_takeWord_1 rfl ?_
  refine bd h (fun r1 q2 h => ?_)
  refine E_cV (as := [(0, v1)]) (st := []) (a := v0) d_X7_takeWord_2 mk_X7_isWord nl_X7_92 (by omega) ⟨rfl, rfl, Nat.le_of_ble_eq_true rfl⟩ okX7 rfl (L_X7_isWord q2) ?_
  refine E_if_ne (tgt := 14) d_X7_takeWord_5 (by decide) h (fun _ h => ?_) (fun _ h => ?_)
  · refine E_aload_n d_X7_takeWord_8 rfl (by decide) ?_
    refine E_iconst d_X7_takeWord_9 (c32 rfl) ?_
    refine bd h (fun r3 q4 h => ?_)
    refine E_cV (as := [(0, 2)]) (st := []) (a := v0) d_X7_takeWord_10 mk_X7_refuse nl_X7_95 (by omega) ⟨rfl, rfl, Nat.le_of_ble_eq_true rfl⟩ okX7 rfl (L_X7_refuse q4) ?_
    refine bd_bz h (fun q5 h => ?_)
    cases h
    exact E_zret d_X7_takeWord_13 rfl q5
  · refine E_aload_n d_X7_takeWord_14 rfl (by decide) ?_
    refine bd h (fun r6 q7 h => ?_)
    refine E_cVv (as := []) (st := []) (a := v0) d_X7_takeWord_15 mk_X7_step nl_X7_51 (by omega) ⟨rfl, rfl, Nat.le_of_ble_eq_true rfl⟩ okX7 rfl (L_X7_step q7) ?_
    refine E_iconst d_X7_takeWord_18 (c32 rfl) ?_
    cases h
    exact E_zret d_X7_takeWord_19 rfl (Or.inr rfl)
noncomputable def f_X7_takeWord (v0 v1 : Int) (σ : Mem) : Option (Int × Mem) := if isO Sh 7 v0 = true then f_X7_takeWord_b0 v0 v1 σ else none
theorem L_X7_takeWord {o : Int × Mem} {v0 v1 : Int} {σ : Mem} (h : f_X7_takeWord v0 v1 σ = some o) : (isO Sh 7 v0 = true ∧ Cn mt_X7_takeWord 4 [(2, v0), (0, v1)] Sh σ (some (0, o.1)) Sh o.2) := ⟨(ite_ok h).1, Cn_of mk_X7_takeWord.1.2.2.1 (Nat.le_of_ble_eq_true rfl) (fun sc => L_X7_takeWord_b0 (ite_ok h).2)⟩
theorem d_X10_readPerhaps_0 : decode mt_X10_readPerhaps.2.1 0 = .ok (.aload_n 0, 1) := by decide +kernel
theorem d_X10_readPerhaps_1 : decode mt_X10_readPerhaps.2.1 1 = .ok (.getfield 18, 3) := by decide +kernel
theorem d_X10_readPerhaps_4 : decode mt_X10_readPerhaps.2.1 4 = .ok (.iload_n 1, 1) := by decide +kernel
theorem d_X10_readPerhaps_5 : decode mt_X10_readPerhaps.2.1 5 = .ok (.invokevirtual 35, 3) := by decide +kernel
theorem d_X10_readPerhaps_8 : decode mt_X10_readPerhaps.2.1 8 = .ok (.ifCond .ne 6, 3) := by decide +kernel
theorem d_X10_readPerhaps_11 : decode mt_X10_readPerhaps.2.1 11 = .ok (.iload 4, 2) := by decide +kernel
theorem d_X10_readPerhaps_13 : decode mt_X10_readPerhaps.2.1 13 = .ok (.ireturn, 1) := by decide +kernel
theorem d_X10_readPerhaps_14 : decode mt_X10_readPerhaps.2.1 14 = .ok (.aload_n 0, 1) := by decide +kernel
theorem d_X10_readPerhaps_15 : decode mt_X10_readPerhaps.2.1 15 = .ok (.getfield 18, 3) := by decide +kernel
theorem d_X10_readPerhaps_18 : decode mt_X10_readPerhaps.2.1 18 = .ok (.invokevirtual 54, 3) := by decide +kernel
theorem d_X10_readPerhaps_21 : decode mt_X10_readPerhaps.2.1 21 = .ok (.aload_n 0, 1) := by decide +kernel
theorem d_X10_readPerhaps_22 : decode mt_X10_readPerhaps.2.1 22 = .ok (.getfield 18, 3) := by decide +kernel
theorem d_X10_readPerhaps_25 : decode mt_X10_readPerhaps.2.1 25 = .ok (.iload_n 2, 1) := by decide +kernel
theorem d_X10_readPerhaps_26 : decode mt_X10_readPerhaps.2.1 26 = .ok (.iload_n 3, 1) := by decide +kernel
theorem d_X10_readPerhaps_27 : decode mt_X10_readPerhaps.2.1 27 = .ok (.invokevirtual 57, 3) := by decide +kernel
theorem d_X10_readPerhaps_30 : decode mt_X10_readPerhaps.2.1 30 = .ok (.ifCond .eq 13, 3) := by decide +kernel
theorem d_X10_readPerhaps_33 : decode mt_X10_readPerhaps.2.1 33 = .ok (.aload_n 0, 1) := by decide +kernel
theorem d_X10_readPerhaps_34 : decode mt_X10_readPerhaps.2.1 34 = .ok (.getfield 18, 3) := by decide +kernel
theorem d_X10_readPerhaps_37 : decode mt_X10_readPerhaps.2.1 37 = .ok (.getfield 61, 3) := by decide +kernel
theorem d_X10_readPerhaps_40 : decode mt_X10_readPerhaps.2.1 40 = .ok (.goto 4, 3) := by decide +kernel
theorem d_X10_readPerhaps_43 : decode mt_X10_readPerhaps.2.1 43 = .ok (.iconst (-1), 1) := by decide +kernel
theorem d_X10_readPerhaps_44 : decode mt_X10_readPerhaps.2.1 44 = .ok (.ireturn, 1) := by decide +kernel
noncomputable def f_X10_readPerhaps_b0 (v0 v1 v2 v3 v4 : Int) (σ : Mem) : Option (Int × Mem) :=
  (gf Sh σ 10 v0 0).bind fun x1 =>
  (f_X7_isWord x1 v1 σ).bind fun r2 =>
  if r2 = 0 then
    some (v4, σ)
  else
    (gf Sh σ 10 v0 0).bind fun x4 =>
    (f_X7_step x4 σ).bind fun r5 =>
    (gf Sh r5 10 v0 0).bind fun x7 =>
    (f_X7_takeNumber x7 v2 v3 r5).bind fun r8 =>
    if r8.1 = 0 then
      some ((-1), r8.2)
    else
      (gf Sh r8.2 10 v0 0).bind fun x10 =>
      (gf Sh r8.2 7 x10 9).bind fun x11 =>
      some (x11, r8.2)
theorem L_X10_readPerhaps_b0 {sc : Nat × (Nat → Int32)} {o : Int × Mem} {v0 v1 v2 v3 v4 : Int} {σ : Mem} (h : f_X10_readPerhaps_b0 v0 v1 v2 v3 v4 σ = some o) : E sc (Fm Sh (some (0, o.1)) Sh o.2) mt_X10_readPerhaps 5 Sh Sh 0 [(2, v0), (0, v1), (0, v2), (0, v3), (0, v4)] [] Sh σ := by
  unfold f_X10_readPerhaps_b0 at h
  refine E_aload_n d_X10_readPerhaps_0 rfl (by decide) ?_
  refine E_get d_X10_readPerhaps_1 okX10 fl_X10_18 ⟨by decide, rfl⟩ h (fun x1 h => ?_)
  refine E_iload_n d_X10_readPerhaps_4 rfl ?_
  refine bd h (fun r2 q3 h => ?_)
  refine E_cV (as := [(0, v1)]) (st := []) (a := x1) d_X10_readPerhaps_5 mk_X7_isWord nl_X10_35 (by omega) ⟨rfl, rfl, Nat.le_of_ble_eq_true rfl⟩ okX7 rfl (L_X7_isWord q3) ?_
  refine E_if_ne (tgt := 14) d_X10_readPerhaps_8 (by decide) h (fun _ h => ?_) (fun _ h => ?_)
  · refine E_iload d_X10_readPerhaps_11 rfl ?_
    cases h
    exact E_iret d_X10_readPerhaps_13 rfl
  · refine E_aload_n d_X10_readPerhaps_14 rfl (by decide) ?_
    refine E_get d_X10_readPerhaps_15 okX10 fl_X10_18 ⟨by decide, rfl⟩ h (fun x4 h => ?_)
    refine bd h (fun r5 q6 h => ?_)
    refine E_cVv (as := []) (st := []) (a := x4) d_X10_readPerhaps_18 mk_X7_step nl_X10_54 (by omega) ⟨rfl, rfl, Nat.le_of_ble_eq_true rfl⟩ okX7 rfl (L_X7_step q6) ?_
    refine E_aload_n d_X10_readPerhaps_21 rfl (by decide) ?_
    refine E_get d_X10_readPerhaps_22 okX10 fl_X10_18 ⟨by decide, rfl⟩ h (fun x7 h => ?_)
    refine E_iload_n d_X10_readPerhaps_25 rfl ?_
    refine E_iload_n d_X10_readPerhaps_26 rfl ?_
    refine bd h (fun r8 q9 h => ?_)
    refine E_cV (as := [(0, v2), (0, v3)]) (st := []) (a := x7) d_X10_readPerhaps_27 mk_X7_takeNumber nl_X10_57 (by omega) ⟨rfl, rfl, Nat.le_of_ble_eq_true rfl⟩ okX7 rfl (L_X7_takeNumber q9) ?_
    refine E_if_eq (tgt := 43) d_X10_readPerhaps_30 (by decide) h (fun _ h => ?_) (fun _ h => ?_)
    · refine E_iconst d_X10_readPerhaps_43 (c32 rfl) ?_
      cases h
      exact E_iret d_X10_readPerhaps_44 rfl
    · refine E_aload_n d_X10_readPerhaps_33 rfl (by decide) ?_
      refine E_get d_X10_readPerhaps_34 okX10 fl_X10_18 ⟨by decide, rfl⟩ h (fun x10 h => ?_)
      refine E_get d_X10_readPerhaps_37 okX7 fl_X10_61 ⟨by decide, rfl⟩ h (fun x11 h => ?_)
      refine E_goto (tgt := 44) d_X10_readPerhaps_40 (by decide) ?_
      cases h
      exact E_iret d_X10_readPerhaps_44 rfl
noncomputable def f_X10_readPerhaps (v0 v1 v2 v3 v4 : Int) (σ : Mem) : Option (Int × Mem) := if isO Sh 10 v0 = true then f_X10_readPerhaps_b0 v0 v1 v2 v3 v4 σ else none
theorem L_X10_readPerhaps {o : Int × Mem} {v0 v1 v2 v3 v4 : Int} {σ : Mem} (h : f_X10_readPerhaps v0 v1 v2 v3 v4 σ = some o) : (isO Sh 10 v0 = true ∧ Cn mt_X10_readPerhaps 5 [(2, v0), (0, v1), (0, v2), (0, v3), (0, v4)] Sh σ (some (0, o.1)) Sh o.2) := ⟨(ite_ok h).1, Cn_of mk_X10_readPerhaps.1.2.2.1 (Nat.le_of_ble_eq_true rfl) (fun sc => L_X10_readPerhaps_b0 (ite_ok h).2)⟩
theorem d_X9_makeGap_0 : decode mt_X9_makeGap.2.1 0 = .ok (.aload_n 0, 1) := by decide +kernel
theorem d_X9_makeGap_1 : decode mt_X9_makeGap.2.1 1 = .ok (.dup, 1) := by decide +kernel
theorem d_X9_makeGap_2 : decode mt_X9_makeGap.2.1 2 = .ok (.getfield 45, 3) := by decide +kernel
theorem d_X9_makeGap_5 : decode mt_X9_makeGap.2.1 5 = .ok (.iconst 1, 1) := by decide +kernel
theorem d_X9_makeGap_6 : decode mt_X9_makeGap.2.1 6 = .ok (.iload_n 1, 1) := by decide +kernel
theorem d_X9_makeGap_7 : decode mt_X9_makeGap.2.1 7 = .ok (.ishl, 1) := by decide +kernel
theorem d_X9_makeGap_8 : decode mt_X9_makeGap.2.1 8 = .ok (.iconst (-1), 1) := by decide +kernel
theorem d_X9_makeGap_9 : decode mt_X9_makeGap.2.1 9 = .ok (.ixor, 1) := by decide +kernel
theorem d_X9_makeGap_10 : decode mt_X9_makeGap.2.1 10 = .ok (.iand, 1) := by decide +kernel
theorem d_X9_makeGap_11 : decode mt_X9_makeGap.2.1 11 = .ok (.putfield 45, 3) := by decide +kernel
theorem d_X9_makeGap_14 : decode mt_X9_makeGap.2.1 14 = .ok (.aload_n 0, 1) := by decide +kernel
theorem d_X9_makeGap_15 : decode mt_X9_makeGap.2.1 15 = .ok (.getfield 15, 3) := by decide +kernel
theorem d_X9_makeGap_18 : decode mt_X9_makeGap.2.1 18 = .ok (.iload_n 1, 1) := by decide +kernel
theorem d_X9_makeGap_19 : decode mt_X9_makeGap.2.1 19 = .ok (.iconst 0, 1) := by decide +kernel
theorem d_X9_makeGap_20 : decode mt_X9_makeGap.2.1 20 = .ok (.iastore, 1) := by decide +kernel
theorem d_X9_makeGap_21 : decode mt_X9_makeGap.2.1 21 = .ok (.aload_n 0, 1) := by decide +kernel
theorem d_X9_makeGap_22 : decode mt_X9_makeGap.2.1 22 = .ok (.getfield 21, 3) := by decide +kernel
theorem d_X9_makeGap_25 : decode mt_X9_makeGap.2.1 25 = .ok (.iload_n 1, 1) := by decide +kernel
theorem d_X9_makeGap_26 : decode mt_X9_makeGap.2.1 26 = .ok (.iconst 0, 1) := by decide +kernel
theorem d_X9_makeGap_27 : decode mt_X9_makeGap.2.1 27 = .ok (.iastore, 1) := by decide +kernel
theorem d_X9_makeGap_28 : decode mt_X9_makeGap.2.1 28 = .ok (.iconst 0, 1) := by decide +kernel
theorem d_X9_makeGap_29 : decode mt_X9_makeGap.2.1 29 = .ok (.istore_n 2, 1) := by decide +kernel
theorem d_X9_makeGap_30 : decode mt_X9_makeGap.2.1 30 = .ok (.iload_n 2, 1) := by decide +kernel
theorem d_X9_makeGap_31 : decode mt_X9_makeGap.2.1 31 = .ok (.aload_n 0, 1) := by decide +kernel
theorem d_X9_makeGap_32 : decode mt_X9_makeGap.2.1 32 = .ok (.getfield 48, 3) := by decide +kernel
theorem d_X9_makeGap_35 : decode mt_X9_makeGap.2.1 35 = .ok (.if_icmp .ge 26, 3) := by decide +kernel
theorem d_X9_makeGap_38 : decode mt_X9_makeGap.2.1 38 = .ok (.aload_n 0, 1) := by decide +kernel
theorem d_X9_makeGap_39 : decode mt_X9_makeGap.2.1 39 = .ok (.getfield 28, 3) := by decide +kernel
theorem d_X9_makeGap_42 : decode mt_X9_makeGap.2.1 42 = .ok (.iload_n 2, 1) := by decide +kernel
theorem d_X9_makeGap_43 : decode mt_X9_makeGap.2.1 43 = .ok (.iaload, 1) := by decide +kernel
theorem d_X9_makeGap_44 : decode mt_X9_makeGap.2.1 44 = .ok (.iload_n 1, 1) := by decide +kernel
theorem d_X9_makeGap_45 : decode mt_X9_makeGap.2.1 45 = .ok (.if_icmp .ne 10, 3) := by decide +kernel
theorem d_X9_makeGap_48 : decode mt_X9_makeGap.2.1 48 = .ok (.aload_n 0, 1) := by decide +kernel
theorem d_X9_makeGap_49 : decode mt_X9_makeGap.2.1 49 = .ok (.getfield 28, 3) := by decide +kernel
theorem d_X9_makeGap_52 : decode mt_X9_makeGap.2.1 52 = .ok (.iload_n 2, 1) := by decide +kernel
theorem d_X9_makeGap_53 : decode mt_X9_makeGap.2.1 53 = .ok (.iconst (-1), 1) := by decide +kernel
theorem d_X9_makeGap_54 : decode mt_X9_makeGap.2.1 54 = .ok (.iastore, 1) := by decide +kernel
theorem d_X9_makeGap_55 : decode mt_X9_makeGap.2.1 55 = .ok (.iinc 2 1, 3) := by decide +kernel
theorem d_X9_makeGap_58 : decode mt_X9_makeGap.2.1 58 = .ok (.goto (-28), 3) := by decide +kernel
theorem d_X9_makeGap_61 : decode mt_X9_makeGap.2.1 61 = .ok (.return_, 1) := by decide +kernel
noncomputable def f_X9_makeGap_b55 (k30 : (Int → Int → Int → Mem → Option (Mem))) (v0 v1 v2 : Int) (σ : Mem) : Option (Mem) :=
  k30 v0 v1 (w32 (v2 + 1)) σ
theorem L_X9_makeGap_b55 {sc : Nat × (Nat → Int32)} {o : Mem} {k30 : (Int → Int → Int → Mem → Option (Mem))} (hk30 : ∀ {v0 v1 v2 : Int} {σ : Mem}, k30 v0 v1 v2 σ = some o → E sc (Fm Sh none Sh o) mt_X9_makeGap 1 Sh Sh 30 [(2, v0), (0, v1), (0, v2)] [] Sh σ) {v0 v1 v2 : Int} {σ : Mem} (h : f_X9_makeGap_b55 k30 v0 v1 v2 σ = some o) : E sc (Fm Sh none Sh o) mt_X9_makeGap 1 Sh Sh 55 [(2, v0), (0, v1), (0, v2)] [] Sh σ := by
  unfold f_X9_makeGap_b55 at h
  refine E_iinc d_X9_makeGap_55 (ls' := [(2, v0), (0, v1), (0, w32 (v2 + 1))]) rfl ⟨by decide, rfl⟩ ?_
  refine E_goto (tgt := 30) d_X9_makeGap_58 (by decide) ?_
  exact (hk30 h)
noncomputable def f_X9_makeGap_b30 (k30 : (Int → Int → Int → Mem → Option (Mem))) (v0 v1 v2 : Int) (σ : Mem) : Option (Mem) :=
  (gf Sh σ 9 v0 7).bind fun x7 =>
  if x7 ≤ v2 then
    some σ
  else
    (gf Sh σ 9 v0 8).bind fun x8 =>
    (al Sh σ 20 x8 v2).bind fun x9 =>
    if x9 = v1 then
      (gf Sh σ 9 v0 8).bind fun x10 =>
      (st_ Sh σ 20 x10 v2 (-1)).bind fun σ11 =>
      f_X9_makeGap_b55 k30 v0 v1 v2 σ11
    else
      f_X9_makeGap_b55 k30 v0 v1 v2 σ
theorem L_X9_makeGap_b30 {sc : Nat × (Nat → Int32)} {o : Mem} {k30 : (Int → Int → Int → Mem → Option (Mem))} (hk30 : ∀ {v0 v1 v2 : Int} {σ : Mem}, k30 v0 v1 v2 σ = some o → E sc (Fm Sh none Sh o) mt_X9_makeGap 1 Sh Sh 30 [(2, v0), (0, v1), (0, v2)] [] Sh σ) {v0 v1 v2 : Int} {σ : Mem} (h : f_X9_makeGap_b30 k30 v0 v1 v2 σ = some o) : E sc (Fm Sh none Sh o) mt_X9_makeGap 1 Sh Sh 30 [(2, v0), (0, v1), (0, v2)] [] Sh σ := by
  unfold f_X9_makeGap_b30 at h
  refine E_iload_n d_X9_makeGap_30 rfl ?_
  refine E_aload_n d_X9_makeGap_31 rfl (by decide) ?_
  refine E_get d_X9_makeGap_32 okX9 fl_X9_48 ⟨by decide, rfl⟩ h (fun x7 h => ?_)
  refine E_icmp_ge (tgt := 61) d_X9_makeGap_35 (by decide) h (fun _ h => ?_) (fun _ h => ?_)
  · cases h
    exact E_vret d_X9_makeGap_61 rfl
  · refine E_aload_n d_X9_makeGap_38 rfl (by decide) ?_
    refine E_get d_X9_makeGap_39 okX9 fl_X9_28 ⟨by decide, rfl⟩ h (fun x8 h => ?_)
    refine E_iload_n d_X9_makeGap_42 rfl ?_
    refine E_iaload d_X9_makeGap_43 h (fun x9 h => ?_)
    refine E_iload_n d_X9_makeGap_44 rfl ?_
    refine E_icmp_ne (tgt := 55) d_X9_makeGap_45 (by decide) h (fun _ h => ?_) (fun _ h => ?_)
    · refine E_aload_n d_X9_makeGap_48 rfl (by decide) ?_
      refine E_get d_X9_makeGap_49 okX9 fl_X9_28 ⟨by decide, rfl⟩ h (fun x10 h => ?_)
      refine E_iload_n d_X9_makeGap_52 rfl ?_
      refine E_iconst d_X9_makeGap_53 (c32 rfl) ?_
      refine E_iastore d_X9_makeGap_54 h (fun σ11 h => ?_)
      exact (L_X9_makeGap_b55 hk30 h)
    · exact (L_X9_makeGap_b55 hk30 h)
noncomputable def f_X9_makeGap_h30 (n : Nat) : Int → Int → Int → Mem → Option (Mem) := Nat.rec (motive := fun _ => Int → Int → Int → Mem → Option (Mem)) (fun _ _ _ _ => none) (fun _ ih => f_X9_makeGap_b30 (ih)) n
theorem L_X9_makeGap_h30 {sc : Nat × (Nat → Int32)} {o : Mem} : ∀ (n : Nat) {v0 v1 v2 : Int} {σ : Mem}, f_X9_makeGap_h30 n v0 v1 v2 σ = some o → E sc (Fm Sh none Sh o) mt_X9_makeGap 1 Sh Sh 30 [(2, v0), (0, v1), (0, v2)] [] Sh σ := by
  intro n
  induction n with
  | zero => intro v0 v1 v2 σ h; cases h
  | succ n ih => intro v0 v1 v2 σ h; exact L_X9_makeGap_b30 (@ih) h
noncomputable def f_X9_makeGap_b0 (v0 v1 : Int) (σ : Mem) : Option (Mem) :=
  (gf Sh σ 9 v0 1).bind fun x1 =>
  (pf Sh σ 9 v0 1 (iand x1 (ixor (ishl 1 v1) (-1)))).bind fun σ2 =>
  (gf Sh σ2 9 v0 3).bind fun x3 =>
  (st_ Sh σ2 20 x3 v1 0).bind fun σ4 =>
  (gf Sh σ4 9 v0 5).bind fun x5 =>
  (st_ Sh σ4 20 x5 v1 0).bind fun σ6 =>
  f_X9_makeGap_h30 FU v0 v1 0 σ6
theorem L_X9_makeGap_b0 {sc : Nat × (Nat → Int32)} {o : Mem} {v0 v1 : Int} {σ : Mem} (h : f_X9_makeGap_b0 v0 v1 σ = some o) : E sc (Fm Sh none Sh o) mt_X9_makeGap 1 Sh Sh 0 [(2, v0), (0, v1), (9, 0)] [] Sh σ := by
  unfold f_X9_makeGap_b0 at h
  refine E_aload_n d_X9_makeGap_0 rfl (by decide) ?_
  refine E_dupT d_X9_makeGap_1 (by decide) ?_
  refine E_get d_X9_makeGap_2 okX9 fl_X9_45 ⟨by decide, rfl⟩ h (fun x1 h => ?_)
  refine E_iconst d_X9_makeGap_5 (c32 rfl) ?_
  refine E_iload_n d_X9_makeGap_6 rfl ?_
  refine E_ishl d_X9_makeGap_7 ?_
  refine E_iconst d_X9_makeGap_8 (c32 rfl) ?_
  refine E_ixor d_X9_makeGap_9 ?_
  refine E_iand d_X9_makeGap_10 ?_
  refine E_put d_X9_makeGap_11 okX9 fl_X9_45 ⟨by decide, rfl⟩ (Or.inl ⟨rfl, rfl⟩) (Or.inl rfl) h (fun σ2 h => ?_)
  refine E_aload_n d_X9_makeGap_14 rfl (by decide) ?_
  refine E_get d_X9_makeGap_15 okX9 fl_X9_15 ⟨by decide, rfl⟩ h (fun x3 h => ?_)
  refine E_iload_n d_X9_makeGap_18 rfl ?_
  refine E_iconst d_X9_makeGap_19 (c32 rfl) ?_
  refine E_iastore d_X9_makeGap_20 h (fun σ4 h => ?_)
  refine E_aload_n d_X9_makeGap_21 rfl (by decide) ?_
  refine E_get d_X9_makeGap_22 okX9 fl_X9_21 ⟨by decide, rfl⟩ h (fun x5 h => ?_)
  refine E_iload_n d_X9_makeGap_25 rfl ?_
  refine E_iconst d_X9_makeGap_26 (c32 rfl) ?_
  refine E_iastore d_X9_makeGap_27 h (fun σ6 h => ?_)
  refine E_iconst d_X9_makeGap_28 (c32 rfl) ?_
  refine E_istore_n d_X9_makeGap_29 (ls' := [(2, v0), (0, v1), (0, 0)]) ⟨by decide, rfl⟩ ?_
  exact (L_X9_makeGap_h30 FU h)
noncomputable def f_X9_makeGap (v0 v1 : Int) (σ : Mem) : Option (Mem) := if isO Sh 9 v0 = true then f_X9_makeGap_b0 v0 v1 σ else none
theorem L_X9_makeGap {o : Mem} {v0 v1 : Int} {σ : Mem} (h : f_X9_makeGap v0 v1 σ = some o) : (isO Sh 9 v0 = true ∧ Cn mt_X9_makeGap 1 [(2, v0), (0, v1)] Sh σ none Sh o) := ⟨(ite_ok h).1, Cn_of mk_X9_makeGap.1.2.2.1 (Nat.le_of_ble_eq_true rfl) (fun sc => L_X9_makeGap_b0 (ite_ok h).2)⟩
theorem d_X9_addPlace_0 : decode mt_X9_addPlace.2.1 0 = .ok (.aload_n 0, 1) := by decide +kernel
theorem d_X9_addPlace_1 : decode mt_X9_addPlace.2.1 1 = .ok (.invokevirtual 75, 3) := by decide +kernel
theorem d_X9_addPlace_4 : decode mt_X9_addPlace.2.1 4 = .ok (.ifCond .eq 4, 3) := by decide +kernel
theorem d_X9_addPlace_7 : decode mt_X9_addPlace.2.1 7 = .ok (.return_, 1) := by decide +kernel
theorem d_X9_addPlace_8 : decode mt_X9_addPlace.2.1 8 = .ok (.aload_n 0, 1) := by decide +kernel
theorem d_X9_addPlace_9 : decode mt_X9_addPlace.2.1 9 = .ok (.getfield 24, 3) := by decide +kernel
theorem d_X9_addPlace_12 : decode mt_X9_addPlace.2.1 12 = .ok (.aload_n 0, 1) := by decide +kernel
theorem d_X9_addPlace_13 : decode mt_X9_addPlace.2.1 13 = .ok (.getfield 42, 3) := by decide +kernel
theorem d_X9_addPlace_16 : decode mt_X9_addPlace.2.1 16 = .ok (.lload_n 1, 1) := by decide +kernel
theorem d_X9_addPlace_17 : decode mt_X9_addPlace.2.1 17 = .ok (.lastore, 1) := by decide +kernel
theorem d_X9_addPlace_18 : decode mt_X9_addPlace.2.1 18 = .ok (.aload_n 0, 1) := by decide +kernel
theorem d_X9_addPlace_19 : decode mt_X9_addPlace.2.1 19 = .ok (.dup, 1) := by decide +kernel
theorem d_X9_addPlace_20 : decode mt_X9_addPlace.2.1 20 = .ok (.getfield 42, 3) := by decide +kernel
theorem d_X9_addPlace_23 : decode mt_X9_addPlace.2.1 23 = .ok (.iconst 1, 1) := by decide +kernel
theorem d_X9_addPlace_24 : decode mt_X9_addPlace.2.1 24 = .ok (.iadd, 1) := by decide +kernel
theorem d_X9_addPlace_25 : decode mt_X9_addPlace.2.1 25 = .ok (.putfield 42, 3) := by decide +kernel
theorem d_X9_addPlace_28 : decode mt_X9_addPlace.2.1 28 = .ok (.aload_n 0, 1) := by decide +kernel
theorem d_X9_addPlace_29 : decode mt_X9_addPlace.2.1 29 = .ok (.aload_n 0, 1) := by decide +kernel
theorem d_X9_addPlace_30 : decode mt_X9_addPlace.2.1 30 = .ok (.getfield 42, 3) := by decide +kernel
theorem d_X9_addPlace_33 : decode mt_X9_addPlace.2.1 33 = .ok (.iconst 1, 1) := by decide +kernel
theorem d_X9_addPlace_34 : decode mt_X9_addPlace.2.1 34 = .ok (.isub, 1) := by decide +kernel
theorem d_X9_addPlace_35 : decode mt_X9_addPlace.2.1 35 = .ok (.invokevirtual 79, 3) := by decide +kernel
theorem d_X9_addPlace_38 : decode mt_X9_addPlace.2.1 38 = .ok (.return_, 1) := by decide +kernel
noncomputable def f_X9_addPlace_b0 (v0 v1 : Int) (σ : Mem) : Option (Mem) :=
  (f_X9_isFull v0 σ).bind fun r1 =>
  if r1 = 0 then
    (gf Sh σ 9 v0 6).bind fun x3 =>
    (gf Sh σ 9 v0 0).bind fun x4 =>
    (st_ Sh σ 21 x3 x4 v1).bind fun σ5 =>
    (gf Sh σ5 9 v0 0).bind fun x6 =>
    (pf Sh σ5 9 v0 0 (w32 (x6 + 1))).bind fun σ7 =>
    (gf Sh σ7 9 v0 0).bind fun x8 =>
    (f_X9_makeGap v0 (w32 (x8 - 1)) σ7).bind fun r9 =>
    some r9
  else
    some σ
theorem L_X9_addPlace_b0 {sc : Nat × (Nat → Int32)} {o : Mem} {v0 v1 : Int} {σ : Mem} (h : f_X9_addPlace_b0 v0 v1 σ = some o) : E sc (Fm Sh none Sh o) mt_X9_addPlace 2 Sh Sh 0 [(2, v0), (1, v1), (9, 0)] [] Sh σ := by
  unfold f_X9_addPlace_b0 at h
  refine E_aload_n d_X9_addPlace_0 rfl (by decide) ?_
  refine bd h (fun r1 q2 h => ?_)
  refine E_cV (as := []) (st := []) (a := v0) d_X9_addPlace_1 mk_X9_isFull nl_X9_75 (by omega) ⟨rfl, rfl, Nat.le_of_ble_eq_true rfl⟩ okX9 rfl (L_X9_isFull q2) ?_
  refine E_if_eq (tgt := 8) d_X9_addPlace_4 (by decide) h (fun _ h => ?_) (fun _ h => ?_)
  · refine E_aload_n d_X9_addPlace_8 rfl (by decide) ?_
    refine E_get d_X9_addPlace_9 okX9 fl_X9_24 ⟨by decide, rfl⟩ h (fun x3 h => ?_)
    refine E_aload_n d_X9_addPlace_12 rfl (by decide) ?_
    refine E_get d_X9_addPlace_13 okX9 fl_X9_42 ⟨by decide, rfl⟩ h (fun x4 h => ?_)
    refine E_lload_n d_X9_addPlace_16 rfl ?_
    refine E_lastore d_X9_addPlace_17 h (fun σ5 h => ?_)
    refine E_aload_n d_X9_addPlace_18 rfl (by decide) ?_
    refine E_dupT d_X9_addPlace_19 (by decide) ?_
    refine E_get d_X9_addPlace_20 okX9 fl_X9_42 ⟨by decide, rfl⟩ h (fun x6 h => ?_)
    refine E_iconst d_X9_addPlace_23 (c32 rfl) ?_
    refine E_iadd d_X9_addPlace_24 ?_
    refine E_put d_X9_addPlace_25 okX9 fl_X9_42 ⟨by decide, rfl⟩ (Or.inl ⟨rfl, rfl⟩) (Or.inl rfl) h (fun σ7 h => ?_)
    refine E_aload_n d_X9_addPlace_28 rfl (by decide) ?_
    refine E_aload_n d_X9_addPlace_29 rfl (by decide) ?_
    refine E_get d_X9_addPlace_30 okX9 fl_X9_42 ⟨by decide, rfl⟩ h (fun x8 h => ?_)
    refine E_iconst d_X9_addPlace_33 (c32 rfl) ?_
    refine E_isub d_X9_addPlace_34 ?_
    refine bd h (fun r9 q10 h => ?_)
    refine E_cVv (as := [(0, w32 (x8 - 1))]) (st := []) (a := v0) d_X9_addPlace_35 mk_X9_makeGap nl_X9_79 (by omega) ⟨rfl, rfl, Nat.le_of_ble_eq_true rfl⟩ okX9 rfl (L_X9_makeGap q10) ?_
    cases h
    exact E_vret d_X9_addPlace_38 rfl
  · cases h
    exact E_vret d_X9_addPlace_7 rfl
noncomputable def f_X9_addPlace (v0 v1 : Int) (σ : Mem) : Option (Mem) := if isO Sh 9 v0 = true then f_X9_addPlace_b0 v0 v1 σ else none
theorem L_X9_addPlace {o : Mem} {v0 v1 : Int} {σ : Mem} (h : f_X9_addPlace v0 v1 σ = some o) : (isO Sh 9 v0 = true ∧ Cn mt_X9_addPlace 2 [(2, v0), (1, v1)] Sh σ none Sh o) := ⟨(ite_ok h).1, Cn_of mk_X9_addPlace.1.2.2.1 (Nat.le_of_ble_eq_true rfl) (fun sc => L_X9_addPlace_b0 (ite_ok h).2)⟩
theorem d_X9_setStone_0 : decode mt_X9_setStone.2.1 0 = .ok (.aload_n 0, 1) := by decide +kernel
theorem d_X9_setStone_1 : decode mt_X9_setStone.2.1 1 = .ok (.dup, 1) := by decide +kernel
theorem d_X9_setStone_2 : decode mt_X9_setStone.2.1 2 = .ok (.getfield 45, 3) := by decide +kernel
theorem d_X9_setStone_5 : decode mt_X9_setStone.2.1 5 = .ok (.iconst 1, 1) := by decide +kernel
theorem d_X9_setStone_6 : decode mt_X9_setStone.2.1 6 = .ok (.iload_n 1, 1) := by decide +kernel
theorem d_X9_setStone_7 : decode mt_X9_setStone.2.1 7 = .ok (.ishl, 1) := by decide +kernel
theorem d_X9_setStone_8 : decode mt_X9_setStone.2.1 8 = .ok (.ior, 1) := by decide +kernel
theorem d_X9_setStone_9 : decode mt_X9_setStone.2.1 9 = .ok (.putfield 45, 3) := by decide +kernel
theorem d_X9_setStone_12 : decode mt_X9_setStone.2.1 12 = .ok (.aload_n 0, 1) := by decide +kernel
theorem d_X9_setStone_13 : decode mt_X9_setStone.2.1 13 = .ok (.getfield 9, 3) := by decide +kernel
theorem d_X9_setStone_16 : decode mt_X9_setStone.2.1 16 = .ok (.iload_n 1, 1) := by decide +kernel
theorem d_X9_setStone_17 : decode mt_X9_setStone.2.1 17 = .ok (.iload_n 2, 1) := by decide +kernel
theorem d_X9_setStone_18 : decode mt_X9_setStone.2.1 18 = .ok (.iastore, 1) := by decide +kernel
theorem d_X9_setStone_19 : decode mt_X9_setStone.2.1 19 = .ok (.aload_n 0, 1) := by decide +kernel
theorem d_X9_setStone_20 : decode mt_X9_setStone.2.1 20 = .ok (.getfield 15, 3) := by decide +kernel
theorem d_X9_setStone_23 : decode mt_X9_setStone.2.1 23 = .ok (.iload_n 1, 1) := by decide +kernel
theorem d_X9_setStone_24 : decode mt_X9_setStone.2.1 24 = .ok (.iload_n 3, 1) := by decide +kernel
theorem d_X9_setStone_25 : decode mt_X9_setStone.2.1 25 = .ok (.iastore, 1) := by decide +kernel
theorem d_X9_setStone_26 : decode mt_X9_setStone.2.1 26 = .ok (.aload_n 0, 1) := by decide +kernel
theorem d_X9_setStone_27 : decode mt_X9_setStone.2.1 27 = .ok (.getfield 18, 3) := by decide +kernel
theorem d_X9_setStone_30 : decode mt_X9_setStone.2.1 30 = .ok (.iload_n 1, 1) := by decide +kernel
theorem d_X9_setStone_31 : decode mt_X9_setStone.2.1 31 = .ok (.iload 4, 2) := by decide +kernel
theorem d_X9_setStone_33 : decode mt_X9_setStone.2.1 33 = .ok (.iastore, 1) := by decide +kernel
theorem d_X9_setStone_34 : decode mt_X9_setStone.2.1 34 = .ok (.return_, 1) := by decide +kernel
noncomputable def f_X9_setStone_b0 (v0 v1 v2 v3 v4 : Int) (σ : Mem) : Option (Mem) :=
  (gf Sh σ 9 v0 1).bind fun x1 =>
  (pf Sh σ 9 v0 1 (ior x1 (ishl 1 v1))).bind fun σ2 =>
  (gf Sh σ2 9 v0 2).bind fun x3 =>
  (st_ Sh σ2 20 x3 v1 v2).bind fun σ4 =>
  (gf Sh σ4 9 v0 3).bind fun x5 =>
  (st_ Sh σ4 20 x5 v1 v3).bind fun σ6 =>
  (gf Sh σ6 9 v0 4).bind fun x7 =>
  (st_ Sh σ6 20 x7 v1 v4).bind fun σ8 =>
  some σ8
theorem L_X9_setStone_b0 {sc : Nat × (Nat → Int32)} {o : Mem} {v0 v1 v2 v3 v4 : Int} {σ : Mem} (h : f_X9_setStone_b0 v0 v1 v2 v3 v4 σ = some o) : E sc (Fm Sh none Sh o) mt_X9_setStone 1 Sh Sh 0 [(2, v0), (0, v1), (0, v2), (0, v3), (0, v4)] [] Sh σ := by
  unfold f_X9_setStone_b0 at h
  refine E_aload_n d_X9_setStone_0 rfl (by decide) ?_
  refine E_dupT d_X9_setStone_1 (by decide) ?_
  refine E_get d_X9_setStone_2 okX9 fl_X9_45 ⟨by decide, rfl⟩ h (fun x1 h => ?_)
  refine E_iconst d_X9_setStone_5 (c32 rfl) ?_
  refine E_iload_n d_X9_setStone_6 rfl ?_
  refine E_ishl d_X9_setStone_7 ?_
  refine E_ior d_X9_setStone_8 ?_
  refine E_put d_X9_setStone_9 okX9 fl_X9_45 ⟨by decide, rfl⟩ (Or.inl ⟨rfl, rfl⟩) (Or.inl rfl) h (fun σ2 h => ?_)
  refine E_aload_n d_X9_setStone_12 rfl (by decide) ?_
  refine E_get d_X9_setStone_13 okX9 fl_X9_9 ⟨by decide, rfl⟩ h (fun x3 h => ?_)
  refine E_iload_n d_X9_setStone_16 rfl ?_
  refine E_iload_n d_X9_setStone_17 rfl ?_
  refine E_iastore d_X9_setStone_18 h (fun σ4 h => ?_)
  refine E_aload_n d_X9_setStone_19 rfl (by decide) ?_
  refine E_get d_X9_setStone_20 okX9 fl_X9_15 ⟨by decide, rfl⟩ h (fun x5 h => ?_)
  refine E_iload_n d_X9_setStone_23 rfl ?_
  refine E_iload_n d_X9_setStone_24 rfl ?_
  refine E_iastore d_X9_setStone_25 h (fun σ6 h => ?_)
  refine E_aload_n d_X9_setStone_26 rfl (by decide) ?_
  refine E_get d_X9_setStone_27 okX9 fl_X9_18 ⟨by decide, rfl⟩ h (fun x7 h => ?_)
  refine E_iload_n d_X9_setStone_30 rfl ?_
  refine E_iload d_X9_setStone_31 rfl ?_
  refine E_iastore d_X9_setStone_33 h (fun σ8 h => ?_)
  cases h
  exact E_vret d_X9_setStone_34 rfl
noncomputable def f_X9_setStone (v0 v1 v2 v3 v4 : Int) (σ : Mem) : Option (Mem) := if isO Sh 9 v0 = true then f_X9_setStone_b0 v0 v1 v2 v3 v4 σ else none
theorem L_X9_setStone {o : Mem} {v0 v1 v2 v3 v4 : Int} {σ : Mem} (h : f_X9_setStone v0 v1 v2 v3 v4 σ = some o) : (isO Sh 9 v0 = true ∧ Cn mt_X9_setStone 1 [(2, v0), (0, v1), (0, v2), (0, v3), (0, v4)] Sh σ none Sh o) := ⟨(ite_ok h).1, Cn_of mk_X9_setStone.1.2.2.1 (Nat.le_of_ble_eq_true rfl) (fun sc => L_X9_setStone_b0 (ite_ok h).2)⟩
theorem d_X10_readStone_0 : decode mt_X10_readStone.2.1 0 = .ok (.aload_n 0, 1) := by decide +kernel
theorem d_X10_readStone_1 : decode mt_X10_readStone.2.1 1 = .ok (.getfield 12, 3) := by decide +kernel
theorem d_X10_readStone_4 : decode mt_X10_readStone.2.1 4 = .ok (.invokevirtual 71, 3) := by decide +kernel
theorem d_X10_readStone_7 : decode mt_X10_readStone.2.1 7 = .ok (.ifCond .eq 13, 3) := by decide +kernel
theorem d_X10_readStone_10 : decode mt_X10_readStone.2.1 10 = .ok (.aload_n 0, 1) := by decide +kernel
theorem d_X10_readStone_11 : decode mt_X10_readStone.2.1 11 = .ok (.getfield 18, 3) := by decide +kernel
theorem d_X10_readStone_14 : decode mt_X10_readStone.2.1 14 = .ok (.bipush 6, 2) := by decide +kernel
theorem d_X10_readStone_16 : decode mt_X10_readStone.2.1 16 = .ok (.invokevirtual 51, 3) := by decide +kernel
theorem d_X10_readStone_19 : decode mt_X10_readStone.2.1 19 = .ok (.ireturn, 1) := by decide +kernel
theorem d_X10_readStone_20 : decode mt_X10_readStone.2.1 20 = .ok (.aload_n 0, 1) := by decide +kernel
theorem d_X10_readStone_21 : decode mt_X10_readStone.2.1 21 = .ok (.getfield 18, 3) := by decide +kernel
theorem d_X10_readStone_24 : decode mt_X10_readStone.2.1 24 = .ok (.invokevirtual 54, 3) := by decide +kernel
theorem d_X10_readStone_27 : decode mt_X10_readStone.2.1 27 = .ok (.aload_n 0, 1) := by decide +kernel
theorem d_X10_readStone_28 : decode mt_X10_readStone.2.1 28 = .ok (.getfield 18, 3) := by decide +kernel
theorem d_X10_readStone_31 : decode mt_X10_readStone.2.1 31 = .ok (.getfield 74, 3) := by decide +kernel
theorem d_X10_readStone_34 : decode mt_X10_readStone.2.1 34 = .ok (.lstore_n 1, 1) := by decide +kernel
theorem d_X10_readStone_35 : decode mt_X10_readStone.2.1 35 = .ok (.aload_n 0, 1) := by decide +kernel
theorem d_X10_readStone_36 : decode mt_X10_readStone.2.1 36 = .ok (.invokevirtual 78, 3) := by decide +kernel
theorem d_X10_readStone_39 : decode mt_X10_readStone.2.1 39 = .ok (.ifCond .eq 27, 3) := by decide +kernel
theorem d_X10_readStone_42 : decode mt_X10_readStone.2.1 42 = .ok (.aload_n 0, 1) := by decide +kernel
theorem d_X10_readStone_43 : decode mt_X10_readStone.2.1 43 = .ok (.getfield 18, 3) := by decide +kernel
theorem d_X10_readStone_46 : decode mt_X10_readStone.2.1 46 = .ok (.iconst 2, 1) := by decide +kernel
theorem d_X10_readStone_47 : decode mt_X10_readStone.2.1 47 = .ok (.invokevirtual 81, 3) := by decide +kernel
theorem d_X10_readStone_50 : decode mt_X10_readStone.2.1 50 = .ok (.ifCond .eq 16, 3) := by decide +kernel
theorem d_X10_readStone_53 : decode mt_X10_readStone.2.1 53 = .ok (.aload_n 0, 1) := by decide +kernel
theorem d_X10_readStone_54 : decode mt_X10_readStone.2.1 54 = .ok (.getfield 18, 3) := by decide +kernel
theorem d_X10_readStone_57 : decode mt_X10_readStone.2.1 57 = .ok (.iconst 0, 1) := by decide +kernel
theorem d_X10_readStone_58 : decode mt_X10_readStone.2.1 58 = .ok (.bipush 30, 2) := by decide +kernel
theorem d_X10_readStone_60 : decode mt_X10_readStone.2.1 60 = .ok (.invokevirtual 57, 3) := by decide +kernel
theorem d_X10_readStone_63 : decode mt_X10_readStone.2.1 63 = .ok (.ifCond .ne 5, 3) := by decide +kernel
theorem d_X10_readStone_66 : decode mt_X10_readStone.2.1 66 = .ok (.iconst 0, 1) := by decide +kernel
theorem d_X10_readStone_67 : decode mt_X10_readStone.2.1 67 = .ok (.ireturn, 1) := by decide +kernel
theorem d_X10_readStone_68 : decode mt_X10_readStone.2.1 68 = .ok (.aload_n 0, 1) := by decide +kernel
theorem d_X10_readStone_69 : decode mt_X10_readStone.2.1 69 = .ok (.getfield 18, 3) := by decide +kernel
theorem d_X10_readStone_72 : decode mt_X10_readStone.2.1 72 = .ok (.getfield 61, 3) := by decide +kernel
theorem d_X10_readStone_75 : decode mt_X10_readStone.2.1 75 = .ok (.istore_n 3, 1) := by decide +kernel
theorem d_X10_readStone_76 : decode mt_X10_readStone.2.1 76 = .ok (.aload_n 0, 1) := by decide +kernel
theorem d_X10_readStone_77 : decode mt_X10_readStone.2.1 77 = .ok (.iconst 3, 1) := by decide +kernel
theorem d_X10_readStone_78 : decode mt_X10_readStone.2.1 78 = .ok (.iconst 0, 1) := by decide +kernel
theorem d_X10_readStone_79 : decode mt_X10_readStone.2.1 79 = .ok (.bipush 9, 2) := by decide +kernel
theorem d_X10_readStone_81 : decode mt_X10_readStone.2.1 81 = .ok (.iconst 0, 1) := by decide +kernel
theorem d_X10_readStone_82 : decode mt_X10_readStone.2.1 82 = .ok (.invokevirtual 84, 3) := by decide +kernel
theorem d_X10_readStone_85 : decode mt_X10_readStone.2.1 85 = .ok (.istore 4, 2) := by decide +kernel
theorem d_X10_readStone_87 : decode mt_X10_readStone.2.1 87 = .ok (.iload 4, 2) := by decide +kernel
theorem d_X10_readStone_89 : decode mt_X10_readStone.2.1 89 = .ok (.iconst (-1), 1) := by decide +kernel
theorem d_X10_readStone_90 : decode mt_X10_readStone.2.1 90 = .ok (.if_icmp .ne 7, 3) := by decide +kernel
theorem d_X10_readStone_93 : decode mt_X10_readStone.2.1 93 = .ok (.iconst (-1), 1) := by decide +kernel
theorem d_X10_readStone_94 : decode mt_X10_readStone.2.1 94 = .ok (.goto 12, 3) := by decide +kernel
theorem d_X10_readStone_97 : decode mt_X10_readStone.2.1 97 = .ok (.aload_n 0, 1) := by decide +kernel
theorem d_X10_readStone_98 : decode mt_X10_readStone.2.1 98 = .ok (.iconst 4, 1) := by decide +kernel
theorem d_X10_readStone_99 : decode mt_X10_readStone.2.1 99 = .ok (.iconst 1, 1) := by decide +kernel
theorem d_X10_readStone_100 : decode mt_X10_readStone.2.1 100 = .ok (.bipush 9, 2) := by decide +kernel
theorem d_X10_readStone_102 : decode mt_X10_readStone.2.1 102 = .ok (.iconst 3, 1) := by decide +kernel
theorem d_X10_readStone_103 : decode mt_X10_readStone.2.1 103 = .ok (.invokevirtual 84, 3) := by decide +kernel
theorem d_X10_readStone_106 : decode mt_X10_readStone.2.1 106 = .ok (.istore 5, 2) := by decide +kernel
theorem d_X10_readStone_108 : decode mt_X10_readStone.2.1 108 = .ok (.iload 5, 2) := by decide +kernel
theorem d_X10_readStone_110 : decode mt_X10_readStone.2.1 110 = .ok (.iconst (-1), 1) := by decide +kernel
theorem d_X10_readStone_111 : decode mt_X10_readStone.2.1 111 = .ok (.if_icmp .ne 5, 3) := by decide +kernel
theorem d_X10_readStone_114 : decode mt_X10_readStone.2.1 114 = .ok (.iconst 0, 1) := by decide +kernel
theorem d_X10_readStone_115 : decode mt_X10_readStone.2.1 115 = .ok (.ireturn, 1) := by decide +kernel
theorem d_X10_readStone_116 : decode mt_X10_readStone.2.1 116 = .ok (.aload_n 0, 1) := by decide +kernel
theorem d_X10_readStone_117 : decode mt_X10_readStone.2.1 117 = .ok (.getfield 12, 3) := by decide +kernel
theorem d_X10_readStone_120 : decode mt_X10_readStone.2.1 120 = .ok (.lload_n 1, 1) := by decide +kernel
theorem d_X10_readStone_121 : decode mt_X10_readStone.2.1 121 = .ok (.invokevirtual 88, 3) := by decide +kernel
theorem d_X10_readStone_124 : decode mt_X10_readStone.2.1 124 = .ok (.aload_n 0, 1) := by decide +kernel
theorem d_X10_readStone_125 : decode mt_X10_readStone.2.1 125 = .ok (.getfield 12, 3) := by decide +kernel
theorem d_X10_readStone_128 : decode mt_X10_readStone.2.1 128 = .ok (.aload_n 0, 1) := by decide +kernel
theorem d_X10_readStone_129 : decode mt_X10_readStone.2.1 129 = .ok (.getfield 12, 3) := by decide +kernel
theorem d_X10_readStone_132 : decode mt_X10_readStone.2.1 132 = .ok (.getfield 92, 3) := by decide +kernel
theorem d_X10_readStone_135 : decode mt_X10_readStone.2.1 135 = .ok (.iconst 1, 1) := by decide +kernel
theorem d_X10_readStone_136 : decode mt_X10_readStone.2.1 136 = .ok (.isub, 1) := by decide +kernel
theorem d_X10_readStone_137 : decode mt_X10_readStone.2.1 137 = .ok (.iload_n 3, 1) := by decide +kernel
theorem d_X10_readStone_138 : decode mt_X10_readStone.2.1 138 = .ok (.iload 4, 2) := by decide +kernel
theorem d_X10_readStone_140 : decode mt_X10_readStone.2.1 140 = .ok (.iload 5, 2) := by decide +kernel
theorem d_X10_readStone_142 : decode mt_X10_readStone.2.1 142 = .ok (.invokevirtual 95, 3) := by decide +kernel
theorem d_X10_readStone_145 : decode mt_X10_readStone.2.1 145 = .ok (.aload_n 0, 1) := by decide +kernel
theorem d_X10_readStone_146 : decode mt_X10_readStone.2.1 146 = .ok (.getfield 18, 3) := by decide +kernel
theorem d_X10_readStone_149 : decode mt_X10_readStone.2.1 149 = .ok (.bipush 59, 2) := by decide +kernel
theorem d_X10_readStone_151 : decode mt_X10_readStone.2.1 151 = .ok (.invokevirtual 68, 3) := by decide +kernel
theorem d_X10_readStone_154 : decode mt_X10_readStone.2.1 154 = .ok (.ireturn, 1) := by decide +kernel
noncomputable def f_X10_readStone_b106 (v0 v1 v3 v4 s0 : Int) (σ : Mem) : Option (Int × Mem) :=
  if s0 = (-1) then
    some (0, σ)
  else
    (gf Sh σ 10 v0 1).bind fun x27 =>
    (f_X9_addPlace x27 v1 σ).bind fun r28 =>
    (gf Sh r28 10 v0 1).bind fun x30 =>
    (gf Sh r28 10 v0 1).bind fun x31 =>
    (gf Sh r28 9 x31 0).bind fun x32 =>
    (f_X9_setStone x30 (w32 (x32 - 1)) v3 v4 s0 r28).bind fun r33 =>
    (gf Sh r33 10 v0 0).bind fun x35 =>
    (f_X7_takeSign x35 59 r33).bind fun r36 =>
    (bz r36.1).bind fun _ =>
    some (r36.1, r36.2)
theorem L_X10_readStone_b106 {sc : Nat × (Nat → Int32)} {o : Int × Mem} {v0 v1 v3 v4 s0 : Int} {σ : Mem} (h : f_X10_readStone_b106 v0 v1 v3 v4 s0 σ = some o) : E sc (Fm Sh (some (0, o.1)) Sh o.2) mt_X10_readStone 6 Sh Sh 106 [(2, v0), (1, v1), (9, 0), (0, v3), (0, v4), (9, 0)] [(0, s0)] Sh σ := by
  unfold f_X10_readStone_b106 at h
  refine E_istore d_X10_readStone_106 (ls' := [(2, v0), (1, v1), (9, 0), (0, v3), (0, v4), (0, s0)]) ⟨by decide, rfl⟩ ?_
  refine E_iload d_X10_readStone_108 rfl ?_
  refine E_iconst d_X10_readStone_110 (c32 rfl) ?_
  refine E_icmp_ne (tgt := 116) d_X10_readStone_111 (by decide) h (fun _ h => ?_) (fun _ h => ?_)
  · refine E_iconst d_X10_readStone_114 (c32 rfl) ?_
    cases h
    exact E_zret d_X10_readStone_115 rfl (Or.inl rfl)
  · refine E_aload_n d_X10_readStone_116 rfl (by decide) ?_
    refine E_get d_X10_readStone_117 okX10 fl_X10_12 ⟨by decide, rfl⟩ h (fun x27 h => ?_)
    refine E_lload_n d_X10_readStone_120 rfl ?_
    refine bd h (fun r28 q29 h => ?_)
    refine E_cVv (as := [(1, v1)]) (st := []) (a := x27) d_X10_readStone_121 mk_X9_addPlace nl_X10_88 (by omega) ⟨rfl, rfl, Nat.le_of_ble_eq_true rfl⟩ okX9 rfl (L_X9_addPlace q29) ?_
    refine E_aload_n d_X10_readStone_124 rfl (by decide) ?_
    refine E_get d_X10_readStone_125 okX10 fl_X10_12 ⟨by decide, rfl⟩ h (fun x30 h => ?_)
    refine E_aload_n d_X10_readStone_128 rfl (by decide) ?_
    refine E_get d_X10_readStone_129 okX10 fl_X10_12 ⟨by decide, rfl⟩ h (fun x31 h => ?_)
    refine E_get d_X10_readStone_132 okX9 fl_X10_92 ⟨by decide, rfl⟩ h (fun x32 h => ?_)
    refine E_iconst d_X10_readStone_135 (c32 rfl) ?_
    refine E_isub d_X10_readStone_136 ?_
    refine E_iload_n d_X10_readStone_137 rfl ?_
    refine E_iload d_X10_readStone_138 rfl ?_
    refine E_iload d_X10_readStone_140 rfl ?_
    refine bd h (fun r33 q34 h => ?_)
    refine E_cVv (as := [(0, w32 (x32 - 1)), (0, v3), (0, v4), (0, s0)]) (st := []) (a := x30) d_X10_readStone_142 mk_X9_setStone nl_X10_95 (by omega) ⟨rfl, rfl, Nat.le_of_ble_eq_true rfl⟩ okX9 rfl (L_X9_setStone q34) ?_
    refine E_aload_n d_X10_readStone_145 rfl (by decide) ?_
    refine E_get d_X10_readStone_146 okX10 fl_X10_18 ⟨by decide, rfl⟩ h (fun x35 h => ?_)
    refine E_bipush d_X10_readStone_149 (c8 rfl) ?_
    refine bd h (fun r36 q37 h => ?_)
    refine E_cV (as := [(0, 59)]) (st := []) (a := x35) d_X10_readStone_151 mk_X7_takeSign nl_X10_68 (by omega) ⟨rfl, rfl, Nat.le_of_ble_eq_true rfl⟩ okX7 rfl (L_X7_takeSign q37) ?_
    refine bd_bz h (fun q38 h => ?_)
    cases h
    exact E_zret d_X10_readStone_154 rfl q38
noncomputable def f_X10_readStone_b0 (v0 : Int) (σ : Mem) : Option (Int × Mem) :=
  (gf Sh σ 10 v0 1).bind fun x1 =>
  (f_X9_isFull x1 σ).bind fun r2 =>
  if r2 = 0 then
    (gf Sh σ 10 v0 0).bind fun x4 =>
    (f_X7_step x4 σ).bind fun r5 =>
    (gf Sh r5 10 v0 0).bind fun x7 =>
    (gf Sh r5 7 x7 6).bind fun x8 =>
    (f_X10_takeNewName v0 r5).bind fun r9 =>
    if r9.1 = 0 then
      some (0, r9.2)
    else
      (gf Sh r9.2 10 v0 0).bind fun x11 =>
      (f_X7_takeWord x11 2 r9.2).bind fun r12 =>
      if r12.1 = 0 then
        some (0, r12.2)
      else
        (gf Sh r12.2 10 v0 0).bind fun x14 =>
        (f_X7_takeNumber x14 0 30 r12.2).bind fun r15 =>
        if r15.1 = 0 then
          some (0, r15.2)
        else
          (gf Sh r15.2 10 v0 0).bind fun x17 =>
          (gf Sh r15.2 7 x17 9).bind fun x18 =>
          (f_X10_readPerhaps v0 3 0 9 0 r15.2).bind fun r19 =>
          if r19.1 = (-1) then
            f_X10_readStone_b106 v0 x8 x18 r19.1 (-1) r19.2
          else
            (f_X10_readPerhaps v0 4 1 9 3 r19.2).bind fun r21 =>
            f_X10_readStone_b106 v0 x8 x18 r19.1 r21.1 r21.2
  else
    (gf Sh σ 10 v0 0).bind fun x23 =>
    (f_X7_refuse x23 6 σ).bind fun r24 =>
    (bz r24.1).bind fun _ =>
    some (r24.1, r24.2)
theorem L_X10_readStone_b0 {sc : Nat × (Nat → Int32)} {o : Int × Mem} {v0 : Int} {σ : Mem} (h : f_X10_readStone_b0 v0 σ = some o) : E sc (Fm Sh (some (0, o.1)) Sh o.2) mt_X10_readStone 6 Sh Sh 0 [(2, v0), (9, 0), (9, 0), (9, 0), (9, 0), (9, 0)] [] Sh σ := by
  unfold f_X10_readStone_b0 at h
  refine E_aload_n d_X10_readStone_0 rfl (by decide) ?_
  refine E_get d_X10_readStone_1 okX10 fl_X10_12 ⟨by decide, rfl⟩ h (fun x1 h => ?_)
  refine bd h (fun r2 q3 h => ?_)
  refine E_cV (as := []) (st := []) (a := x1) d_X10_readStone_4 mk_X9_isFull nl_X10_71 (by omega) ⟨rfl, rfl, Nat.le_of_ble_eq_true rfl⟩ okX9 rfl (L_X9_isFull q3) ?_
  refine E_if_eq (tgt := 20) d_X10_readStone_7 (by decide) h (fun _ h => ?_) (fun _ h => ?_)
  · refine E_aload_n d_X10_readStone_20 rfl (by decide) ?_
    refine E_get d_X10_readStone_21 okX10 fl_X10_18 ⟨by decide, rfl⟩ h (fun x4 h => ?_)
    refine bd h (fun r5 q6 h => ?_)
    refine E_cVv (as := []) (st := []) (a := x4) d_X10_readStone_24 mk_X7_step nl_X10_54 (by omega) ⟨rfl, rfl, Nat.le_of_ble_eq_true rfl⟩ okX7 rfl (L_X7_step q6) ?_
    refine E_aload_n d_X10_readStone_27 rfl (by decide) ?_
    refine E_get d_X10_readStone_28 okX10 fl_X10_18 ⟨by decide, rfl⟩ h (fun x7 h => ?_)
    refine E_get d_X10_readStone_31 okX7 fl_X10_74 ⟨by decide, rfl⟩ h (fun x8 h => ?_)
    refine E_lstore_n d_X10_readStone_34 (ls' := [(2, v0), (1, x8), (9, 0), (9, 0), (9, 0), (9, 0)]) ⟨by decide, rfl⟩ ?_
    refine E_aload_n d_X10_readStone_35 rfl (by decide) ?_
    refine bd h (fun r9 q10 h => ?_)
    refine E_cV (as := []) (st := []) (a := v0) d_X10_readStone_36 mk_X10_takeNewName nl_X10_78 (by omega) ⟨rfl, rfl, Nat.le_of_ble_eq_true rfl⟩ okX10 rfl (L_X10_takeNewName q10) ?_
    refine E_if_eq (tgt := 66) d_X10_readStone_39 (by decide) h (fun _ h => ?_) (fun _ h => ?_)
    · refine E_iconst d_X10_readStone_66 (c32 rfl) ?_
      cases h
      exact E_zret d_X10_readStone_67 rfl (Or.inl rfl)
    · refine E_aload_n d_X10_readStone_42 rfl (by decide) ?_
      refine E_get d_X10_readStone_43 okX10 fl_X10_18 ⟨by decide, rfl⟩ h (fun x11 h => ?_)
      refine E_iconst d_X10_readStone_46 (c32 rfl) ?_
      refine bd h (fun r12 q13 h => ?_)
      refine E_cV (as := [(0, 2)]) (st := []) (a := x11) d_X10_readStone_47 mk_X7_takeWord nl_X10_81 (by omega) ⟨rfl, rfl, Nat.le_of_ble_eq_true rfl⟩ okX7 rfl (L_X7_takeWord q13) ?_
      refine E_if_eq (tgt := 66) d_X10_readStone_50 (by decide) h (fun _ h => ?_) (fun _ h => ?_)
      · refine E_iconst d_X10_readStone_66 (c32 rfl) ?_
        cases h
        exact E_zret d_X10_readStone_67 rfl (Or.inl rfl)
      · refine E_aload_n d_X10_readStone_53 rfl (by decide) ?_
        refine E_get d_X10_readStone_54 okX10 fl_X10_18 ⟨by decide, rfl⟩ h (fun x14 h => ?_)
        refine E_iconst d_X10_readStone_57 (c32 rfl) ?_
        refine E_bipush d_X10_readStone_58 (c8 rfl) ?_
        refine bd h (fun r15 q16 h => ?_)
        refine E_cV (as := [(0, 0), (0, 30)]) (st := []) (a := x14) d_X10_readStone_60 mk_X7_takeNumber nl_X10_57 (by omega) ⟨rfl, rfl, Nat.le_of_ble_eq_true rfl⟩ okX7 rfl (L_X7_takeNumber q16) ?_
        refine E_if_ne (tgt := 68) d_X10_readStone_63 (by decide) h (fun _ h => ?_) (fun _ h => ?_)
        · refine E_iconst d_X10_readStone_66 (c32 rfl) ?_
          cases h
          exact E_zret d_X10_readStone_67 rfl (Or.inl rfl)
        · refine E_aload_n d_X10_readStone_68 rfl (by decide) ?_
          refine E_get d_X10_readStone_69 okX10 fl_X10_18 ⟨by decide, rfl⟩ h (fun x17 h => ?_)
          refine E_get d_X10_readStone_72 okX7 fl_X10_61 ⟨by decide, rfl⟩ h (fun x18 h => ?_)
          refine E_istore_n d_X10_readStone_75 (ls' := [(2, v0), (1, x8), (9, 0), (0, x18), (9, 0), (9, 0)]) ⟨by decide, rfl⟩ ?_
          refine E_aload_n d_X10_readStone_76 rfl (by decide) ?_
          refine E_iconst d_X10_readStone_77 (c32 rfl) ?_
          refine E_iconst d_X10_readStone_78 (c32 rfl) ?_
          refine E_bipush d_X10_readStone_79 (c8 rfl) ?_
          refine E_iconst d_X10_readStone_81 (c32 rfl) ?_
          refine bd h (fun r19 q20 h => ?_)
          refine E_cV (as := [(0, 3), (0, 0), (0, 9), (0, 0)]) (st := []) (a := v0) d_X10_readStone_82 mk_X10_readPerhaps nl_X10_84 (by omega) ⟨rfl, rfl, Nat.le_of_ble_eq_true rfl⟩ okX10 rfl (L_X10_readPerhaps q20) ?_
          refine E_istore d_X10_readStone_85 (ls' := [(2, v0), (1, x8), (9, 0), (0, x18), (0, r19.1), (9, 0)]) ⟨by decide, rfl⟩ ?_
          refine E_iload d_X10_readStone_87 rfl ?_
          refine E_iconst d_X10_readStone_89 (c32 rfl) ?_
          refine E_icmp_ne (tgt := 97) d_X10_readStone_90 (by decide) h (fun _ h => ?_) (fun _ h => ?_)
          · refine E_iconst d_X10_readStone_93 (c32 rfl) ?_
            refine E_goto (tgt := 106) d_X10_readStone_94 (by decide) ?_
            exact (L_X10_readStone_b106 h)
          · refine E_aload_n d_X10_readStone_97 rfl (by decide) ?_
            refine E_iconst d_X10_readStone_98 (c32 rfl) ?_
            refine E_iconst d_X10_readStone_99 (c32 rfl) ?_
            refine E_bipush d_X10_readStone_100 (c8 rfl) ?_
            refine E_iconst d_X10_readStone_102 (c32 rfl) ?_
            refine bd h (fun r21 q22 h => ?_)
            refine E_cV (as := [(0, 4), (0, 1), (0, 9), (0, 3)]) (st := []) (a := v0) d_X10_readStone_103 mk_X10_readPerhaps nl_X10_84 (by omega) ⟨rfl, rfl, Nat.le_of_ble_eq_true rfl⟩ okX10 rfl (L_X10_readPerhaps q22) ?_
            exact (L_X10_readStone_b106 h)
  · refine E_aload_n d_X10_readStone_10 rfl (by decide) ?_
    refine E_get d_X10_readStone_11 okX10 fl_X10_18 ⟨by decide, rfl⟩ h (fun x23 h => ?_)
    refine E_bipush d_X10_readStone_14 (c8 rfl) ?_
    refine bd h (fun r24 q25 h => ?_)
    refine E_cV (as := [(0, 6)]) (st := []) (a := x23) d_X10_readStone_16 mk_X7_refuse nl_X10_51 (by omega) ⟨rfl, rfl, Nat.le_of_ble_eq_true rfl⟩ okX7 rfl (L_X7_refuse q25) ?_
    refine bd_bz h (fun q26 h => ?_)
    cases h
    exact E_zret d_X10_readStone_19 rfl q26
noncomputable def f_X10_readStone (v0 : Int) (σ : Mem) : Option (Int × Mem) := if isO Sh 10 v0 = true then f_X10_readStone_b0 v0 σ else none
theorem L_X10_readStone {o : Int × Mem} {v0 : Int} {σ : Mem} (h : f_X10_readStone v0 σ = some o) : (isO Sh 10 v0 = true ∧ Cn mt_X10_readStone 6 [(2, v0)] Sh σ (some (0, o.1)) Sh o.2) := ⟨(ite_ok h).1, Cn_of mk_X10_readStone.1.2.2.1 (Nat.le_of_ble_eq_true rfl) (fun sc => L_X10_readStone_b0 (ite_ok h).2)⟩
theorem d_X9_addGap_0 : decode mt_X9_addGap.2.1 0 = .ok (.aload_n 0, 1) := by decide +kernel
theorem d_X9_addGap_1 : decode mt_X9_addGap.2.1 1 = .ok (.lconst 0, 1) := by decide +kernel
theorem d_X9_addGap_2 : decode mt_X9_addGap.2.1 2 = .ok (.invokevirtual 71, 3) := by decide +kernel
theorem d_X9_addGap_5 : decode mt_X9_addGap.2.1 5 = .ok (.return_, 1) := by decide +kernel
noncomputable def f_X9_addGap_b0 (v0 : Int) (σ : Mem) : Option (Mem) :=
  (f_X9_addPlace v0 0 σ).bind fun r1 =>
  some r1
theorem L_X9_addGap_b0 {sc : Nat × (Nat → Int32)} {o : Mem} {v0 : Int} {σ : Mem} (h : f_X9_addGap_b0 v0 σ = some o) : E sc (Fm Sh none Sh o) mt_X9_addGap 3 Sh Sh 0 [(2, v0)] [] Sh σ := by
  unfold f_X9_addGap_b0 at h
  refine E_aload_n d_X9_addGap_0 rfl (by decide) ?_
  refine E_lconst d_X9_addGap_1 cl0 ?_
  refine bd h (fun r1 q2 h => ?_)
  refine E_cVv (as := [(1, 0)]) (st := []) (a := v0) d_X9_addGap_2 mk_X9_addPlace nl_X9_71 (by omega) ⟨rfl, rfl, Nat.le_of_ble_eq_true rfl⟩ okX9 rfl (L_X9_addPlace q2) ?_
  cases h
  exact E_vret d_X9_addGap_5 rfl
noncomputable def f_X9_addGap (v0 : Int) (σ : Mem) : Option (Mem) := if isO Sh 9 v0 = true then f_X9_addGap_b0 v0 σ else none
theorem L_X9_addGap {o : Mem} {v0 : Int} {σ : Mem} (h : f_X9_addGap v0 σ = some o) : (isO Sh 9 v0 = true ∧ Cn mt_X9_addGap 3 [(2, v0)] Sh σ none Sh o) := ⟨(ite_ok h).1, Cn_of mk_X9_addGap.1.2.2.1 (Nat.le_of_ble_eq_true rfl) (fun sc => L_X9_addGap_b0 (ite_ok h).2)⟩
theorem d_X10_readGap_0 : decode mt_X10_readGap.2.1 0 = .ok (.aload_n 0, 1) := by decide +kernel
theorem d_X10_readGap_1 : decode mt_X10_readGap.2.1 1 = .ok (.getfield 12, 3) := by decide +kernel
theorem d_X10_readGap_4 : decode mt_X10_readGap.2.1 4 = .ok (.invokevirtual 71, 3) := by decide +kernel
theorem d_X10_readGap_7 : decode mt_X10_readGap.2.1 7 = .ok (.ifCond .eq 13, 3) := by decide +kernel
theorem d_X10_readGap_10 : decode mt_X10_readGap.2.1 10 = .ok (.aload_n 0, 1) := by decide +kernel
theorem d_X10_readGap_11 : decode mt_X10_readGap.2.1 11 = .ok (.getfield 18, 3) := by decide +kernel
theorem d_X10_readGap_14 : decode mt_X10_readGap.2.1 14 = .ok (.bipush 6, 2) := by decide +kernel
theorem d_X10_readGap_16 : decode mt_X10_readGap.2.1 16 = .ok (.invokevirtual 51, 3) := by decide +kernel
theorem d_X10_readGap_19 : decode mt_X10_readGap.2.1 19 = .ok (.ireturn, 1) := by decide +kernel
theorem d_X10_readGap_20 : decode mt_X10_readGap.2.1 20 = .ok (.aload_n 0, 1) := by decide +kernel
theorem d_X10_readGap_21 : decode mt_X10_readGap.2.1 21 = .ok (.getfield 18, 3) := by decide +kernel
theorem d_X10_readGap_24 : decode mt_X10_readGap.2.1 24 = .ok (.invokevirtual 54, 3) := by decide +kernel
theorem d_X10_readGap_27 : decode mt_X10_readGap.2.1 27 = .ok (.aload_n 0, 1) := by decide +kernel
theorem d_X10_readGap_28 : decode mt_X10_readGap.2.1 28 = .ok (.getfield 12, 3) := by decide +kernel
theorem d_X10_readGap_31 : decode mt_X10_readGap.2.1 31 = .ok (.invokevirtual 99, 3) := by decide +kernel
theorem d_X10_readGap_34 : decode mt_X10_readGap.2.1 34 = .ok (.aload_n 0, 1) := by decide +kernel
theorem d_X10_readGap_35 : decode mt_X10_readGap.2.1 35 = .ok (.getfield 18, 3) := by decide +kernel
theorem d_X10_readGap_38 : decode mt_X10_readGap.2.1 38 = .ok (.bipush 59, 2) := by decide +kernel
theorem d_X10_readGap_40 : decode mt_X10_readGap.2.1 40 = .ok (.invokevirtual 68, 3) := by decide +kernel
theorem d_X10_readGap_43 : decode mt_X10_readGap.2.1 43 = .ok (.ireturn, 1) := by decide +kernel
noncomputable def f_X10_readGap_b0 (v0 : Int) (σ : Mem) : Option (Int × Mem) :=
  (gf Sh σ 10 v0 1).bind fun x1 =>
  (f_X9_isFull x1 σ).bind fun r2 =>
  if r2 = 0 then
    (gf Sh σ 10 v0 0).bind fun x4 =>
    (f_X7_step x4 σ).bind fun r5 =>
    (gf Sh r5 10 v0 1).bind fun x7 =>
    (f_X9_addGap x7 r5).bind fun r8 =>
    (gf Sh r8 10 v0 0).bind fun x10 =>
    (f_X7_takeSign x10 59 r8).bind fun r11 =>
    (bz r11.1).bind fun _ =>
    some (r11.1, r11.2)
  else
    (gf Sh σ 10 v0 0).bind fun x14 =>
    (f_X7_refuse x14 6 σ).bind fun r15 =>
    (bz r15.1).bind fun _ =>
    some (r15.1, r15.2)
theorem L_X10_readGap_b0 {sc : Nat × (Nat → Int32)} {o : Int × Mem} {v0 : Int} {σ : Mem} (h : f_X10_readGap_b0 v0 σ = some o) : E sc (Fm Sh (some (0, o.1)) Sh o.2) mt_X10_readGap 5 Sh Sh 0 [(2, v0)] [] Sh σ := by
  unfold f_X10_readGap_b0 at h
  refine E_aload_n d_X10_readGap_0 rfl (by decide) ?_
  refine E_get d_X10_readGap_1 okX10 fl_X10_12 ⟨by decide, rfl⟩ h (fun x1 h => ?_)
  refine bd h (fun r2 q3 h => ?_)
  refine E_cV (as := []) (st := []) (a := x1) d_X10_readGap_4 mk_X9_isFull nl_X10_71 (by omega) ⟨rfl, rfl, Nat.le_of_ble_eq_true rfl⟩ okX9 rfl (L_X9_isFull q3) ?_
  refine E_if_eq (tgt := 20) d_X10_readGap_7 (by decide) h (fun _ h => ?_) (fun _ h => ?_)
  · refine E_aload_n d_X10_readGap_20 rfl (by decide) ?_
    refine E_get d_X10_readGap_21 okX10 fl_X10_18 ⟨by decide, rfl⟩ h (fun x4 h => ?_)
    refine bd h (fun r5 q6 h => ?_)
    refine E_cVv (as := []) (st := []) (a := x4) d_X10_readGap_24 mk_X7_step nl_X10_54 (by omega) ⟨rfl, rfl, Nat.le_of_ble_eq_true rfl⟩ okX7 rfl (L_X7_step q6) ?_
    refine E_aload_n d_X10_readGap_27 rfl (by decide) ?_
    refine E_get d_X10_readGap_28 okX10 fl_X10_12 ⟨by decide, rfl⟩ h (fun x7 h => ?_)
    refine bd h (fun r8 q9 h => ?_)
    refine E_cVv (as := []) (st := []) (a := x7) d_X10_readGap_31 mk_X9_addGap nl_X10_99 (by omega) ⟨rfl, rfl, Nat.le_of_ble_eq_true rfl⟩ okX9 rfl (L_X9_addGap q9) ?_
    refine E_aload_n d_X10_readGap_34 rfl (by decide) ?_
    refine E_get d_X10_readGap_35 okX10 fl_X10_18 ⟨by decide, rfl⟩ h (fun x10 h => ?_)
    refine E_bipush d_X10_readGap_38 (c8 rfl) ?_
    refine bd h (fun r11 q12 h => ?_)
    refine E_cV (as := [(0, 59)]) (st := []) (a := x10) d_X10_readGap_40 mk_X7_takeSign nl_X10_68 (by omega) ⟨rfl, rfl, Nat.le_of_ble_eq_true rfl⟩ okX7 rfl (L_X7_takeSign q12) ?_
    refine bd_bz h (fun q13 h => ?_)
    cases h
    exact E_zret d_X10_readGap_43 rfl q13
  · refine E_aload_n d_X10_readGap_10 rfl (by decide) ?_
    refine E_get d_X10_readGap_11 okX10 fl_X10_18 ⟨by decide, rfl⟩ h (fun x14 h => ?_)
    refine E_bipush d_X10_readGap_14 (c8 rfl) ?_
    refine bd h (fun r15 q16 h => ?_)
    refine E_cV (as := [(0, 6)]) (st := []) (a := x14) d_X10_readGap_16 mk_X7_refuse nl_X10_51 (by omega) ⟨rfl, rfl, Nat.le_of_ble_eq_true rfl⟩ okX7 rfl (L_X7_refuse q16) ?_
    refine bd_bz h (fun q17 h => ?_)
    cases h
    exact E_zret d_X10_readGap_19 rfl q17
noncomputable def f_X10_readGap (v0 : Int) (σ : Mem) : Option (Int × Mem) := if isO Sh 10 v0 = true then f_X10_readGap_b0 v0 σ else none
theorem L_X10_readGap {o : Int × Mem} {v0 : Int} {σ : Mem} (h : f_X10_readGap v0 σ = some o) : (isO Sh 10 v0 = true ∧ Cn mt_X10_readGap 5 [(2, v0)] Sh σ (some (0, o.1)) Sh o.2) := ⟨(ite_ok h).1, Cn_of mk_X10_readGap.1.2.2.1 (Nat.le_of_ble_eq_true rfl) (fun sc => L_X10_readGap_b0 (ite_ok h).2)⟩
theorem d_X9_moveCrow_0 : decode mt_X9_moveCrow.2.1 0 = .ok (.aload_n 0, 1) := by decide +kernel
theorem d_X9_moveCrow_1 : decode mt_X9_moveCrow.2.1 1 = .ok (.getfield 31, 3) := by decide +kernel
theorem d_X9_moveCrow_4 : decode mt_X9_moveCrow.2.1 4 = .ok (.iload_n 1, 1) := by decide +kernel
theorem d_X9_moveCrow_5 : decode mt_X9_moveCrow.2.1 5 = .ok (.baload, 1) := by decide +kernel
theorem d_X9_moveCrow_6 : decode mt_X9_moveCrow.2.1 6 = .ok (.ifCond .eq 7, 3) := by decide +kernel
theorem d_X9_moveCrow_9 : decode mt_X9_moveCrow.2.1 9 = .ok (.iconst 3, 1) := by decide +kernel
theorem d_X9_moveCrow_10 : decode mt_X9_moveCrow.2.1 10 = .ok (.goto 5, 3) := by decide +kernel
theorem d_X9_moveCrow_13 : decode mt_X9_moveCrow.2.1 13 = .ok (.bipush (-3), 2) := by decide +kernel
theorem d_X9_moveCrow_15 : decode mt_X9_moveCrow.2.1 15 = .ok (.istore_n 3, 1) := by decide +kernel
theorem d_X9_moveCrow_16 : decode mt_X9_moveCrow.2.1 16 = .ok (.aload_n 0, 1) := by decide +kernel
theorem d_X9_moveCrow_17 : decode mt_X9_moveCrow.2.1 17 = .ok (.getfield 28, 3) := by decide +kernel
theorem d_X9_moveCrow_20 : decode mt_X9_moveCrow.2.1 20 = .ok (.iload_n 1, 1) := by decide +kernel
theorem d_X9_moveCrow_21 : decode mt_X9_moveCrow.2.1 21 = .ok (.iaload, 1) := by decide +kernel
theorem d_X9_moveCrow_22 : decode mt_X9_moveCrow.2.1 22 = .ok (.iconst (-1), 1) := by decide +kernel
theorem d_X9_moveCrow_23 : decode mt_X9_moveCrow.2.1 23 = .ok (.if_icmp .eq 18, 3) := by decide +kernel
theorem d_X9_moveCrow_26 : decode mt_X9_moveCrow.2.1 26 = .ok (.aload_n 0, 1) := by decide +kernel
theorem d_X9_moveCrow_27 : decode mt_X9_moveCrow.2.1 27 = .ok (.getfield 21, 3) := by decide +kernel
theorem d_X9_moveCrow_30 : decode mt_X9_moveCrow.2.1 30 = .ok (.aload_n 0, 1) := by decide +kernel
theorem d_X9_moveCrow_31 : decode mt_X9_moveCrow.2.1 31 = .ok (.getfield 28, 3) := by decide +kernel
theorem d_X9_moveCrow_34 : decode mt_X9_moveCrow.2.1 34 = .ok (.iload_n 1, 1) := by decide +kernel
theorem d_X9_moveCrow_35 : decode mt_X9_moveCrow.2.1 35 = .ok (.iaload, 1) := by decide +kernel
theorem d_X9_moveCrow_36 : decode mt_X9_moveCrow.2.1 36 = .ok (.dup2, 1) := by decide +kernel
theorem d_X9_moveCrow_37 : decode mt_X9_moveCrow.2.1 37 = .ok (.iaload, 1) := by decide +kernel
theorem d_X9_moveCrow_38 : decode mt_X9_moveCrow.2.1 38 = .ok (.iload_n 3, 1) := by decide +kernel
theorem d_X9_moveCrow_39 : decode mt_X9_moveCrow.2.1 39 = .ok (.isub, 1) := by decide +kernel
theorem d_X9_moveCrow_40 : decode mt_X9_moveCrow.2.1 40 = .ok (.iastore, 1) := by decide +kernel
theorem d_X9_moveCrow_41 : decode mt_X9_moveCrow.2.1 41 = .ok (.aload_n 0, 1) := by decide +kernel
theorem d_X9_moveCrow_42 : decode mt_X9_moveCrow.2.1 42 = .ok (.getfield 21, 3) := by decide +kernel
theorem d_X9_moveCrow_45 : decode mt_X9_moveCrow.2.1 45 = .ok (.iload_n 2, 1) := by decide +kernel
theorem d_X9_moveCrow_46 : decode mt_X9_moveCrow.2.1 46 = .ok (.dup2, 1) := by decide +kernel
theorem d_X9_moveCrow_47 : decode mt_X9_moveCrow.2.1 47 = .ok (.iaload, 1) := by decide +kernel
theorem d_X9_moveCrow_48 : decode mt_X9_moveCrow.2.1 48 = .ok (.iload_n 3, 1) := by decide +kernel
theorem d_X9_moveCrow_49 : decode mt_X9_moveCrow.2.1 49 = .ok (.iadd, 1) := by decide +kernel
theorem d_X9_moveCrow_50 : decode mt_X9_moveCrow.2.1 50 = .ok (.iastore, 1) := by decide +kernel
theorem d_X9_moveCrow_51 : decode mt_X9_moveCrow.2.1 51 = .ok (.aload_n 0, 1) := by decide +kernel
theorem d_X9_moveCrow_52 : decode mt_X9_moveCrow.2.1 52 = .ok (.getfield 28, 3) := by decide +kernel
theorem d_X9_moveCrow_55 : decode mt_X9_moveCrow.2.1 55 = .ok (.iload_n 1, 1) := by decide +kernel
theorem d_X9_moveCrow_56 : decode mt_X9_moveCrow.2.1 56 = .ok (.iload_n 2, 1) := by decide +kernel
theorem d_X9_moveCrow_57 : decode mt_X9_moveCrow.2.1 57 = .ok (.iastore, 1) := by decide +kernel
theorem d_X9_moveCrow_58 : decode mt_X9_moveCrow.2.1 58 = .ok (.return_, 1) := by decide +kernel
noncomputable def f_X9_moveCrow_b41 (v0 v1 v2 v3 : Int) (σ : Mem) : Option (Mem) :=
  (gf Sh σ 9 v0 5).bind fun x10 =>
  (al Sh σ 20 x10 v2).bind fun x11 =>
  (st_ Sh σ 20 x10 v2 (w32 (x11 + v3))).bind fun σ12 =>
  (gf Sh σ12 9 v0 8).bind fun x13 =>
  (st_ Sh σ12 20 x13 v1 v2).bind fun σ14 =>
  some σ14
theorem L_X9_moveCrow_b41 {sc : Nat × (Nat → Int32)} {o : Mem} {v0 v1 v2 v3 : Int} {σ : Mem} (h : f_X9_moveCrow_b41 v0 v1 v2 v3 σ = some o) : E sc (Fm Sh none Sh o) mt_X9_moveCrow 1 Sh Sh 41 [(2, v0), (0, v1), (0, v2), (0, v3)] [] Sh σ := by
  unfold f_X9_moveCrow_b41 at h
  refine E_aload_n d_X9_moveCrow_41 rfl (by decide) ?_
  refine E_get d_X9_moveCrow_42 okX9 fl_X9_21 ⟨by decide, rfl⟩ h (fun x10 h => ?_)
  refine E_iload_n d_X9_moveCrow_45 rfl ?_
  refine E_dup2T d_X9_moveCrow_46 (by decide) ?_
  refine E_iaload d_X9_moveCrow_47 h (fun x11 h => ?_)
  refine E_iload_n d_X9_moveCrow_48 rfl ?_
  refine E_iadd d_X9_moveCrow_49 ?_
  refine E_iastore d_X9_moveCrow_50 h (fun σ12 h => ?_)
  refine E_aload_n d_X9_moveCrow_51 rfl (by decide) ?_
  refine E_get d_X9_moveCrow_52 okX9 fl_X9_28 ⟨by decide, rfl⟩ h (fun x13 h => ?_)
  refine E_iload_n d_X9_moveCrow_55 rfl ?_
  refine E_iload_n d_X9_moveCrow_56 rfl ?_
  refine E_iastore d_X9_moveCrow_57 h (fun σ14 h => ?_)
  cases h
  exact E_vret d_X9_moveCrow_58 rfl
noncomputable def f_X9_moveCrow_b15 (v0 v1 v2 s0 : Int) (σ : Mem) : Option (Mem) :=
  (gf Sh σ 9 v0 8).bind fun x3 =>
  (al Sh σ 20 x3 v1).bind fun x4 =>
  if x4 = (-1) then
    f_X9_moveCrow_b41 v0 v1 v2 s0 σ
  else
    (gf Sh σ 9 v0 5).bind fun x5 =>
    (gf Sh σ 9 v0 8).bind fun x6 =>
    (al Sh σ 20 x6 v1).bind fun x7 =>
    (al Sh σ 20 x5 x7).bind fun x8 =>
    (st_ Sh σ 20 x5 x7 (w32 (x8 - s0))).bind fun σ9 =>
    f_X9_moveCrow_b41 v0 v1 v2 s0 σ9
theorem L_X9_moveCrow_b15 {sc : Nat × (Nat → Int32)} {o : Mem} {v0 v1 v2 s0 : Int} {σ : Mem} (h : f_X9_moveCrow_b15 v0 v1 v2 s0 σ = some o) : E sc (Fm Sh none Sh o) mt_X9_moveCrow 1 Sh Sh 15 [(2, v0), (0, v1), (0, v2), (9, 0)] [(0, s0)] Sh σ := by
  unfold f_X9_moveCrow_b15 at h
  refine E_istore_n d_X9_moveCrow_15 (ls' := [(2, v0), (0, v1), (0, v2), (0, s0)]) ⟨by decide, rfl⟩ ?_
  refine E_aload_n d_X9_moveCrow_16 rfl (by decide) ?_
  refine E_get d_X9_moveCrow_17 okX9 fl_X9_28 ⟨by decide, rfl⟩ h (fun x3 h => ?_)
  refine E_iload_n d_X9_moveCrow_20 rfl ?_
  refine E_iaload d_X9_moveCrow_21 h (fun x4 h => ?_)
  refine E_iconst d_X9_moveCrow_22 (c32 rfl) ?_
  refine E_icmp_eq (tgt := 41) d_X9_moveCrow_23 (by decide) h (fun _ h => ?_) (fun _ h => ?_)
  · exact (L_X9_moveCrow_b41 h)
  · refine E_aload_n d_X9_moveCrow_26 rfl (by decide) ?_
    refine E_get d_X9_moveCrow_27 okX9 fl_X9_21 ⟨by decide, rfl⟩ h (fun x5 h => ?_)
    refine E_aload_n d_X9_moveCrow_30 rfl (by decide) ?_
    refine E_get d_X9_moveCrow_31 okX9 fl_X9_28 ⟨by decide, rfl⟩ h (fun x6 h => ?_)
    refine E_iload_n d_X9_moveCrow_34 rfl ?_
    refine E_iaload d_X9_moveCrow_35 h (fun x7 h => ?_)
    refine E_dup2T d_X9_moveCrow_36 (by decide) ?_
    refine E_iaload d_X9_moveCrow_37 h (fun x8 h => ?_)
    refine E_iload_n d_X9_moveCrow_38 rfl ?_
    refine E_isub d_X9_moveCrow_39 ?_
    refine E_iastore d_X9_moveCrow_40 h (fun σ9 h => ?_)
    exact (L_X9_moveCrow_b41 h)
noncomputable def f_X9_moveCrow_b0 (v0 v1 v2 : Int) (σ : Mem) : Option (Mem) :=
  (gf Sh σ 9 v0 9).bind fun x1 =>
  (al Sh σ 23 x1 v1).bind fun x2 =>
  if x2 = 0 then
    f_X9_moveCrow_b15 v0 v1 v2 (-3) σ
  else
    f_X9_moveCrow_b15 v0 v1 v2 3 σ
theorem L_X9_moveCrow_b0 {sc : Nat × (Nat → Int32)} {o : Mem} {v0 v1 v2 : Int} {σ : Mem} (h : f_X9_moveCrow_b0 v0 v1 v2 σ = some o) : E sc (Fm Sh none Sh o) mt_X9_moveCrow 1 Sh Sh 0 [(2, v0), (0, v1), (0, v2), (9, 0)] [] Sh σ := by
  unfold f_X9_moveCrow_b0 at h
  refine E_aload_n d_X9_moveCrow_0 rfl (by decide) ?_
  refine E_get d_X9_moveCrow_1 okX9 fl_X9_31 ⟨by decide, rfl⟩ h (fun x1 h => ?_)
  refine E_iload_n d_X9_moveCrow_4 rfl ?_
  refine E_baload d_X9_moveCrow_5 (by decide : 23 = 22 ∨ 23 = 23) h (fun x2 h => ?_)
  refine E_if_eq (tgt := 13) d_X9_moveCrow_6 (by decide) h (fun _ h => ?_) (fun _ h => ?_)
  · refine E_bipush d_X9_moveCrow_13 (c8 rfl) ?_
    exact (L_X9_moveCrow_b15 h)
  · refine E_iconst d_X9_moveCrow_9 (c32 rfl) ?_
    refine E_goto (tgt := 15) d_X9_moveCrow_10 (by decide) ?_
    exact (L_X9_moveCrow_b15 h)
noncomputable def f_X9_moveCrow (v0 v1 v2 : Int) (σ : Mem) : Option (Mem) := if isO Sh 9 v0 = true then f_X9_moveCrow_b0 v0 v1 v2 σ else none
theorem L_X9_moveCrow {o : Mem} {v0 v1 v2 : Int} {σ : Mem} (h : f_X9_moveCrow v0 v1 v2 σ = some o) : (isO Sh 9 v0 = true ∧ Cn mt_X9_moveCrow 1 [(2, v0), (0, v1), (0, v2)] Sh σ none Sh o) := ⟨(ite_ok h).1, Cn_of mk_X9_moveCrow.1.2.2.1 (Nat.le_of_ble_eq_true rfl) (fun sc => L_X9_moveCrow_b0 (ite_ok h).2)⟩
theorem d_X9_addCrow_0 : decode mt_X9_addCrow.2.1 0 = .ok (.aload_n 0, 1) := by decide +kernel
theorem d_X9_addCrow_1 : decode mt_X9_addCrow.2.1 1 = .ok (.getfield 48, 3) := by decide +kernel
theorem d_X9_addCrow_4 : decode mt_X9_addCrow.2.1 4 = .ok (.iconst 4, 1) := by decide +kernel
theorem d_X9_addCrow_5 : decode mt_X9_addCrow.2.1 5 = .ok (.if_icmp .lt 4, 3) := by decide +kernel
theorem d_X9_addCrow_8 : decode mt_X9_addCrow.2.1 8 = .ok (.return_, 1) := by decide +kernel
theorem d_X9_addCrow_9 : decode mt_X9_addCrow.2.1 9 = .ok (.aload_n 0, 1) := by decide +kernel
theorem d_X9_addCrow_10 : decode mt_X9_addCrow.2.1 10 = .ok (.getfield 35, 3) := by decide +kernel
theorem d_X9_addCrow_13 : decode mt_X9_addCrow.2.1 13 = .ok (.aload_n 0, 1) := by decide +kernel
theorem d_X9_addCrow_14 : decode mt_X9_addCrow.2.1 14 = .ok (.getfield 48, 3) := by decide +kernel
theorem d_X9_addCrow_17 : decode mt_X9_addCrow.2.1 17 = .ok (.lload_n 1, 1) := by decide +kernel
theorem d_X9_addCrow_18 : decode mt_X9_addCrow.2.1 18 = .ok (.lastore, 1) := by decide +kernel
theorem d_X9_addCrow_19 : decode mt_X9_addCrow.2.1 19 = .ok (.aload_n 0, 1) := by decide +kernel
theorem d_X9_addCrow_20 : decode mt_X9_addCrow.2.1 20 = .ok (.getfield 31, 3) := by decide +kernel
theorem d_X9_addCrow_23 : decode mt_X9_addCrow.2.1 23 = .ok (.aload_n 0, 1) := by decide +kernel
theorem d_X9_addCrow_24 : decode mt_X9_addCrow.2.1 24 = .ok (.getfield 48, 3) := by decide +kernel
theorem d_X9_addCrow_27 : decode mt_X9_addCrow.2.1 27 = .ok (.iload 4, 2) := by decide +kernel
theorem d_X9_addCrow_29 : decode mt_X9_addCrow.2.1 29 = .ok (.bastore, 1) := by decide +kernel
theorem d_X9_addCrow_30 : decode mt_X9_addCrow.2.1 30 = .ok (.aload_n 0, 1) := by decide +kernel
theorem d_X9_addCrow_31 : decode mt_X9_addCrow.2.1 31 = .ok (.getfield 28, 3) := by decide +kernel
theorem d_X9_addCrow_34 : decode mt_X9_addCrow.2.1 34 = .ok (.aload_n 0, 1) := by decide +kernel
theorem d_X9_addCrow_35 : decode mt_X9_addCrow.2.1 35 = .ok (.getfield 48, 3) := by decide +kernel
theorem d_X9_addCrow_38 : decode mt_X9_addCrow.2.1 38 = .ok (.iconst (-1), 1) := by decide +kernel
theorem d_X9_addCrow_39 : decode mt_X9_addCrow.2.1 39 = .ok (.iastore, 1) := by decide +kernel
theorem d_X9_addCrow_40 : decode mt_X9_addCrow.2.1 40 = .ok (.aload_n 0, 1) := by decide +kernel
theorem d_X9_addCrow_41 : decode mt_X9_addCrow.2.1 41 = .ok (.dup, 1) := by decide +kernel
theorem d_X9_addCrow_42 : decode mt_X9_addCrow.2.1 42 = .ok (.getfield 48, 3) := by decide +kernel
theorem d_X9_addCrow_45 : decode mt_X9_addCrow.2.1 45 = .ok (.iconst 1, 1) := by decide +kernel
theorem d_X9_addCrow_46 : decode mt_X9_addCrow.2.1 46 = .ok (.iadd, 1) := by decide +kernel
theorem d_X9_addCrow_47 : decode mt_X9_addCrow.2.1 47 = .ok (.putfield 48, 3) := by decide +kernel
theorem d_X9_addCrow_50 : decode mt_X9_addCrow.2.1 50 = .ok (.aload_n 0, 1) := by decide +kernel
theorem d_X9_addCrow_51 : decode mt_X9_addCrow.2.1 51 = .ok (.aload_n 0, 1) := by decide +kernel
theorem d_X9_addCrow_52 : decode mt_X9_addCrow.2.1 52 = .ok (.getfield 48, 3) := by decide +kernel
theorem d_X9_addCrow_55 : decode mt_X9_addCrow.2.1 55 = .ok (.iconst 1, 1) := by decide +kernel
theorem d_X9_addCrow_56 : decode mt_X9_addCrow.2.1 56 = .ok (.isub, 1) := by decide +kernel
theorem d_X9_addCrow_57 : decode mt_X9_addCrow.2.1 57 = .ok (.iload_n 3, 1) := by decide +kernel
theorem d_X9_addCrow_58 : decode mt_X9_addCrow.2.1 58 = .ok (.invokevirtual 83, 3) := by decide +kernel
theorem d_X9_addCrow_61 : decode mt_X9_addCrow.2.1 61 = .ok (.return_, 1) := by decide +kernel
noncomputable def f_X9_addCrow_b0 (v0 v1 v3 v4 : Int) (σ : Mem) : Option (Mem) :=
  (gf Sh σ 9 v0 7).bind fun x1 =>
  if x1 < 4 then
    (gf Sh σ 9 v0 10).bind fun x2 =>
    (gf Sh σ 9 v0 7).bind fun x3 =>
    (st_ Sh σ 21 x2 x3 v1).bind fun σ4 =>
    (gf Sh σ4 9 v0 9).bind fun x5 =>
    (gf Sh σ4 9 v0 7).bind fun x6 =>
    (st_ Sh σ4 23 x5 x6 (b1 v4)).bind fun σ7 =>
    (gf Sh σ7 9 v0 8).bind fun x8 =>
    (gf Sh σ7 9 v0 7).bind fun x9 =>
    (st_ Sh σ7 20 x8 x9 (-1)).bind fun σ10 =>
    (gf Sh σ10 9 v0 7).bind fun x11 =>
    (pf Sh σ10 9 v0 7 (w32 (x11 + 1))).bind fun σ12 =>
    (gf Sh σ12 9 v0 7).bind fun x13 =>
    (f_X9_moveCrow v0 (w32 (x13 - 1)) v3 σ12).bind fun r14 =>
    some r14
  else
    some σ
theorem L_X9_addCrow_b0 {sc : Nat × (Nat → Int32)} {o : Mem} {v0 v1 v3 v4 : Int} {σ : Mem} (h : f_X9_addCrow_b0 v0 v1 v3 v4 σ = some o) : E sc (Fm Sh none Sh o) mt_X9_addCrow 2 Sh Sh 0 [(2, v0), (1, v1), (9, 0), (0, v3), (0, v4)] [] Sh σ := by
  unfold f_X9_addCrow_b0 at h
  refine E_aload_n d_X9_addCrow_0 rfl (by decide) ?_
  refine E_get d_X9_addCrow_1 okX9 fl_X9_48 ⟨by decide, rfl⟩ h (fun x1 h => ?_)
  refine E_iconst d_X9_addCrow_4 (c32 rfl) ?_
  refine E_icmp_lt (tgt := 9) d_X9_addCrow_5 (by decide) h (fun _ h => ?_) (fun _ h => ?_)
  · refine E_aload_n d_X9_addCrow_9 rfl (by decide) ?_
    refine E_get d_X9_addCrow_10 okX9 fl_X9_35 ⟨by decide, rfl⟩ h (fun x2 h => ?_)
    refine E_aload_n d_X9_addCrow_13 rfl (by decide) ?_
    refine E_get d_X9_addCrow_14 okX9 fl_X9_48 ⟨by decide, rfl⟩ h (fun x3 h => ?_)
    refine E_lload_n d_X9_addCrow_17 rfl ?_
    refine E_lastore d_X9_addCrow_18 h (fun σ4 h => ?_)
    refine E_aload_n d_X9_addCrow_19 rfl (by decide) ?_
    refine E_get d_X9_addCrow_20 okX9 fl_X9_31 ⟨by decide, rfl⟩ h (fun x5 h => ?_)
    refine E_aload_n d_X9_addCrow_23 rfl (by decide) ?_
    refine E_get d_X9_addCrow_24 okX9 fl_X9_48 ⟨by decide, rfl⟩ h (fun x6 h => ?_)
    refine E_iload d_X9_addCrow_27 rfl ?_
    refine E_zastore d_X9_addCrow_29 h (fun σ7 h => ?_)
    refine E_aload_n d_X9_addCrow_30 rfl (by decide) ?_
    refine E_get d_X9_addCrow_31 okX9 fl_X9_28 ⟨by decide, rfl⟩ h (fun x8 h => ?_)
    refine E_aload_n d_X9_addCrow_34 rfl (by decide) ?_
    refine E_get d_X9_addCrow_35 okX9 fl_X9_48 ⟨by decide, rfl⟩ h (fun x9 h => ?_)
    refine E_iconst d_X9_addCrow_38 (c32 rfl) ?_
    refine E_iastore d_X9_addCrow_39 h (fun σ10 h => ?_)
    refine E_aload_n d_X9_addCrow_40 rfl (by decide) ?_
    refine E_dupT d_X9_addCrow_41 (by decide) ?_
    refine E_get d_X9_addCrow_42 okX9 fl_X9_48 ⟨by decide, rfl⟩ h (fun x11 h => ?_)
    refine E_iconst d_X9_addCrow_45 (c32 rfl) ?_
    refine E_iadd d_X9_addCrow_46 ?_
    refine E_put d_X9_addCrow_47 okX9 fl_X9_48 ⟨by decide, rfl⟩ (Or.inl ⟨rfl, rfl⟩) (Or.inl rfl) h (fun σ12 h => ?_)
    refine E_aload_n d_X9_addCrow_50 rfl (by decide) ?_
    refine E_aload_n d_X9_addCrow_51 rfl (by decide) ?_
    refine E_get d_X9_addCrow_52 okX9 fl_X9_48 ⟨by decide, rfl⟩ h (fun x13 h => ?_)
    refine E_iconst d_X9_addCrow_55 (c32 rfl) ?_
    refine E_isub d_X9_addCrow_56 ?_
    refine E_iload_n d_X9_addCrow_57 rfl ?_
    refine bd h (fun r14 q15 h => ?_)
    refine E_cVv (as := [(0, w32 (x13 - 1)), (0, v3)]) (st := []) (a := v0) d_X9_addCrow_58 mk_X9_moveCrow nl_X9_83 (by omega) ⟨rfl, rfl, Nat.le_of_ble_eq_true rfl⟩ okX9 rfl (L_X9_moveCrow q15) ?_
    cases h
    exact E_vret d_X9_addCrow_61 rfl
  · cases h
    exact E_vret d_X9_addCrow_8 rfl
noncomputable def f_X9_addCrow (v0 v1 v3 v4 : Int) (σ : Mem) : Option (Mem) := if isO Sh 9 v0 = true then f_X9_addCrow_b0 v0 v1 v3 v4 σ else none
theorem L_X9_addCrow {o : Mem} {v0 v1 v3 v4 : Int} {σ : Mem} (h : f_X9_addCrow v0 v1 v3 v4 σ = some o) : (isO Sh 9 v0 = true ∧ Cn mt_X9_addCrow 2 [(2, v0), (1, v1), (0, v3), (0, v4)] Sh σ none Sh o) := ⟨(ite_ok h).1, Cn_of mk_X9_addCrow.1.2.2.1 (Nat.le_of_ble_eq_true rfl) (fun sc => L_X9_addCrow_b0 (ite_ok h).2)⟩
theorem d_X10_readCrow_0 : decode mt_X10_readCrow.2.1 0 = .ok (.aload_n 0, 1) := by decide +kernel
theorem d_X10_readCrow_1 : decode mt_X10_readCrow.2.1 1 = .ok (.getfield 12, 3) := by decide +kernel
theorem d_X10_readCrow_4 : decode mt_X10_readCrow.2.1 4 = .ok (.getfield 102, 3) := by decide +kernel
theorem d_X10_readCrow_7 : decode mt_X10_readCrow.2.1 7 = .ok (.iconst 4, 1) := by decide +kernel
theorem d_X10_readCrow_8 : decode mt_X10_readCrow.2.1 8 = .ok (.if_icmp .lt 13, 3) := by decide +kernel
theorem d_X10_readCrow_11 : decode mt_X10_readCrow.2.1 11 = .ok (.aload_n 0, 1) := by decide +kernel
theorem d_X10_readCrow_12 : decode mt_X10_readCrow.2.1 12 = .ok (.getfield 18, 3) := by decide +kernel
theorem d_X10_readCrow_15 : decode mt_X10_readCrow.2.1 15 = .ok (.bipush 6, 2) := by decide +kernel
theorem d_X10_readCrow_17 : decode mt_X10_readCrow.2.1 17 = .ok (.invokevirtual 51, 3) := by decide +kernel
theorem d_X10_readCrow_20 : decode mt_X10_readCrow.2.1 20 = .ok (.ireturn, 1) := by decide +kernel
theorem d_X10_readCrow_21 : decode mt_X10_readCrow.2.1 21 = .ok (.aload_n 0, 1) := by decide +kernel
theorem d_X10_readCrow_22 : decode mt_X10_readCrow.2.1 22 = .ok (.getfield 18, 3) := by decide +kernel
theorem d_X10_readCrow_25 : decode mt_X10_readCrow.2.1 25 = .ok (.invokevirtual 54, 3) := by decide +kernel
theorem d_X10_readCrow_28 : decode mt_X10_readCrow.2.1 28 = .ok (.aload_n 0, 1) := by decide +kernel
theorem d_X10_readCrow_29 : decode mt_X10_readCrow.2.1 29 = .ok (.getfield 18, 3) := by decide +kernel
theorem d_X10_readCrow_32 : decode mt_X10_readCrow.2.1 32 = .ok (.getfield 74, 3) := by decide +kernel
theorem d_X10_readCrow_35 : decode mt_X10_readCrow.2.1 35 = .ok (.lstore_n 1, 1) := by decide +kernel
theorem d_X10_readCrow_36 : decode mt_X10_readCrow.2.1 36 = .ok (.aload_n 0, 1) := by decide +kernel
theorem d_X10_readCrow_37 : decode mt_X10_readCrow.2.1 37 = .ok (.invokevirtual 78, 3) := by decide +kernel
theorem d_X10_readCrow_40 : decode mt_X10_readCrow.2.1 40 = .ok (.ifCond .eq 15, 3) := by decide +kernel
theorem d_X10_readCrow_43 : decode mt_X10_readCrow.2.1 43 = .ok (.aload_n 0, 1) := by decide +kernel
theorem d_X10_readCrow_44 : decode mt_X10_readCrow.2.1 44 = .ok (.getfield 18, 3) := by decide +kernel
theorem d_X10_readCrow_47 : decode mt_X10_readCrow.2.1 47 = .ok (.bipush 7, 2) := by decide +kernel
theorem d_X10_readCrow_49 : decode mt_X10_readCrow.2.1 49 = .ok (.invokevirtual 81, 3) := by decide +kernel
theorem d_X10_readCrow_52 : decode mt_X10_readCrow.2.1 52 = .ok (.ifCond .ne 5, 3) := by decide +kernel
theorem d_X10_readCrow_55 : decode mt_X10_readCrow.2.1 55 = .ok (.iconst 0, 1) := by decide +kernel
theorem d_X10_readCrow_56 : decode mt_X10_readCrow.2.1 56 = .ok (.ireturn, 1) := by decide +kernel
theorem d_X10_readCrow_57 : decode mt_X10_readCrow.2.1 57 = .ok (.aload_n 0, 1) := by decide +kernel
theorem d_X10_readCrow_58 : decode mt_X10_readCrow.2.1 58 = .ok (.getfield 18, 3) := by decide +kernel
theorem d_X10_readCrow_61 : decode mt_X10_readCrow.2.1 61 = .ok (.invokevirtual 105, 3) := by decide +kernel
theorem d_X10_readCrow_64 : decode mt_X10_readCrow.2.1 64 = .ok (.ifCond .ne 12, 3) := by decide +kernel
theorem d_X10_readCrow_67 : decode mt_X10_readCrow.2.1 67 = .ok (.aload_n 0, 1) := by decide +kernel
theorem d_X10_readCrow_68 : decode mt_X10_readCrow.2.1 68 = .ok (.getfield 18, 3) := by decide +kernel
theorem d_X10_readCrow_71 : decode mt_X10_readCrow.2.1 71 = .ok (.iconst 2, 1) := by decide +kernel
theorem d_X10_readCrow_72 : decode mt_X10_readCrow.2.1 72 = .ok (.invokevirtual 51, 3) := by decide +kernel
theorem d_X10_readCrow_75 : decode mt_X10_readCrow.2.1 75 = .ok (.ireturn, 1) := by decide +kernel
theorem d_X10_readCrow_76 : decode mt_X10_readCrow.2.1 76 = .ok (.aload_n 0, 1) := by decide +kernel
theorem d_X10_readCrow_77 : decode mt_X10_readCrow.2.1 77 = .ok (.getfield 12, 3) := by decide +kernel
theorem d_X10_readCrow_80 : decode mt_X10_readCrow.2.1 80 = .ok (.aload_n 0, 1) := by decide +kernel
theorem d_X10_readCrow_81 : decode mt_X10_readCrow.2.1 81 = .ok (.getfield 18, 3) := by decide +kernel
theorem d_X10_readCrow_84 : decode mt_X10_readCrow.2.1 84 = .ok (.getfield 74, 3) := by decide +kernel
theorem d_X10_readCrow_87 : decode mt_X10_readCrow.2.1 87 = .ok (.invokevirtual 108, 3) := by decide +kernel
theorem d_X10_readCrow_90 : decode mt_X10_readCrow.2.1 90 = .ok (.istore_n 3, 1) := by decide +kernel
theorem d_X10_readCrow_91 : decode mt_X10_readCrow.2.1 91 = .ok (.iload_n 3, 1) := by decide +kernel
theorem d_X10_readCrow_92 : decode mt_X10_readCrow.2.1 92 = .ok (.iconst (-1), 1) := by decide +kernel
theorem d_X10_readCrow_93 : decode mt_X10_readCrow.2.1 93 = .ok (.if_icmp .ne 12, 3) := by decide +kernel
theorem d_X10_readCrow_96 : decode mt_X10_readCrow.2.1 96 = .ok (.aload_n 0, 1) := by decide +kernel
theorem d_X10_readCrow_97 : decode mt_X10_readCrow.2.1 97 = .ok (.getfield 18, 3) := by decide +kernel
theorem d_X10_readCrow_100 : decode mt_X10_readCrow.2.1 100 = .ok (.iconst 3, 1) := by decide +kernel
theorem d_X10_readCrow_101 : decode mt_X10_readCrow.2.1 101 = .ok (.invokevirtual 51, 3) := by decide +kernel
theorem d_X10_readCrow_104 : decode mt_X10_readCrow.2.1 104 = .ok (.ireturn, 1) := by decide +kernel
theorem d_X10_readCrow_105 : decode mt_X10_readCrow.2.1 105 = .ok (.aload_n 0, 1) := by decide +kernel
theorem d_X10_readCrow_106 : decode mt_X10_readCrow.2.1 106 = .ok (.getfield 18, 3) := by decide +kernel
theorem d_X10_readCrow_109 : decode mt_X10_readCrow.2.1 109 = .ok (.invokevirtual 54, 3) := by decide +kernel
theorem d_X10_readCrow_112 : decode mt_X10_readCrow.2.1 112 = .ok (.aload_n 0, 1) := by decide +kernel
theorem d_X10_readCrow_113 : decode mt_X10_readCrow.2.1 113 = .ok (.getfield 18, 3) := by decide +kernel
theorem d_X10_readCrow_116 : decode mt_X10_readCrow.2.1 116 = .ok (.bipush 8, 2) := by decide +kernel
theorem d_X10_readCrow_118 : decode mt_X10_readCrow.2.1 118 = .ok (.invokevirtual 35, 3) := by decide +kernel
theorem d_X10_readCrow_121 : decode mt_X10_readCrow.2.1 121 = .ok (.istore 4, 2) := by decide +kernel
theorem d_X10_readCrow_123 : decode mt_X10_readCrow.2.1 123 = .ok (.iload 4, 2) := by decide +kernel
theorem d_X10_readCrow_125 : decode mt_X10_readCrow.2.1 125 = .ok (.ifCond .ne 24, 3) := by decide +kernel
theorem d_X10_readCrow_128 : decode mt_X10_readCrow.2.1 128 = .ok (.aload_n 0, 1) := by decide +kernel
theorem d_X10_readCrow_129 : decode mt_X10_readCrow.2.1 129 = .ok (.getfield 18, 3) := by decide +kernel
theorem d_X10_readCrow_132 : decode mt_X10_readCrow.2.1 132 = .ok (.bipush 9, 2) := by decide +kernel
theorem d_X10_readCrow_134 : decode mt_X10_readCrow.2.1 134 = .ok (.invokevirtual 35, 3) := by decide +kernel
theorem d_X10_readCrow_137 : decode mt_X10_readCrow.2.1 137 = .ok (.ifCond .ne 12, 3) := by decide +kernel
theorem d_X10_readCrow_140 : decode mt_X10_readCrow.2.1 140 = .ok (.aload_n 0, 1) := by decide +kernel
theorem d_X10_readCrow_141 : decode mt_X10_readCrow.2.1 141 = .ok (.getfield 18, 3) := by decide +kernel
theorem d_X10_readCrow_144 : decode mt_X10_readCrow.2.1 144 = .ok (.iconst 2, 1) := by decide +kernel
theorem d_X10_readCrow_145 : decode mt_X10_readCrow.2.1 145 = .ok (.invokevirtual 51, 3) := by decide +kernel
theorem d_X10_readCrow_148 : decode mt_X10_readCrow.2.1 148 = .ok (.ireturn, 1) := by decide +kernel
theorem d_X10_readCrow_149 : decode mt_X10_readCrow.2.1 149 = .ok (.aload_n 0, 1) := by decide +kernel
theorem d_X10_readCrow_150 : decode mt_X10_readCrow.2.1 150 = .ok (.getfield 18, 3) := by decide +kernel
theorem d_X10_readCrow_153 : decode mt_X10_readCrow.2.1 153 = .ok (.invokevirtual 54, 3) := by decide +kernel
theorem d_X10_readCrow_156 : decode mt_X10_readCrow.2.1 156 = .ok (.aload_n 0, 1) := by decide +kernel
theorem d_X10_readCrow_157 : decode mt_X10_readCrow.2.1 157 = .ok (.getfield 12, 3) := by decide +kernel
theorem d_X10_readCrow_160 : decode mt_X10_readCrow.2.1 160 = .ok (.lload_n 1, 1) := by decide +kernel
theorem d_X10_readCrow_161 : decode mt_X10_readCrow.2.1 161 = .ok (.iload_n 3, 1) := by decide +kernel
theorem d_X10_readCrow_162 : decode mt_X10_readCrow.2.1 162 = .ok (.iload 4, 2) := by decide +kernel
theorem d_X10_readCrow_164 : decode mt_X10_readCrow.2.1 164 = .ok (.invokevirtual 112, 3) := by decide +kernel
theorem d_X10_readCrow_167 : decode mt_X10_readCrow.2.1 167 = .ok (.aload_n 0, 1) := by decide +kernel
theorem d_X10_readCrow_168 : decode mt_X10_readCrow.2.1 168 = .ok (.getfield 18, 3) := by decide +kernel
theorem d_X10_readCrow_171 : decode mt_X10_readCrow.2.1 171 = .ok (.bipush 59, 2) := by decide +kernel
theorem d_X10_readCrow_173 : decode mt_X10_readCrow.2.1 173 = .ok (.invokevirtual 68, 3) := by decide +kernel
theorem d_X10_readCrow_176 : decode mt_X10_readCrow.2.1 176 = .ok (.ireturn, 1) := by decide +kernel
noncomputable def f_X10_readCrow_b149 (v0 v1 v3 v4 : Int) (σ : Mem) : Option (Int × Mem) :=
  (gf Sh σ 10 v0 0).bind fun x46 =>
  (f_X7_step x46 σ).bind fun r47 =>
  (gf Sh r47 10 v0 1).bind fun x49 =>
  (f_X9_addCrow x49 v1 v3 v4 r47).bind fun r50 =>
  (gf Sh r50 10 v0 0).bind fun x52 =>
  (f_X7_takeSign x52 59 r50).bind fun r53 =>
  (bz r53.1).bind fun _ =>
  some (r53.1, r53.2)
theorem L_X10_readCrow_b149 {sc : Nat × (Nat → Int32)} {o : Int × Mem} {v0 v1 v3 v4 : Int} {σ : Mem} (h : f_X10_readCrow_b149 v0 v1 v3 v4 σ = some o) : E sc (Fm Sh (some (0, o.1)) Sh o.2) mt_X10_readCrow 5 Sh Sh 149 [(2, v0), (1, v1), (9, 0), (0, v3), (0, v4)] [] Sh σ := by
  unfold f_X10_readCrow_b149 at h
  refine E_aload_n d_X10_readCrow_149 rfl (by decide) ?_
  refine E_get d_X10_readCrow_150 okX10 fl_X10_18 ⟨by decide, rfl⟩ h (fun x46 h => ?_)
  refine bd h (fun r47 q48 h => ?_)
  refine E_cVv (as := []) (st := []) (a := x46) d_X10_readCrow_153 mk_X7_step nl_X10_54 (by omega) ⟨rfl, rfl, Nat.le_of_ble_eq_true rfl⟩ okX7 rfl (L_X7_step q48) ?_
  refine E_aload_n d_X10_readCrow_156 rfl (by decide) ?_
  refine E_get d_X10_readCrow_157 okX10 fl_X10_12 ⟨by decide, rfl⟩ h (fun x49 h => ?_)
  refine E_lload_n d_X10_readCrow_160 rfl ?_
  refine E_iload_n d_X10_readCrow_161 rfl ?_
  refine E_iload d_X10_readCrow_162 rfl ?_
  refine bd h (fun r50 q51 h => ?_)
  refine E_cVv (as := [(1, v1), (0, v3), (0, v4)]) (st := []) (a := x49) d_X10_readCrow_164 mk_X9_addCrow nl_X10_112 (by omega) ⟨rfl, rfl, Nat.le_of_ble_eq_true rfl⟩ okX9 rfl (L_X9_addCrow q51) ?_
  refine E_aload_n d_X10_readCrow_167 rfl (by decide) ?_
  refine E_get d_X10_readCrow_168 okX10 fl_X10_18 ⟨by decide, rfl⟩ h (fun x52 h => ?_)
  refine E_bipush d_X10_readCrow_171 (c8 rfl) ?_
  refine bd h (fun r53 q54 h => ?_)
  refine E_cV (as := [(0, 59)]) (st := []) (a := x52) d_X10_readCrow_173 mk_X7_takeSign nl_X10_68 (by omega) ⟨rfl, rfl, Nat.le_of_ble_eq_true rfl⟩ okX7 rfl (L_X7_takeSign q54) ?_
  refine bd_bz h (fun q55 h => ?_)
  cases h
  exact E_zret d_X10_readCrow_176 rfl q55
noncomputable def f_X10_readCrow_b0 (v0 : Int) (σ : Mem) : Option (Int × Mem) :=
  (gf Sh σ 10 v0 1).bind fun x1 =>
  (gf Sh σ 9 x1 7).bind fun x2 =>
  if x2 < 4 then
    (gf Sh σ 10 v0 0).bind fun x3 =>
    (f_X7_step x3 σ).bind fun r4 =>
    (gf Sh r4 10 v0 0).bind fun x6 =>
    (gf Sh r4 7 x6 6).bind fun x7 =>
    (f_X10_takeNewName v0 r4).bind fun r8 =>
    if r8.1 = 0 then
      some (0, r8.2)
    else
      (gf Sh r8.2 10 v0 0).bind fun x10 =>
      (f_X7_takeWord x10 7 r8.2).bind fun r11 =>
      if r11.1 = 0 then
        some (0, r11.2)
      else
        (gf Sh r11.2 10 v0 0).bind fun x13 =>
        (f_X7_isName x13 r11.2).bind fun r14 =>
        if r14 = 0 then
          (gf Sh r11.2 10 v0 0).bind fun x16 =>
          (f_X7_refuse x16 2 r11.2).bind fun r17 =>
          (bz r17.1).bind fun _ =>
          some (r17.1, r17.2)
        else
          (gf Sh r11.2 10 v0 1).bind fun x20 =>
          (gf Sh r11.2 10 v0 0).bind fun x21 =>
          (gf Sh r11.2 7 x21 6).bind fun x22 =>
          (f_X9_stoneNamed x20 x22 r11.2).bind fun r23 =>
          if r23 = (-1) then
            (gf Sh r11.2 10 v0 0).bind fun x25 =>
            (f_X7_refuse x25 3 r11.2).bind fun r26 =>
            (bz r26.1).bind fun _ =>
            some (r26.1, r26.2)
          else
            (gf Sh r11.2 10 v0 0).bind fun x29 =>
            (f_X7_step x29 r11.2).bind fun r30 =>
            (gf Sh r30 10 v0 0).bind fun x32 =>
            (f_X7_isWord x32 8 r30).bind fun r33 =>
            if r33 = 0 then
              (gf Sh r30 10 v0 0).bind fun x35 =>
              (f_X7_isWord x35 9 r30).bind fun r36 =>
              if r36 = 0 then
                (gf Sh r30 10 v0 0).bind fun x38 =>
                (f_X7_refuse x38 2 r30).bind fun r39 =>
                (bz r39.1).bind fun _ =>
                some (r39.1, r39.2)
              else
                f_X10_readCrow_b149 v0 x7 r23 r33 r30
            else
              f_X10_readCrow_b149 v0 x7 r23 r33 r30
  else
    (gf Sh σ 10 v0 0).bind fun x42 =>
    (f_X7_refuse x42 6 σ).bind fun r43 =>
    (bz r43.1).bind fun _ =>
    some (r43.1, r43.2)
theorem L_X10_readCrow_b0 {sc : Nat × (Nat → Int32)} {o : Int × Mem} {v0 : Int} {σ : Mem} (h : f_X10_readCrow_b0 v0 σ = some o) : E sc (Fm Sh (some (0, o.1)) Sh o.2) mt_X10_readCrow 5 Sh Sh 0 [(2, v0), (9, 0), (9, 0), (9, 0), (9, 0)] [] Sh σ := by
  unfold f_X10_readCrow_b0 at h
  refine E_aload_n d_X10_readCrow_0 rfl (by decide) ?_
  refine E_get d_X10_readCrow_1 okX10 fl_X10_12 ⟨by decide, rfl⟩ h (fun x1 h => ?_)
  refine E_get d_X10_readCrow_4 okX9 fl_X10_102 ⟨by decide, rfl⟩ h (fun x2 h => ?_)
  refine E_iconst d_X10_readCrow_7 (c32 rfl) ?_
  refine E_icmp_lt (tgt := 21) d_X10_readCrow_8 (by decide) h (fun _ h => ?_) (fun _ h => ?_)
  · refine E_aload_n d_X10_readCrow_21 rfl (by decide) ?_
    refine E_get d_X10_readCrow_22 okX10 fl_X10_18 ⟨by decide, rfl⟩ h (fun x3 h => ?_)
    refine bd h (fun r4 q5 h => ?_)
    refine E_cVv (as := []) (st := []) (a := x3) d_X10_readCrow_25 mk_X7_step nl_X10_54 (by omega) ⟨rfl, rfl, Nat.le_of_ble_eq_true rfl⟩ okX7 rfl (L_X7_step q5) ?_
    refine E_aload_n d_X10_readCrow_28 rfl (by decide) ?_
    refine E_get d_X10_readCrow_29 okX10 fl_X10_18 ⟨by decide, rfl⟩ h (fun x6 h => ?_)
    refine E_get d_X10_readCrow_32 okX7 fl_X10_74 ⟨by decide, rfl⟩ h (fun x7 h => ?_)
    refine E_lstore_n d_X10_readCrow_35 (ls' := [(2, v0), (1, x7), (9, 0), (9, 0), (9, 0)]) ⟨by decide, rfl⟩ ?_
    refine E_aload_n d_X10_readCrow_36 rfl (by decide) ?_
    refine bd h (fun r8 q9 h => ?_)
    refine E_cV (as := []) (st := []) (a := v0) d_X10_readCrow_37 mk_X10_takeNewName nl_X10_78 (by omega) ⟨rfl, rfl, Nat.le_of_ble_eq_true rfl⟩ okX10 rfl (L_X10_takeNewName q9) ?_
    refine E_if_eq (tgt := 55) d_X10_readCrow_40 (by decide) h (fun _ h => ?_) (fun _ h => ?_)
    · refine E_iconst d_X10_readCrow_55 (c32 rfl) ?_
      cases h
      exact E_zret d_X10_readCrow_56 rfl (Or.inl rfl)
    · refine E_aload_n d_X10_readCrow_43 rfl (by decide) ?_
      refine E_get d_X10_readCrow_44 okX10 fl_X10_18 ⟨by decide, rfl⟩ h (fun x10 h => ?_)
      refine E_bipush d_X10_readCrow_47 (c8 rfl) ?_
      refine bd h (fun r11 q12 h => ?_)
      refine E_cV (as := [(0, 7)]) (st := []) (a := x10) d_X10_readCrow_49 mk_X7_takeWord nl_X10_81 (by omega) ⟨rfl, rfl, Nat.le_of_ble_eq_true rfl⟩ okX7 rfl (L_X7_takeWord q12) ?_
      refine E_if_ne (tgt := 57) d_X10_readCrow_52 (by decide) h (fun _ h => ?_) (fun _ h => ?_)
      · refine E_iconst d_X10_readCrow_55 (c32 rfl) ?_
        cases h
        exact E_zret d_X10_readCrow_56 rfl (Or.inl rfl)
      · refine E_aload_n d_X10_readCrow_57 rfl (by decide) ?_
        refine E_get d_X10_readCrow_58 okX10 fl_X10_18 ⟨by decide, rfl⟩ h (fun x13 h => ?_)
        refine bd h (fun r14 q15 h => ?_)
        refine E_cV (as := []) (st := []) (a := x13) d_X10_readCrow_61 mk_X7_isName nl_X10_105 (by omega) ⟨rfl, rfl, Nat.le_of_ble_eq_true rfl⟩ okX7 rfl (L_X7_isName q15) ?_
        refine E_if_ne (tgt := 76) d_X10_readCrow_64 (by decide) h (fun _ h => ?_) (fun _ h => ?_)
        · refine E_aload_n d_X10_readCrow_67 rfl (by decide) ?_
          refine E_get d_X10_readCrow_68 okX10 fl_X10_18 ⟨by decide, rfl⟩ h (fun x16 h => ?_)
          refine E_iconst d_X10_readCrow_71 (c32 rfl) ?_
          refine bd h (fun r17 q18 h => ?_)
          refine E_cV (as := [(0, 2)]) (st := []) (a := x16) d_X10_readCrow_72 mk_X7_refuse nl_X10_51 (by omega) ⟨rfl, rfl, Nat.le_of_ble_eq_true rfl⟩ okX7 rfl (L_X7_refuse q18) ?_
          refine bd_bz h (fun q19 h => ?_)
          cases h
          exact E_zret d_X10_readCrow_75 rfl q19
        · refine E_aload_n d_X10_readCrow_76 rfl (by decide) ?_
          refine E_get d_X10_readCrow_77 okX10 fl_X10_12 ⟨by decide, rfl⟩ h (fun x20 h => ?_)
          refine E_aload_n d_X10_readCrow_80 rfl (by decide) ?_
          refine E_get d_X10_readCrow_81 okX10 fl_X10_18 ⟨by decide, rfl⟩ h (fun x21 h => ?_)
          refine E_get d_X10_readCrow_84 okX7 fl_X10_74 ⟨by decide, rfl⟩ h (fun x22 h => ?_)
          refine bd h (fun r23 q24 h => ?_)
          refine E_cV (as := [(1, x22)]) (st := []) (a := x20) d_X10_readCrow_87 mk_X9_stoneNamed nl_X10_108 (by omega) ⟨rfl, rfl, Nat.le_of_ble_eq_true rfl⟩ okX9 rfl (L_X9_stoneNamed q24) ?_
          refine E_istore_n d_X10_readCrow_90 (ls' := [(2, v0), (1, x7), (9, 0), (0, r23), (9, 0)]) ⟨by decide, rfl⟩ ?_
          refine E_iload_n d_X10_readCrow_91 rfl ?_
          refine E_iconst d_X10_readCrow_92 (c32 rfl) ?_
          refine E_icmp_ne (tgt := 105) d_X10_readCrow_93 (by decide) h (fun _ h => ?_) (fun _ h => ?_)
          · refine E_aload_n d_X10_readCrow_96 rfl (by decide) ?_
            refine E_get d_X10_readCrow_97 okX10 fl_X10_18 ⟨by decide, rfl⟩ h (fun x25 h => ?_)
            refine E_iconst d_X10_readCrow_100 (c32 rfl) ?_
            refine bd h (fun r26 q27 h => ?_)
            refine E_cV (as := [(0, 3)]) (st := []) (a := x25) d_X10_readCrow_101 mk_X7_refuse nl_X10_51 (by omega) ⟨rfl, rfl, Nat.le_of_ble_eq_true rfl⟩ okX7 rfl (L_X7_refuse q27) ?_
            refine bd_bz h (fun q28 h => ?_)
            cases h
            exact E_zret d_X10_readCrow_104 rfl q28
          · refine E_aload_n d_X10_readCrow_105 rfl (by decide) ?_
            refine E_get d_X10_readCrow_106 okX10 fl_X10_18 ⟨by decide, rfl⟩ h (fun x29 h => ?_)
            refine bd h (fun r30 q31 h => ?_)
            refine E_cVv (as := []) (st := []) (a := x29) d_X10_readCrow_109 mk_X7_step nl_X10_54 (by omega) ⟨rfl, rfl, Nat.le_of_ble_eq_true rfl⟩ okX7 rfl (L_X7_step q31) ?_
            refine E_aload_n d_X10_readCrow_112 rfl (by decide) ?_
            refine E_get d_X10_readCrow_113 okX10 fl_X10_18 ⟨by decide, rfl⟩ h (fun x32 h => ?_)
            refine E_bipush d_X10_readCrow_116 (c8 rfl) ?_
            refine bd h (fun r33 q34 h => ?_)
            refine E_cV (as := [(0, 8)]) (st := []) (a := x32) d_X10_readCrow_118 mk_X7_isWord nl_X10_35 (by omega) ⟨rfl, rfl, Nat.le_of_ble_eq_true rfl⟩ okX7 rfl (L_X7_isWord q34) ?_
            refine E_istore d_X10_readCrow_121 (ls' := [(2, v0), (1, x7), (9, 0), (0, r23), (0, r33)]) ⟨by decide, rfl⟩ ?_
            refine E_iload d_X10_readCrow_123 rfl ?_
            refine E_if_ne (tgt := 149) d_X10_readCrow_125 (by decide) h (fun _ h => ?_) (fun _ h => ?_)
            · refine E_aload_n d_X10_readCrow_128 rfl (by decide) ?_
              refine E_get d_X10_readCrow_129 okX10 fl_X10_18 ⟨by decide, rfl⟩ h (fun x35 h => ?_)
              refine E_bipush d_X10_readCrow_132 (c8 rfl) ?_
              refine bd h (fun r36 q37 h => ?_)
              refine E_cV (as := [(0, 9)]) (st := []) (a := x35) d_X10_readCrow_134 mk_X7_isWord nl_X10_35 (by omega) ⟨rfl, rfl, Nat.le_of_ble_eq_true rfl⟩ okX7 rfl (L_X7_isWord q37) ?_
              refine E_if_ne (tgt := 149) d_X10_readCrow_137 (by decide) h (fun _ h => ?_) (fun _ h => ?_)
              · refine E_aload_n d_X10_readCrow_140 rfl (by decide) ?_
                refine E_get d_X10_readCrow_141 okX10 fl_X10_18 ⟨by decide, rfl⟩ h (fun x38 h => ?_)
                refine E_iconst d_X10_readCrow_144 (c32 rfl) ?_
                refine bd h (fun r39 q40 h => ?_)
                refine E_cV (as := [(0, 2)]) (st := []) (a := x38) d_X10_readCrow_145 mk_X7_refuse nl_X10_51 (by omega) ⟨rfl, rfl, Nat.le_of_ble_eq_true rfl⟩ okX7 rfl (L_X7_refuse q40) ?_
                refine bd_bz h (fun q41 h => ?_)
                cases h
                exact E_zret d_X10_readCrow_148 rfl q41
              · exact (L_X10_readCrow_b149 h)
            · exact (L_X10_readCrow_b149 h)
  · refine E_aload_n d_X10_readCrow_11 rfl (by decide) ?_
    refine E_get d_X10_readCrow_12 okX10 fl_X10_18 ⟨by decide, rfl⟩ h (fun x42 h => ?_)
    refine E_bipush d_X10_readCrow_15 (c8 rfl) ?_
    refine bd h (fun r43 q44 h => ?_)
    refine E_cV (as := [(0, 6)]) (st := []) (a := x42) d_X10_readCrow_17 mk_X7_refuse nl_X10_51 (by omega) ⟨rfl, rfl, Nat.le_of_ble_eq_true rfl⟩ okX7 rfl (L_X7_refuse q44) ?_
    refine bd_bz h (fun q45 h => ?_)
    cases h
    exact E_zret d_X10_readCrow_20 rfl q45
noncomputable def f_X10_readCrow (v0 : Int) (σ : Mem) : Option (Int × Mem) := if isO Sh 10 v0 = true then f_X10_readCrow_b0 v0 σ else none
theorem L_X10_readCrow {o : Int × Mem} {v0 : Int} {σ : Mem} (h : f_X10_readCrow v0 σ = some o) : (isO Sh 10 v0 = true ∧ Cn mt_X10_readCrow 5 [(2, v0)] Sh σ (some (0, o.1)) Sh o.2) := ⟨(ite_ok h).1, Cn_of mk_X10_readCrow.1.2.2.1 (Nat.le_of_ble_eq_true rfl) (fun sc => L_X10_readCrow_b0 (ite_ok h).2)⟩
