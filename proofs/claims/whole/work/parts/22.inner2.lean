theorem d_X10_reads_0 : decode mt_X10_reads.2.1 0 = .ok (.aload_n 0, 1) := by decide +kernel
theorem d_X10_reads_1 : decode mt_X10_reads.2.1 1 = .ok (.getfield 12, 3) := by decide +kernel
theorem d_X10_reads_4 : decode mt_X10_reads.2.1 4 = .ok (.invokevirtual 22, 3) := by decide +kernel
theorem d_X10_reads_7 : decode mt_X10_reads.2.1 7 = .ok (.aload_n 0, 1) := by decide +kernel
theorem d_X10_reads_8 : decode mt_X10_reads.2.1 8 = .ok (.iconst 0, 1) := by decide +kernel
theorem d_X10_reads_9 : decode mt_X10_reads.2.1 9 = .ok (.putfield 25, 3) := by decide +kernel
theorem d_X10_reads_12 : decode mt_X10_reads.2.1 12 = .ok (.iconst 1, 1) := by decide +kernel
theorem d_X10_reads_13 : decode mt_X10_reads.2.1 13 = .ok (.istore_n 1, 1) := by decide +kernel
theorem d_X10_reads_14 : decode mt_X10_reads.2.1 14 = .ok (.iconst 0, 1) := by decide +kernel
theorem d_X10_reads_15 : decode mt_X10_reads.2.1 15 = .ok (.istore_n 2, 1) := by decide +kernel
theorem d_X10_reads_16 : decode mt_X10_reads.2.1 16 = .ok (.iload_n 2, 1) := by decide +kernel
theorem d_X10_reads_17 : decode mt_X10_reads.2.1 17 = .ok (.sipush 900, 3) := by decide +kernel
theorem d_X10_reads_20 : decode mt_X10_reads.2.1 20 = .ok (.if_icmp .gt 108, 3) := by decide +kernel
theorem d_X10_reads_23 : decode mt_X10_reads.2.1 23 = .ok (.iload_n 1, 1) := by decide +kernel
theorem d_X10_reads_24 : decode mt_X10_reads.2.1 24 = .ok (.ifCond .eq 104, 3) := by decide +kernel
theorem d_X10_reads_27 : decode mt_X10_reads.2.1 27 = .ok (.aload_n 0, 1) := by decide +kernel
theorem d_X10_reads_28 : decode mt_X10_reads.2.1 28 = .ok (.getfield 18, 3) := by decide +kernel
theorem d_X10_reads_31 : decode mt_X10_reads.2.1 31 = .ok (.invokevirtual 29, 3) := by decide +kernel
theorem d_X10_reads_34 : decode mt_X10_reads.2.1 34 = .ok (.ifCond .ne 94, 3) := by decide +kernel
theorem d_X10_reads_37 : decode mt_X10_reads.2.1 37 = .ok (.aload_n 0, 1) := by decide +kernel
theorem d_X10_reads_38 : decode mt_X10_reads.2.1 38 = .ok (.getfield 18, 3) := by decide +kernel
theorem d_X10_reads_41 : decode mt_X10_reads.2.1 41 = .ok (.iconst 0, 1) := by decide +kernel
theorem d_X10_reads_42 : decode mt_X10_reads.2.1 42 = .ok (.invokevirtual 35, 3) := by decide +kernel
theorem d_X10_reads_45 : decode mt_X10_reads.2.1 45 = .ok (.ifCond .eq 11, 3) := by decide +kernel
theorem d_X10_reads_48 : decode mt_X10_reads.2.1 48 = .ok (.aload_n 0, 1) := by decide +kernel
theorem d_X10_reads_49 : decode mt_X10_reads.2.1 49 = .ok (.invokevirtual 39, 3) := by decide +kernel
theorem d_X10_reads_52 : decode mt_X10_reads.2.1 52 = .ok (.istore_n 1, 1) := by decide +kernel
theorem d_X10_reads_53 : decode mt_X10_reads.2.1 53 = .ok (.goto 69, 3) := by decide +kernel
theorem d_X10_reads_56 : decode mt_X10_reads.2.1 56 = .ok (.aload_n 0, 1) := by decide +kernel
theorem d_X10_reads_57 : decode mt_X10_reads.2.1 57 = .ok (.getfield 18, 3) := by decide +kernel
theorem d_X10_reads_60 : decode mt_X10_reads.2.1 60 = .ok (.iconst 1, 1) := by decide +kernel
theorem d_X10_reads_61 : decode mt_X10_reads.2.1 61 = .ok (.invokevirtual 35, 3) := by decide +kernel
theorem d_X10_reads_64 : decode mt_X10_reads.2.1 64 = .ok (.ifCond .eq 11, 3) := by decide +kernel
theorem d_X10_reads_67 : decode mt_X10_reads.2.1 67 = .ok (.aload_n 0, 1) := by decide +kernel
theorem d_X10_reads_68 : decode mt_X10_reads.2.1 68 = .ok (.invokevirtual 42, 3) := by decide +kernel
theorem d_X10_reads_71 : decode mt_X10_reads.2.1 71 = .ok (.istore_n 1, 1) := by decide +kernel
theorem d_X10_reads_72 : decode mt_X10_reads.2.1 72 = .ok (.goto 50, 3) := by decide +kernel
theorem d_X10_reads_75 : decode mt_X10_reads.2.1 75 = .ok (.aload_n 0, 1) := by decide +kernel
theorem d_X10_reads_76 : decode mt_X10_reads.2.1 76 = .ok (.getfield 18, 3) := by decide +kernel
theorem d_X10_reads_79 : decode mt_X10_reads.2.1 79 = .ok (.iconst 5, 1) := by decide +kernel
theorem d_X10_reads_80 : decode mt_X10_reads.2.1 80 = .ok (.invokevirtual 35, 3) := by decide +kernel
theorem d_X10_reads_83 : decode mt_X10_reads.2.1 83 = .ok (.ifCond .eq 11, 3) := by decide +kernel
theorem d_X10_reads_86 : decode mt_X10_reads.2.1 86 = .ok (.aload_n 0, 1) := by decide +kernel
theorem d_X10_reads_87 : decode mt_X10_reads.2.1 87 = .ok (.invokevirtual 45, 3) := by decide +kernel
theorem d_X10_reads_90 : decode mt_X10_reads.2.1 90 = .ok (.istore_n 1, 1) := by decide +kernel
theorem d_X10_reads_91 : decode mt_X10_reads.2.1 91 = .ok (.goto 31, 3) := by decide +kernel
theorem d_X10_reads_94 : decode mt_X10_reads.2.1 94 = .ok (.aload_n 0, 1) := by decide +kernel
theorem d_X10_reads_95 : decode mt_X10_reads.2.1 95 = .ok (.getfield 18, 3) := by decide +kernel
theorem d_X10_reads_98 : decode mt_X10_reads.2.1 98 = .ok (.bipush 6, 2) := by decide +kernel
theorem d_X10_reads_100 : decode mt_X10_reads.2.1 100 = .ok (.invokevirtual 35, 3) := by decide +kernel
theorem d_X10_reads_103 : decode mt_X10_reads.2.1 103 = .ok (.ifCond .eq 10, 3) := by decide +kernel
theorem d_X10_reads_106 : decode mt_X10_reads.2.1 106 = .ok (.aload_n 0, 1) := by decide +kernel
theorem d_X10_reads_107 : decode mt_X10_reads.2.1 107 = .ok (.invokevirtual 48, 3) := by decide +kernel
theorem d_X10_reads_110 : decode mt_X10_reads.2.1 110 = .ok (.goto 11, 3) := by decide +kernel
theorem d_X10_reads_113 : decode mt_X10_reads.2.1 113 = .ok (.aload_n 0, 1) := by decide +kernel
theorem d_X10_reads_114 : decode mt_X10_reads.2.1 114 = .ok (.getfield 18, 3) := by decide +kernel
theorem d_X10_reads_117 : decode mt_X10_reads.2.1 117 = .ok (.iconst 2, 1) := by decide +kernel
theorem d_X10_reads_118 : decode mt_X10_reads.2.1 118 = .ok (.invokevirtual 51, 3) := by decide +kernel
theorem d_X10_reads_121 : decode mt_X10_reads.2.1 121 = .ok (.istore_n 1, 1) := by decide +kernel
theorem d_X10_reads_122 : decode mt_X10_reads.2.1 122 = .ok (.iinc 2 1, 3) := by decide +kernel
theorem d_X10_reads_125 : decode mt_X10_reads.2.1 125 = .ok (.goto (-109), 3) := by decide +kernel
theorem d_X10_reads_128 : decode mt_X10_reads.2.1 128 = .ok (.iload_n 1, 1) := by decide +kernel
theorem d_X10_reads_129 : decode mt_X10_reads.2.1 129 = .ok (.ireturn, 1) := by decide +kernel
noncomputable def f_X10_reads_b122 (k16 : (Int → Int → Int → Mem → Option (Int × Mem))) (v0 v1 v2 : Int) (σ : Mem) : Option (Int × Mem) :=
  k16 v0 v1 (w32 (v2 + 1)) σ
theorem L_X10_reads_b122 {sc : Nat × (Nat → Int32)} {o : Int × Mem} {k16 : (Int → Int → Int → Mem → Option (Int × Mem))} (hk16 : ∀ {v0 v1 v2 : Int} {σ : Mem}, k16 v0 v1 v2 σ = some o → E sc (Fm Sh (some (0, o.1)) Sh o.2) mt_X10_reads 7 Sh Sh 16 [(2, v0), (0, v1), (0, v2)] [] Sh σ) {v0 v1 v2 : Int} {σ : Mem} (h : f_X10_reads_b122 k16 v0 v1 v2 σ = some o) : E sc (Fm Sh (some (0, o.1)) Sh o.2) mt_X10_reads 7 Sh Sh 122 [(2, v0), (0, v1), (0, v2)] [] Sh σ := by
  unfold f_X10_reads_b122 at h
  refine E_iinc d_X10_reads_122 (ls' := [(2, v0), (0, v1), (0, w32 (v2 + 1))]) rfl ⟨by decide, rfl⟩ ?_
  refine E_goto (tgt := 16) d_X10_reads_125 (by decide) ?_
  exact (hk16 h)
noncomputable def f_X10_reads_b121 (k16 : (Int → Int → Int → Mem → Option (Int × Mem))) (v0 v2 s0 : Int) (σ : Mem) : Option (Int × Mem) :=
  f_X10_reads_b122 k16 v0 s0 v2 σ
theorem L_X10_reads_b121 {sc : Nat × (Nat → Int32)} {o : Int × Mem} {k16 : (Int → Int → Int → Mem → Option (Int × Mem))} (hk16 : ∀ {v0 v1 v2 : Int} {σ : Mem}, k16 v0 v1 v2 σ = some o → E sc (Fm Sh (some (0, o.1)) Sh o.2) mt_X10_reads 7 Sh Sh 16 [(2, v0), (0, v1), (0, v2)] [] Sh σ) {v0 v2 s0 : Int} {σ : Mem} (h : f_X10_reads_b121 k16 v0 v2 s0 σ = some o) : E sc (Fm Sh (some (0, o.1)) Sh o.2) mt_X10_reads 7 Sh Sh 121 [(2, v0), (9, 0), (0, v2)] [(0, s0)] Sh σ := by
  unfold f_X10_reads_b121 at h
  refine E_istore_n d_X10_reads_121 (ls' := [(2, v0), (0, s0), (0, v2)]) ⟨by decide, rfl⟩ ?_
  exact (L_X10_reads_b122 hk16 h)
noncomputable def f_X10_reads_b16 (k16 : (Int → Int → Int → Mem → Option (Int × Mem))) (v0 v1 v2 : Int) (σ : Mem) : Option (Int × Mem) :=
  if 900 < v2 then
    (bz v1).bind fun _ =>
    some (v1, σ)
  else
    if v1 = 0 then
      (bz v1).bind fun _ =>
      some (v1, σ)
    else
      (gf Sh σ 10 v0 0).bind fun x7 =>
      (f_X7_isAtEnd x7 σ).bind fun r8 =>
      if r8 = 0 then
        (gf Sh σ 10 v0 0).bind fun x10 =>
        (f_X7_isWord x10 0 σ).bind fun r11 =>
        if r11 = 0 then
          (gf Sh σ 10 v0 0).bind fun x13 =>
          (f_X7_isWord x13 1 σ).bind fun r14 =>
          if r14 = 0 then
            (gf Sh σ 10 v0 0).bind fun x16 =>
            (f_X7_isWord x16 5 σ).bind fun r17 =>
            if r17 = 0 then
              (gf Sh σ 10 v0 0).bind fun x19 =>
              (f_X7_isWord x19 6 σ).bind fun r20 =>
              if r20 = 0 then
                (gf Sh σ 10 v0 0).bind fun x22 =>
                (f_X7_refuse x22 2 σ).bind fun r23 =>
                f_X10_reads_b121 k16 v0 v2 r23.1 r23.2
              else
                (f_X10_readCrow v0 σ).bind fun r25 =>
                f_X10_reads_b121 k16 v0 v2 r25.1 r25.2
            else
              (f_X10_readGap v0 σ).bind fun r27 =>
              f_X10_reads_b122 k16 v0 r27.1 v2 r27.2
          else
            (f_X10_readStone v0 σ).bind fun r29 =>
            f_X10_reads_b122 k16 v0 r29.1 v2 r29.2
        else
          (f_X10_readOdds v0 σ).bind fun r31 =>
          f_X10_reads_b122 k16 v0 r31.1 v2 r31.2
      else
        (bz v1).bind fun _ =>
        some (v1, σ)
theorem L_X10_reads_b16 {sc : Nat × (Nat → Int32)} {o : Int × Mem} {k16 : (Int → Int → Int → Mem → Option (Int × Mem))} (hk16 : ∀ {v0 v1 v2 : Int} {σ : Mem}, k16 v0 v1 v2 σ = some o → E sc (Fm Sh (some (0, o.1)) Sh o.2) mt_X10_reads 7 Sh Sh 16 [(2, v0), (0, v1), (0, v2)] [] Sh σ) {v0 v1 v2 : Int} {σ : Mem} (h : f_X10_reads_b16 k16 v0 v1 v2 σ = some o) : E sc (Fm Sh (some (0, o.1)) Sh o.2) mt_X10_reads 7 Sh Sh 16 [(2, v0), (0, v1), (0, v2)] [] Sh σ := by
  unfold f_X10_reads_b16 at h
  refine E_iload_n d_X10_reads_16 rfl ?_
  refine E_sipush d_X10_reads_17 (c16 rfl) ?_
  refine E_icmp_gt (tgt := 128) d_X10_reads_20 (by decide) h (fun _ h => ?_) (fun _ h => ?_)
  · refine E_iload_n d_X10_reads_128 rfl ?_
    refine bd_bz h (fun q5 h => ?_)
    cases h
    exact E_zret d_X10_reads_129 rfl q5
  · refine E_iload_n d_X10_reads_23 rfl ?_
    refine E_if_eq (tgt := 128) d_X10_reads_24 (by decide) h (fun _ h => ?_) (fun _ h => ?_)
    · refine E_iload_n d_X10_reads_128 rfl ?_
      refine bd_bz h (fun q6 h => ?_)
      cases h
      exact E_zret d_X10_reads_129 rfl q6
    · refine E_aload_n d_X10_reads_27 rfl (by decide) ?_
      refine E_get d_X10_reads_28 okX10 fl_X10_18 ⟨by decide, rfl⟩ h (fun x7 h => ?_)
      refine bd h (fun r8 q9 h => ?_)
      refine E_cV (as := []) (st := []) (a := x7) d_X10_reads_31 mk_X7_isAtEnd nl_X10_29 (by omega) ⟨rfl, rfl, Nat.le_of_ble_eq_true rfl⟩ okX7 rfl (L_X7_isAtEnd q9) ?_
      refine E_if_ne (tgt := 128) d_X10_reads_34 (by decide) h (fun _ h => ?_) (fun _ h => ?_)
      · refine E_aload_n d_X10_reads_37 rfl (by decide) ?_
        refine E_get d_X10_reads_38 okX10 fl_X10_18 ⟨by decide, rfl⟩ h (fun x10 h => ?_)
        refine E_iconst d_X10_reads_41 (c32 rfl) ?_
        refine bd h (fun r11 q12 h => ?_)
        refine E_cV (as := [(0, 0)]) (st := []) (a := x10) d_X10_reads_42 mk_X7_isWord nl_X10_35 (by omega) ⟨rfl, rfl, Nat.le_of_ble_eq_true rfl⟩ okX7 rfl (L_X7_isWord q12) ?_
        refine E_if_eq (tgt := 56) d_X10_reads_45 (by decide) h (fun _ h => ?_) (fun _ h => ?_)
        · refine E_aload_n d_X10_reads_56 rfl (by decide) ?_
          refine E_get d_X10_reads_57 okX10 fl_X10_18 ⟨by decide, rfl⟩ h (fun x13 h => ?_)
          refine E_iconst d_X10_reads_60 (c32 rfl) ?_
          refine bd h (fun r14 q15 h => ?_)
          refine E_cV (as := [(0, 1)]) (st := []) (a := x13) d_X10_reads_61 mk_X7_isWord nl_X10_35 (by omega) ⟨rfl, rfl, Nat.le_of_ble_eq_true rfl⟩ okX7 rfl (L_X7_isWord q15) ?_
          refine E_if_eq (tgt := 75) d_X10_reads_64 (by decide) h (fun _ h => ?_) (fun _ h => ?_)
          · refine E_aload_n d_X10_reads_75 rfl (by decide) ?_
            refine E_get d_X10_reads_76 okX10 fl_X10_18 ⟨by decide, rfl⟩ h (fun x16 h => ?_)
            refine E_iconst d_X10_reads_79 (c32 rfl) ?_
            refine bd h (fun r17 q18 h => ?_)
            refine E_cV (as := [(0, 5)]) (st := []) (a := x16) d_X10_reads_80 mk_X7_isWord nl_X10_35 (by omega) ⟨rfl, rfl, Nat.le_of_ble_eq_true rfl⟩ okX7 rfl (L_X7_isWord q18) ?_
            refine E_if_eq (tgt := 94) d_X10_reads_83 (by decide) h (fun _ h => ?_) (fun _ h => ?_)
            · refine E_aload_n d_X10_reads_94 rfl (by decide) ?_
              refine E_get d_X10_reads_95 okX10 fl_X10_18 ⟨by decide, rfl⟩ h (fun x19 h => ?_)
              refine E_bipush d_X10_reads_98 (c8 rfl) ?_
              refine bd h (fun r20 q21 h => ?_)
              refine E_cV (as := [(0, 6)]) (st := []) (a := x19) d_X10_reads_100 mk_X7_isWord nl_X10_35 (by omega) ⟨rfl, rfl, Nat.le_of_ble_eq_true rfl⟩ okX7 rfl (L_X7_isWord q21) ?_
              refine E_if_eq (tgt := 113) d_X10_reads_103 (by decide) h (fun _ h => ?_) (fun _ h => ?_)
              · refine E_aload_n d_X10_reads_113 rfl (by decide) ?_
                refine E_get d_X10_reads_114 okX10 fl_X10_18 ⟨by decide, rfl⟩ h (fun x22 h => ?_)
                refine E_iconst d_X10_reads_117 (c32 rfl) ?_
                refine bd h (fun r23 q24 h => ?_)
                refine E_cV (as := [(0, 2)]) (st := []) (a := x22) d_X10_reads_118 mk_X7_refuse nl_X10_51 (by omega) ⟨rfl, rfl, Nat.le_of_ble_eq_true rfl⟩ okX7 rfl (L_X7_refuse q24) ?_
                exact E_weak (ls' := [(2, v0), (9, 0), (0, v2)]) ⟨Or.inr rfl, Or.inl rfl, Or.inr rfl, trivial⟩ (L_X10_reads_b121 hk16 h)
              · refine E_aload_n d_X10_reads_106 rfl (by decide) ?_
                refine bd h (fun r25 q26 h => ?_)
                refine E_cV (as := []) (st := []) (a := v0) d_X10_reads_107 mk_X10_readCrow nl_X10_48 (by omega) ⟨rfl, rfl, Nat.le_of_ble_eq_true rfl⟩ okX10 rfl (L_X10_readCrow q26) ?_
                refine E_goto (tgt := 121) d_X10_reads_110 (by decide) ?_
                exact E_weak (ls' := [(2, v0), (9, 0), (0, v2)]) ⟨Or.inr rfl, Or.inl rfl, Or.inr rfl, trivial⟩ (L_X10_reads_b121 hk16 h)
            · refine E_aload_n d_X10_reads_86 rfl (by decide) ?_
              refine bd h (fun r27 q28 h => ?_)
              refine E_cV (as := []) (st := []) (a := v0) d_X10_reads_87 mk_X10_readGap nl_X10_45 (by omega) ⟨rfl, rfl, Nat.le_of_ble_eq_true rfl⟩ okX10 rfl (L_X10_readGap q28) ?_
              refine E_istore_n d_X10_reads_90 (ls' := [(2, v0), (0, r27.1), (0, v2)]) ⟨by decide, rfl⟩ ?_
              refine E_goto (tgt := 122) d_X10_reads_91 (by decide) ?_
              exact (L_X10_reads_b122 hk16 h)
          · refine E_aload_n d_X10_reads_67 rfl (by decide) ?_
            refine bd h (fun r29 q30 h => ?_)
            refine E_cV (as := []) (st := []) (a := v0) d_X10_reads_68 mk_X10_readStone nl_X10_42 (by omega) ⟨rfl, rfl, Nat.le_of_ble_eq_true rfl⟩ okX10 rfl (L_X10_readStone q30) ?_
            refine E_istore_n d_X10_reads_71 (ls' := [(2, v0), (0, r29.1), (0, v2)]) ⟨by decide, rfl⟩ ?_
            refine E_goto (tgt := 122) d_X10_reads_72 (by decide) ?_
            exact (L_X10_reads_b122 hk16 h)
        · refine E_aload_n d_X10_reads_48 rfl (by decide) ?_
          refine bd h (fun r31 q32 h => ?_)
          refine E_cV (as := []) (st := []) (a := v0) d_X10_reads_49 mk_X10_readOdds nl_X10_39 (by omega) ⟨rfl, rfl, Nat.le_of_ble_eq_true rfl⟩ okX10 rfl (L_X10_readOdds q32) ?_
          refine E_istore_n d_X10_reads_52 (ls' := [(2, v0), (0, r31.1), (0, v2)]) ⟨by decide, rfl⟩ ?_
          refine E_goto (tgt := 122) d_X10_reads_53 (by decide) ?_
          exact (L_X10_reads_b122 hk16 h)
      · refine E_iload_n d_X10_reads_128 rfl ?_
        refine bd_bz h (fun q33 h => ?_)
        cases h
        exact E_zret d_X10_reads_129 rfl q33
noncomputable def f_X10_reads_h16 (n : Nat) : Int → Int → Int → Mem → Option (Int × Mem) := Nat.rec (motive := fun _ => Int → Int → Int → Mem → Option (Int × Mem)) (fun _ _ _ _ => none) (fun _ ih => f_X10_reads_b16 (ih)) n
theorem L_X10_reads_h16 {sc : Nat × (Nat → Int32)} {o : Int × Mem} : ∀ (n : Nat) {v0 v1 v2 : Int} {σ : Mem}, f_X10_reads_h16 n v0 v1 v2 σ = some o → E sc (Fm Sh (some (0, o.1)) Sh o.2) mt_X10_reads 7 Sh Sh 16 [(2, v0), (0, v1), (0, v2)] [] Sh σ := by
  intro n
  induction n with
  | zero => intro v0 v1 v2 σ h; cases h
  | succ n ih => intro v0 v1 v2 σ h; exact L_X10_reads_b16 (@ih) h
noncomputable def f_X10_reads_b0 (v0 : Int) (σ : Mem) : Option (Int × Mem) :=
  (gf Sh σ 10 v0 1).bind fun x1 =>
  (f_X9_empty x1 σ).bind fun r2 =>
  (pf Sh r2 10 v0 2 0).bind fun σ4 =>
  f_X10_reads_h16 FU v0 1 0 σ4
theorem L_X10_reads_b0 {sc : Nat × (Nat → Int32)} {o : Int × Mem} {v0 : Int} {σ : Mem} (h : f_X10_reads_b0 v0 σ = some o) : E sc (Fm Sh (some (0, o.1)) Sh o.2) mt_X10_reads 7 Sh Sh 0 [(2, v0), (9, 0), (9, 0)] [] Sh σ := by
  unfold f_X10_reads_b0 at h
  refine E_aload_n d_X10_reads_0 rfl (by decide) ?_
  refine E_get d_X10_reads_1 okX10 fl_X10_12 ⟨by decide, rfl⟩ h (fun x1 h => ?_)
  refine bd h (fun r2 q3 h => ?_)
  refine E_cVv (as := []) (st := []) (a := x1) d_X10_reads_4 mk_X9_empty nl_X10_22 (by omega) ⟨rfl, rfl, Nat.le_of_ble_eq_true rfl⟩ okX9 rfl (L_X9_empty q3) ?_
  refine E_aload_n d_X10_reads_7 rfl (by decide) ?_
  refine E_iconst d_X10_reads_8 (c32 rfl) ?_
  refine E_put d_X10_reads_9 okX10 fl_X10_25 ⟨by decide, rfl⟩ (Or.inr (Or.inr (Or.inl ⟨rfl, rfl, (Or.inl rfl)⟩))) (Or.inl rfl) h (fun σ4 h => ?_)
  refine E_iconst d_X10_reads_12 (c32 rfl) ?_
  refine E_istore_n d_X10_reads_13 (ls' := [(2, v0), (0, 1), (9, 0)]) ⟨by decide, rfl⟩ ?_
  refine E_iconst d_X10_reads_14 (c32 rfl) ?_
  refine E_istore_n d_X10_reads_15 (ls' := [(2, v0), (0, 1), (0, 0)]) ⟨by decide, rfl⟩ ?_
  exact (L_X10_reads_h16 FU h)
noncomputable def f_X10_reads (v0 : Int) (σ : Mem) : Option (Int × Mem) := if isO Sh 10 v0 = true then f_X10_reads_b0 v0 σ else none
theorem L_X10_reads {o : Int × Mem} {v0 : Int} {σ : Mem} (h : f_X10_reads v0 σ = some o) : (isO Sh 10 v0 = true ∧ Cn mt_X10_reads 7 [(2, v0)] Sh σ (some (0, o.1)) Sh o.2) := ⟨(ite_ok h).1, Cn_of mk_X10_reads.1.2.2.1 (Nat.le_of_ble_eq_true rfl) (fun sc => L_X10_reads_b0 (ite_ok h).2)⟩
theorem d_X9_copyFrom_0 : decode mt_X9_copyFrom.2.1 0 = .ok (.aload_n 0, 1) := by decide +kernel
theorem d_X9_copyFrom_1 : decode mt_X9_copyFrom.2.1 1 = .ok (.aload_n 1, 1) := by decide +kernel
theorem d_X9_copyFrom_2 : decode mt_X9_copyFrom.2.1 2 = .ok (.getfield 42, 3) := by decide +kernel
theorem d_X9_copyFrom_5 : decode mt_X9_copyFrom.2.1 5 = .ok (.putfield 42, 3) := by decide +kernel
theorem d_X9_copyFrom_8 : decode mt_X9_copyFrom.2.1 8 = .ok (.aload_n 0, 1) := by decide +kernel
theorem d_X9_copyFrom_9 : decode mt_X9_copyFrom.2.1 9 = .ok (.aload_n 1, 1) := by decide +kernel
theorem d_X9_copyFrom_10 : decode mt_X9_copyFrom.2.1 10 = .ok (.getfield 45, 3) := by decide +kernel
theorem d_X9_copyFrom_13 : decode mt_X9_copyFrom.2.1 13 = .ok (.putfield 45, 3) := by decide +kernel
theorem d_X9_copyFrom_16 : decode mt_X9_copyFrom.2.1 16 = .ok (.iconst 0, 1) := by decide +kernel
theorem d_X9_copyFrom_17 : decode mt_X9_copyFrom.2.1 17 = .ok (.istore_n 2, 1) := by decide +kernel
theorem d_X9_copyFrom_18 : decode mt_X9_copyFrom.2.1 18 = .ok (.iload_n 2, 1) := by decide +kernel
theorem d_X9_copyFrom_19 : decode mt_X9_copyFrom.2.1 19 = .ok (.bipush 10, 2) := by decide +kernel
theorem d_X9_copyFrom_21 : decode mt_X9_copyFrom.2.1 21 = .ok (.if_icmp .ge 69, 3) := by decide +kernel
theorem d_X9_copyFrom_24 : decode mt_X9_copyFrom.2.1 24 = .ok (.aload_n 0, 1) := by decide +kernel
theorem d_X9_copyFrom_25 : decode mt_X9_copyFrom.2.1 25 = .ok (.getfield 9, 3) := by decide +kernel
theorem d_X9_copyFrom_28 : decode mt_X9_copyFrom.2.1 28 = .ok (.iload_n 2, 1) := by decide +kernel
theorem d_X9_copyFrom_29 : decode mt_X9_copyFrom.2.1 29 = .ok (.aload_n 1, 1) := by decide +kernel
theorem d_X9_copyFrom_30 : decode mt_X9_copyFrom.2.1 30 = .ok (.getfield 9, 3) := by decide +kernel
theorem d_X9_copyFrom_33 : decode mt_X9_copyFrom.2.1 33 = .ok (.iload_n 2, 1) := by decide +kernel
theorem d_X9_copyFrom_34 : decode mt_X9_copyFrom.2.1 34 = .ok (.iaload, 1) := by decide +kernel
theorem d_X9_copyFrom_35 : decode mt_X9_copyFrom.2.1 35 = .ok (.iastore, 1) := by decide +kernel
theorem d_X9_copyFrom_36 : decode mt_X9_copyFrom.2.1 36 = .ok (.aload_n 0, 1) := by decide +kernel
theorem d_X9_copyFrom_37 : decode mt_X9_copyFrom.2.1 37 = .ok (.getfield 15, 3) := by decide +kernel
theorem d_X9_copyFrom_40 : decode mt_X9_copyFrom.2.1 40 = .ok (.iload_n 2, 1) := by decide +kernel
theorem d_X9_copyFrom_41 : decode mt_X9_copyFrom.2.1 41 = .ok (.aload_n 1, 1) := by decide +kernel
theorem d_X9_copyFrom_42 : decode mt_X9_copyFrom.2.1 42 = .ok (.getfield 15, 3) := by decide +kernel
theorem d_X9_copyFrom_45 : decode mt_X9_copyFrom.2.1 45 = .ok (.iload_n 2, 1) := by decide +kernel
theorem d_X9_copyFrom_46 : decode mt_X9_copyFrom.2.1 46 = .ok (.iaload, 1) := by decide +kernel
theorem d_X9_copyFrom_47 : decode mt_X9_copyFrom.2.1 47 = .ok (.iastore, 1) := by decide +kernel
theorem d_X9_copyFrom_48 : decode mt_X9_copyFrom.2.1 48 = .ok (.aload_n 0, 1) := by decide +kernel
theorem d_X9_copyFrom_49 : decode mt_X9_copyFrom.2.1 49 = .ok (.getfield 18, 3) := by decide +kernel
theorem d_X9_copyFrom_52 : decode mt_X9_copyFrom.2.1 52 = .ok (.iload_n 2, 1) := by decide +kernel
theorem d_X9_copyFrom_53 : decode mt_X9_copyFrom.2.1 53 = .ok (.aload_n 1, 1) := by decide +kernel
theorem d_X9_copyFrom_54 : decode mt_X9_copyFrom.2.1 54 = .ok (.getfield 18, 3) := by decide +kernel
theorem d_X9_copyFrom_57 : decode mt_X9_copyFrom.2.1 57 = .ok (.iload_n 2, 1) := by decide +kernel
theorem d_X9_copyFrom_58 : decode mt_X9_copyFrom.2.1 58 = .ok (.iaload, 1) := by decide +kernel
theorem d_X9_copyFrom_59 : decode mt_X9_copyFrom.2.1 59 = .ok (.iastore, 1) := by decide +kernel
theorem d_X9_copyFrom_60 : decode mt_X9_copyFrom.2.1 60 = .ok (.aload_n 0, 1) := by decide +kernel
theorem d_X9_copyFrom_61 : decode mt_X9_copyFrom.2.1 61 = .ok (.getfield 21, 3) := by decide +kernel
theorem d_X9_copyFrom_64 : decode mt_X9_copyFrom.2.1 64 = .ok (.iload_n 2, 1) := by decide +kernel
theorem d_X9_copyFrom_65 : decode mt_X9_copyFrom.2.1 65 = .ok (.aload_n 1, 1) := by decide +kernel
theorem d_X9_copyFrom_66 : decode mt_X9_copyFrom.2.1 66 = .ok (.getfield 21, 3) := by decide +kernel
theorem d_X9_copyFrom_69 : decode mt_X9_copyFrom.2.1 69 = .ok (.iload_n 2, 1) := by decide +kernel
theorem d_X9_copyFrom_70 : decode mt_X9_copyFrom.2.1 70 = .ok (.iaload, 1) := by decide +kernel
theorem d_X9_copyFrom_71 : decode mt_X9_copyFrom.2.1 71 = .ok (.iastore, 1) := by decide +kernel
theorem d_X9_copyFrom_72 : decode mt_X9_copyFrom.2.1 72 = .ok (.aload_n 0, 1) := by decide +kernel
theorem d_X9_copyFrom_73 : decode mt_X9_copyFrom.2.1 73 = .ok (.getfield 24, 3) := by decide +kernel
theorem d_X9_copyFrom_76 : decode mt_X9_copyFrom.2.1 76 = .ok (.iload_n 2, 1) := by decide +kernel
theorem d_X9_copyFrom_77 : decode mt_X9_copyFrom.2.1 77 = .ok (.aload_n 1, 1) := by decide +kernel
theorem d_X9_copyFrom_78 : decode mt_X9_copyFrom.2.1 78 = .ok (.getfield 24, 3) := by decide +kernel
theorem d_X9_copyFrom_81 : decode mt_X9_copyFrom.2.1 81 = .ok (.iload_n 2, 1) := by decide +kernel
theorem d_X9_copyFrom_82 : decode mt_X9_copyFrom.2.1 82 = .ok (.laload, 1) := by decide +kernel
theorem d_X9_copyFrom_83 : decode mt_X9_copyFrom.2.1 83 = .ok (.lastore, 1) := by decide +kernel
theorem d_X9_copyFrom_84 : decode mt_X9_copyFrom.2.1 84 = .ok (.iinc 2 1, 3) := by decide +kernel
theorem d_X9_copyFrom_87 : decode mt_X9_copyFrom.2.1 87 = .ok (.goto (-69), 3) := by decide +kernel
theorem d_X9_copyFrom_90 : decode mt_X9_copyFrom.2.1 90 = .ok (.aload_n 0, 1) := by decide +kernel
theorem d_X9_copyFrom_91 : decode mt_X9_copyFrom.2.1 91 = .ok (.aload_n 1, 1) := by decide +kernel
theorem d_X9_copyFrom_92 : decode mt_X9_copyFrom.2.1 92 = .ok (.getfield 48, 3) := by decide +kernel
theorem d_X9_copyFrom_95 : decode mt_X9_copyFrom.2.1 95 = .ok (.putfield 48, 3) := by decide +kernel
theorem d_X9_copyFrom_98 : decode mt_X9_copyFrom.2.1 98 = .ok (.iconst 0, 1) := by decide +kernel
theorem d_X9_copyFrom_99 : decode mt_X9_copyFrom.2.1 99 = .ok (.istore_n 2, 1) := by decide +kernel
theorem d_X9_copyFrom_100 : decode mt_X9_copyFrom.2.1 100 = .ok (.iload_n 2, 1) := by decide +kernel
theorem d_X9_copyFrom_101 : decode mt_X9_copyFrom.2.1 101 = .ok (.iconst 4, 1) := by decide +kernel
theorem d_X9_copyFrom_102 : decode mt_X9_copyFrom.2.1 102 = .ok (.if_icmp .ge 45, 3) := by decide +kernel
theorem d_X9_copyFrom_105 : decode mt_X9_copyFrom.2.1 105 = .ok (.aload_n 0, 1) := by decide +kernel
theorem d_X9_copyFrom_106 : decode mt_X9_copyFrom.2.1 106 = .ok (.getfield 28, 3) := by decide +kernel
theorem d_X9_copyFrom_109 : decode mt_X9_copyFrom.2.1 109 = .ok (.iload_n 2, 1) := by decide +kernel
theorem d_X9_copyFrom_110 : decode mt_X9_copyFrom.2.1 110 = .ok (.aload_n 1, 1) := by decide +kernel
theorem d_X9_copyFrom_111 : decode mt_X9_copyFrom.2.1 111 = .ok (.getfield 28, 3) := by decide +kernel
theorem d_X9_copyFrom_114 : decode mt_X9_copyFrom.2.1 114 = .ok (.iload_n 2, 1) := by decide +kernel
theorem d_X9_copyFrom_115 : decode mt_X9_copyFrom.2.1 115 = .ok (.iaload, 1) := by decide +kernel
theorem d_X9_copyFrom_116 : decode mt_X9_copyFrom.2.1 116 = .ok (.iastore, 1) := by decide +kernel
theorem d_X9_copyFrom_117 : decode mt_X9_copyFrom.2.1 117 = .ok (.aload_n 0, 1) := by decide +kernel
theorem d_X9_copyFrom_118 : decode mt_X9_copyFrom.2.1 118 = .ok (.getfield 31, 3) := by decide +kernel
theorem d_X9_copyFrom_121 : decode mt_X9_copyFrom.2.1 121 = .ok (.iload_n 2, 1) := by decide +kernel
theorem d_X9_copyFrom_122 : decode mt_X9_copyFrom.2.1 122 = .ok (.aload_n 1, 1) := by decide +kernel
theorem d_X9_copyFrom_123 : decode mt_X9_copyFrom.2.1 123 = .ok (.getfield 31, 3) := by decide +kernel
theorem d_X9_copyFrom_126 : decode mt_X9_copyFrom.2.1 126 = .ok (.iload_n 2, 1) := by decide +kernel
theorem d_X9_copyFrom_127 : decode mt_X9_copyFrom.2.1 127 = .ok (.baload, 1) := by decide +kernel
theorem d_X9_copyFrom_128 : decode mt_X9_copyFrom.2.1 128 = .ok (.bastore, 1) := by decide +kernel
theorem d_X9_copyFrom_129 : decode mt_X9_copyFrom.2.1 129 = .ok (.aload_n 0, 1) := by decide +kernel
theorem d_X9_copyFrom_130 : decode mt_X9_copyFrom.2.1 130 = .ok (.getfield 35, 3) := by decide +kernel
theorem d_X9_copyFrom_133 : decode mt_X9_copyFrom.2.1 133 = .ok (.iload_n 2, 1) := by decide +kernel
theorem d_X9_copyFrom_134 : decode mt_X9_copyFrom.2.1 134 = .ok (.aload_n 1, 1) := by decide +kernel
theorem d_X9_copyFrom_135 : decode mt_X9_copyFrom.2.1 135 = .ok (.getfield 35, 3) := by decide +kernel
theorem d_X9_copyFrom_138 : decode mt_X9_copyFrom.2.1 138 = .ok (.iload_n 2, 1) := by decide +kernel
theorem d_X9_copyFrom_139 : decode mt_X9_copyFrom.2.1 139 = .ok (.laload, 1) := by decide +kernel
theorem d_X9_copyFrom_140 : decode mt_X9_copyFrom.2.1 140 = .ok (.lastore, 1) := by decide +kernel
theorem d_X9_copyFrom_141 : decode mt_X9_copyFrom.2.1 141 = .ok (.iinc 2 1, 3) := by decide +kernel
theorem d_X9_copyFrom_144 : decode mt_X9_copyFrom.2.1 144 = .ok (.goto (-44), 3) := by decide +kernel
theorem d_X9_copyFrom_147 : decode mt_X9_copyFrom.2.1 147 = .ok (.aload_n 0, 1) := by decide +kernel
theorem d_X9_copyFrom_148 : decode mt_X9_copyFrom.2.1 148 = .ok (.aload_n 1, 1) := by decide +kernel
theorem d_X9_copyFrom_149 : decode mt_X9_copyFrom.2.1 149 = .ok (.getfield 38, 3) := by decide +kernel
theorem d_X9_copyFrom_152 : decode mt_X9_copyFrom.2.1 152 = .ok (.putfield 38, 3) := by decide +kernel
theorem d_X9_copyFrom_155 : decode mt_X9_copyFrom.2.1 155 = .ok (.aload_n 0, 1) := by decide +kernel
theorem d_X9_copyFrom_156 : decode mt_X9_copyFrom.2.1 156 = .ok (.aload_n 1, 1) := by decide +kernel
theorem d_X9_copyFrom_157 : decode mt_X9_copyFrom.2.1 157 = .ok (.getfield 51, 3) := by decide +kernel
theorem d_X9_copyFrom_160 : decode mt_X9_copyFrom.2.1 160 = .ok (.putfield 51, 3) := by decide +kernel
theorem d_X9_copyFrom_163 : decode mt_X9_copyFrom.2.1 163 = .ok (.aload_n 0, 1) := by decide +kernel
theorem d_X9_copyFrom_164 : decode mt_X9_copyFrom.2.1 164 = .ok (.aload_n 1, 1) := by decide +kernel
theorem d_X9_copyFrom_165 : decode mt_X9_copyFrom.2.1 165 = .ok (.getfield 54, 3) := by decide +kernel
theorem d_X9_copyFrom_168 : decode mt_X9_copyFrom.2.1 168 = .ok (.putfield 54, 3) := by decide +kernel
theorem d_X9_copyFrom_171 : decode mt_X9_copyFrom.2.1 171 = .ok (.aload_n 0, 1) := by decide +kernel
theorem d_X9_copyFrom_172 : decode mt_X9_copyFrom.2.1 172 = .ok (.aload_n 1, 1) := by decide +kernel
theorem d_X9_copyFrom_173 : decode mt_X9_copyFrom.2.1 173 = .ok (.getfield 57, 3) := by decide +kernel
theorem d_X9_copyFrom_176 : decode mt_X9_copyFrom.2.1 176 = .ok (.putfield 57, 3) := by decide +kernel
theorem d_X9_copyFrom_179 : decode mt_X9_copyFrom.2.1 179 = .ok (.aload_n 0, 1) := by decide +kernel
theorem d_X9_copyFrom_180 : decode mt_X9_copyFrom.2.1 180 = .ok (.aload_n 1, 1) := by decide +kernel
theorem d_X9_copyFrom_181 : decode mt_X9_copyFrom.2.1 181 = .ok (.getfield 60, 3) := by decide +kernel
theorem d_X9_copyFrom_184 : decode mt_X9_copyFrom.2.1 184 = .ok (.putfield 60, 3) := by decide +kernel
theorem d_X9_copyFrom_187 : decode mt_X9_copyFrom.2.1 187 = .ok (.return_, 1) := by decide +kernel
noncomputable def f_X9_copyFrom_b100 (k100 : (Int → Int → Int → Mem → Option (Mem))) (v0 v1 v2 : Int) (σ : Mem) : Option (Mem) :=
  if 4 ≤ v2 then
    (gf Sh σ 9 v1 11).bind fun x27 =>
    (pf Sh σ 9 v0 11 x27).bind fun σ28 =>
    (gf Sh σ28 9 v1 12).bind fun x29 =>
    (pf Sh σ28 9 v0 12 x29).bind fun σ30 =>
    (gf Sh σ30 9 v1 13).bind fun x31 =>
    (pf Sh σ30 9 v0 13 x31).bind fun σ32 =>
    (gf Sh σ32 9 v1 14).bind fun x33 =>
    (pf Sh σ32 9 v0 14 x33).bind fun σ34 =>
    (gf Sh σ34 9 v1 15).bind fun x35 =>
    (pf Sh σ34 9 v0 15 x35).bind fun σ36 =>
    some σ36
  else
    (gf Sh σ 9 v0 8).bind fun x37 =>
    (gf Sh σ 9 v1 8).bind fun x38 =>
    (al Sh σ 20 x38 v2).bind fun x39 =>
    (st_ Sh σ 20 x37 v2 x39).bind fun σ40 =>
    (gf Sh σ40 9 v0 9).bind fun x41 =>
    (gf Sh σ40 9 v1 9).bind fun x42 =>
    (al Sh σ40 23 x42 v2).bind fun x43 =>
    (st_ Sh σ40 23 x41 v2 (b1 x43)).bind fun σ44 =>
    (gf Sh σ44 9 v0 10).bind fun x45 =>
    (gf Sh σ44 9 v1 10).bind fun x46 =>
    (al Sh σ44 21 x46 v2).bind fun x47 =>
    (st_ Sh σ44 21 x45 v2 x47).bind fun σ48 =>
    k100 v0 v1 (w32 (v2 + 1)) σ48
theorem L_X9_copyFrom_b100 {sc : Nat × (Nat → Int32)} {o : Mem} {k100 : (Int → Int → Int → Mem → Option (Mem))} (hk100 : ∀ {v0 v1 v2 : Int} {σ : Mem}, k100 v0 v1 v2 σ = some o → E sc (Fm Sh none Sh o) mt_X9_copyFrom 1 Sh Sh 100 [(2, v0), (2, v1), (0, v2)] [] Sh σ) {v0 v1 v2 : Int} {σ : Mem} (h : f_X9_copyFrom_b100 k100 v0 v1 v2 σ = some o) : E sc (Fm Sh none Sh o) mt_X9_copyFrom 1 Sh Sh 100 [(2, v0), (2, v1), (0, v2)] [] Sh σ := by
  unfold f_X9_copyFrom_b100 at h
  refine E_iload_n d_X9_copyFrom_100 rfl ?_
  refine E_iconst d_X9_copyFrom_101 (c32 rfl) ?_
  refine E_icmp_ge (tgt := 147) d_X9_copyFrom_102 (by decide) h (fun _ h => ?_) (fun _ h => ?_)
  · refine E_aload_n d_X9_copyFrom_147 rfl (by decide) ?_
    refine E_aload_n d_X9_copyFrom_148 rfl (by decide) ?_
    refine E_get d_X9_copyFrom_149 okX9 fl_X9_38 ⟨by decide, rfl⟩ h (fun x27 h => ?_)
    refine E_put d_X9_copyFrom_152 okX9 fl_X9_38 ⟨by decide, rfl⟩ (Or.inl ⟨rfl, rfl⟩) (Or.inl rfl) h (fun σ28 h => ?_)
    refine E_aload_n d_X9_copyFrom_155 rfl (by decide) ?_
    refine E_aload_n d_X9_copyFrom_156 rfl (by decide) ?_
    refine E_get d_X9_copyFrom_157 okX9 fl_X9_51 ⟨by decide, rfl⟩ h (fun x29 h => ?_)
    refine E_put d_X9_copyFrom_160 okX9 fl_X9_51 ⟨by decide, rfl⟩ (Or.inl ⟨rfl, rfl⟩) (Or.inl rfl) h (fun σ30 h => ?_)
    refine E_aload_n d_X9_copyFrom_163 rfl (by decide) ?_
    refine E_aload_n d_X9_copyFrom_164 rfl (by decide) ?_
    refine E_get d_X9_copyFrom_165 okX9 fl_X9_54 ⟨by decide, rfl⟩ h (fun x31 h => ?_)
    refine E_put d_X9_copyFrom_168 okX9 fl_X9_54 ⟨by decide, rfl⟩ (Or.inl ⟨rfl, rfl⟩) (Or.inl rfl) h (fun σ32 h => ?_)
    refine E_aload_n d_X9_copyFrom_171 rfl (by decide) ?_
    refine E_aload_n d_X9_copyFrom_172 rfl (by decide) ?_
    refine E_get d_X9_copyFrom_173 okX9 fl_X9_57 ⟨by decide, rfl⟩ h (fun x33 h => ?_)
    refine E_put d_X9_copyFrom_176 okX9 fl_X9_57 ⟨by decide, rfl⟩ (Or.inl ⟨rfl, rfl⟩) (Or.inl rfl) h (fun σ34 h => ?_)
    refine E_aload_n d_X9_copyFrom_179 rfl (by decide) ?_
    refine E_aload_n d_X9_copyFrom_180 rfl (by decide) ?_
    refine E_get d_X9_copyFrom_181 okX9 fl_X9_60 ⟨by decide, rfl⟩ h (fun x35 h => ?_)
    refine E_put d_X9_copyFrom_184 okX9 fl_X9_60 ⟨by decide, rfl⟩ (Or.inl ⟨rfl, rfl⟩) (Or.inl rfl) h (fun σ36 h => ?_)
    cases h
    exact E_vret d_X9_copyFrom_187 rfl
  · refine E_aload_n d_X9_copyFrom_105 rfl (by decide) ?_
    refine E_get d_X9_copyFrom_106 okX9 fl_X9_28 ⟨by decide, rfl⟩ h (fun x37 h => ?_)
    refine E_iload_n d_X9_copyFrom_109 rfl ?_
    refine E_aload_n d_X9_copyFrom_110 rfl (by decide) ?_
    refine E_get d_X9_copyFrom_111 okX9 fl_X9_28 ⟨by decide, rfl⟩ h (fun x38 h => ?_)
    refine E_iload_n d_X9_copyFrom_114 rfl ?_
    refine E_iaload d_X9_copyFrom_115 h (fun x39 h => ?_)
    refine E_iastore d_X9_copyFrom_116 h (fun σ40 h => ?_)
    refine E_aload_n d_X9_copyFrom_117 rfl (by decide) ?_
    refine E_get d_X9_copyFrom_118 okX9 fl_X9_31 ⟨by decide, rfl⟩ h (fun x41 h => ?_)
    refine E_iload_n d_X9_copyFrom_121 rfl ?_
    refine E_aload_n d_X9_copyFrom_122 rfl (by decide) ?_
    refine E_get d_X9_copyFrom_123 okX9 fl_X9_31 ⟨by decide, rfl⟩ h (fun x42 h => ?_)
    refine E_iload_n d_X9_copyFrom_126 rfl ?_
    refine E_baload d_X9_copyFrom_127 (by decide : 23 = 22 ∨ 23 = 23) h (fun x43 h => ?_)
    refine E_zastore d_X9_copyFrom_128 h (fun σ44 h => ?_)
    refine E_aload_n d_X9_copyFrom_129 rfl (by decide) ?_
    refine E_get d_X9_copyFrom_130 okX9 fl_X9_35 ⟨by decide, rfl⟩ h (fun x45 h => ?_)
    refine E_iload_n d_X9_copyFrom_133 rfl ?_
    refine E_aload_n d_X9_copyFrom_134 rfl (by decide) ?_
    refine E_get d_X9_copyFrom_135 okX9 fl_X9_35 ⟨by decide, rfl⟩ h (fun x46 h => ?_)
    refine E_iload_n d_X9_copyFrom_138 rfl ?_
    refine E_laload d_X9_copyFrom_139 h (fun x47 h => ?_)
    refine E_lastore d_X9_copyFrom_140 h (fun σ48 h => ?_)
    refine E_iinc d_X9_copyFrom_141 (ls' := [(2, v0), (2, v1), (0, w32 (v2 + 1))]) rfl ⟨by decide, rfl⟩ ?_
    refine E_goto (tgt := 100) d_X9_copyFrom_144 (by decide) ?_
    exact (hk100 h)
noncomputable def f_X9_copyFrom_h100 (n : Nat) : Int → Int → Int → Mem → Option (Mem) := Nat.rec (motive := fun _ => Int → Int → Int → Mem → Option (Mem)) (fun _ _ _ _ => none) (fun _ ih => f_X9_copyFrom_b100 (ih)) n
theorem L_X9_copyFrom_h100 {sc : Nat × (Nat → Int32)} {o : Mem} : ∀ (n : Nat) {v0 v1 v2 : Int} {σ : Mem}, f_X9_copyFrom_h100 n v0 v1 v2 σ = some o → E sc (Fm Sh none Sh o) mt_X9_copyFrom 1 Sh Sh 100 [(2, v0), (2, v1), (0, v2)] [] Sh σ := by
  intro n
  induction n with
  | zero => intro v0 v1 v2 σ h; cases h
  | succ n ih => intro v0 v1 v2 σ h; exact L_X9_copyFrom_b100 (@ih) h
noncomputable def f_X9_copyFrom_b18 (k18 : (Int → Int → Int → Mem → Option (Mem))) (v0 v1 v2 : Int) (σ : Mem) : Option (Mem) :=
  if 10 ≤ v2 then
    (gf Sh σ 9 v1 7).bind fun x5 =>
    (pf Sh σ 9 v0 7 x5).bind fun σ6 =>
    f_X9_copyFrom_h100 FU v0 v1 0 σ6
  else
    (gf Sh σ 9 v0 2).bind fun x7 =>
    (gf Sh σ 9 v1 2).bind fun x8 =>
    (al Sh σ 20 x8 v2).bind fun x9 =>
    (st_ Sh σ 20 x7 v2 x9).bind fun σ10 =>
    (gf Sh σ10 9 v0 3).bind fun x11 =>
    (gf Sh σ10 9 v1 3).bind fun x12 =>
    (al Sh σ10 20 x12 v2).bind fun x13 =>
    (st_ Sh σ10 20 x11 v2 x13).bind fun σ14 =>
    (gf Sh σ14 9 v0 4).bind fun x15 =>
    (gf Sh σ14 9 v1 4).bind fun x16 =>
    (al Sh σ14 20 x16 v2).bind fun x17 =>
    (st_ Sh σ14 20 x15 v2 x17).bind fun σ18 =>
    (gf Sh σ18 9 v0 5).bind fun x19 =>
    (gf Sh σ18 9 v1 5).bind fun x20 =>
    (al Sh σ18 20 x20 v2).bind fun x21 =>
    (st_ Sh σ18 20 x19 v2 x21).bind fun σ22 =>
    (gf Sh σ22 9 v0 6).bind fun x23 =>
    (gf Sh σ22 9 v1 6).bind fun x24 =>
    (al Sh σ22 21 x24 v2).bind fun x25 =>
    (st_ Sh σ22 21 x23 v2 x25).bind fun σ26 =>
    k18 v0 v1 (w32 (v2 + 1)) σ26
theorem L_X9_copyFrom_b18 {sc : Nat × (Nat → Int32)} {o : Mem} {k18 : (Int → Int → Int → Mem → Option (Mem))} (hk18 : ∀ {v0 v1 v2 : Int} {σ : Mem}, k18 v0 v1 v2 σ = some o → E sc (Fm Sh none Sh o) mt_X9_copyFrom 1 Sh Sh 18 [(2, v0), (2, v1), (0, v2)] [] Sh σ) {v0 v1 v2 : Int} {σ : Mem} (h : f_X9_copyFrom_b18 k18 v0 v1 v2 σ = some o) : E sc (Fm Sh none Sh o) mt_X9_copyFrom 1 Sh Sh 18 [(2, v0), (2, v1), (0, v2)] [] Sh σ := by
  unfold f_X9_copyFrom_b18 at h
  refine E_iload_n d_X9_copyFrom_18 rfl ?_
  refine E_bipush d_X9_copyFrom_19 (c8 rfl) ?_
  refine E_icmp_ge (tgt := 90) d_X9_copyFrom_21 (by decide) h (fun _ h => ?_) (fun _ h => ?_)
  · refine E_aload_n d_X9_copyFrom_90 rfl (by decide) ?_
    refine E_aload_n d_X9_copyFrom_91 rfl (by decide) ?_
    refine E_get d_X9_copyFrom_92 okX9 fl_X9_48 ⟨by decide, rfl⟩ h (fun x5 h => ?_)
    refine E_put d_X9_copyFrom_95 okX9 fl_X9_48 ⟨by decide, rfl⟩ (Or.inl ⟨rfl, rfl⟩) (Or.inl rfl) h (fun σ6 h => ?_)
    refine E_iconst d_X9_copyFrom_98 (c32 rfl) ?_
    refine E_istore_n d_X9_copyFrom_99 (ls' := [(2, v0), (2, v1), (0, 0)]) ⟨by decide, rfl⟩ ?_
    exact (L_X9_copyFrom_h100 FU h)
  · refine E_aload_n d_X9_copyFrom_24 rfl (by decide) ?_
    refine E_get d_X9_copyFrom_25 okX9 fl_X9_9 ⟨by decide, rfl⟩ h (fun x7 h => ?_)
    refine E_iload_n d_X9_copyFrom_28 rfl ?_
    refine E_aload_n d_X9_copyFrom_29 rfl (by decide) ?_
    refine E_get d_X9_copyFrom_30 okX9 fl_X9_9 ⟨by decide, rfl⟩ h (fun x8 h => ?_)
    refine E_iload_n d_X9_copyFrom_33 rfl ?_
    refine E_iaload d_X9_copyFrom_34 h (fun x9 h => ?_)
    refine E_iastore d_X9_copyFrom_35 h (fun σ10 h => ?_)
    refine E_aload_n d_X9_copyFrom_36 rfl (by decide) ?_
    refine E_get d_X9_copyFrom_37 okX9 fl_X9_15 ⟨by decide, rfl⟩ h (fun x11 h => ?_)
    refine E_iload_n d_X9_copyFrom_40 rfl ?_
    refine E_aload_n d_X9_copyFrom_41 rfl (by decide) ?_
    refine E_get d_X9_copyFrom_42 okX9 fl_X9_15 ⟨by decide, rfl⟩ h (fun x12 h => ?_)
    refine E_iload_n d_X9_copyFrom_45 rfl ?_
    refine E_iaload d_X9_copyFrom_46 h (fun x13 h => ?_)
    refine E_iastore d_X9_copyFrom_47 h (fun σ14 h => ?_)
    refine E_aload_n d_X9_copyFrom_48 rfl (by decide) ?_
    refine E_get d_X9_copyFrom_49 okX9 fl_X9_18 ⟨by decide, rfl⟩ h (fun x15 h => ?_)
    refine E_iload_n d_X9_copyFrom_52 rfl ?_
    refine E_aload_n d_X9_copyFrom_53 rfl (by decide) ?_
    refine E_get d_X9_copyFrom_54 okX9 fl_X9_18 ⟨by decide, rfl⟩ h (fun x16 h => ?_)
    refine E_iload_n d_X9_copyFrom_57 rfl ?_
    refine E_iaload d_X9_copyFrom_58 h (fun x17 h => ?_)
    refine E_iastore d_X9_copyFrom_59 h (fun σ18 h => ?_)
    refine E_aload_n d_X9_copyFrom_60 rfl (by decide) ?_
    refine E_get d_X9_copyFrom_61 okX9 fl_X9_21 ⟨by decide, rfl⟩ h (fun x19 h => ?_)
    refine E_iload_n d_X9_copyFrom_64 rfl ?_
    refine E_aload_n d_X9_copyFrom_65 rfl (by decide) ?_
    refine E_get d_X9_copyFrom_66 okX9 fl_X9_21 ⟨by decide, rfl⟩ h (fun x20 h => ?_)
    refine E_iload_n d_X9_copyFrom_69 rfl ?_
    refine E_iaload d_X9_copyFrom_70 h (fun x21 h => ?_)
    refine E_iastore d_X9_copyFrom_71 h (fun σ22 h => ?_)
    refine E_aload_n d_X9_copyFrom_72 rfl (by decide) ?_
    refine E_get d_X9_copyFrom_73 okX9 fl_X9_24 ⟨by decide, rfl⟩ h (fun x23 h => ?_)
    refine E_iload_n d_X9_copyFrom_76 rfl ?_
    refine E_aload_n d_X9_copyFrom_77 rfl (by decide) ?_
    refine E_get d_X9_copyFrom_78 okX9 fl_X9_24 ⟨by decide, rfl⟩ h (fun x24 h => ?_)
    refine E_iload_n d_X9_copyFrom_81 rfl ?_
    refine E_laload d_X9_copyFrom_82 h (fun x25 h => ?_)
    refine E_lastore d_X9_copyFrom_83 h (fun σ26 h => ?_)
    refine E_iinc d_X9_copyFrom_84 (ls' := [(2, v0), (2, v1), (0, w32 (v2 + 1))]) rfl ⟨by decide, rfl⟩ ?_
    refine E_goto (tgt := 18) d_X9_copyFrom_87 (by decide) ?_
    exact (hk18 h)
noncomputable def f_X9_copyFrom_h18 (n : Nat) : Int → Int → Int → Mem → Option (Mem) := Nat.rec (motive := fun _ => Int → Int → Int → Mem → Option (Mem)) (fun _ _ _ _ => none) (fun _ ih => f_X9_copyFrom_b18 (ih)) n
theorem L_X9_copyFrom_h18 {sc : Nat × (Nat → Int32)} {o : Mem} : ∀ (n : Nat) {v0 v1 v2 : Int} {σ : Mem}, f_X9_copyFrom_h18 n v0 v1 v2 σ = some o → E sc (Fm Sh none Sh o) mt_X9_copyFrom 1 Sh Sh 18 [(2, v0), (2, v1), (0, v2)] [] Sh σ := by
  intro n
  induction n with
  | zero => intro v0 v1 v2 σ h; cases h
  | succ n ih => intro v0 v1 v2 σ h; exact L_X9_copyFrom_b18 (@ih) h
noncomputable def f_X9_copyFrom_b0 (v0 v1 : Int) (σ : Mem) : Option (Mem) :=
  (gf Sh σ 9 v1 0).bind fun x1 =>
  (pf Sh σ 9 v0 0 x1).bind fun σ2 =>
  (gf Sh σ2 9 v1 1).bind fun x3 =>
  (pf Sh σ2 9 v0 1 x3).bind fun σ4 =>
  f_X9_copyFrom_h18 FU v0 v1 0 σ4
theorem L_X9_copyFrom_b0 {sc : Nat × (Nat → Int32)} {o : Mem} {v0 v1 : Int} {σ : Mem} (h : f_X9_copyFrom_b0 v0 v1 σ = some o) : E sc (Fm Sh none Sh o) mt_X9_copyFrom 1 Sh Sh 0 [(2, v0), (2, v1), (9, 0)] [] Sh σ := by
  unfold f_X9_copyFrom_b0 at h
  refine E_aload_n d_X9_copyFrom_0 rfl (by decide) ?_
  refine E_aload_n d_X9_copyFrom_1 rfl (by decide) ?_
  refine E_get d_X9_copyFrom_2 okX9 fl_X9_42 ⟨by decide, rfl⟩ h (fun x1 h => ?_)
  refine E_put d_X9_copyFrom_5 okX9 fl_X9_42 ⟨by decide, rfl⟩ (Or.inl ⟨rfl, rfl⟩) (Or.inl rfl) h (fun σ2 h => ?_)
  refine E_aload_n d_X9_copyFrom_8 rfl (by decide) ?_
  refine E_aload_n d_X9_copyFrom_9 rfl (by decide) ?_
  refine E_get d_X9_copyFrom_10 okX9 fl_X9_45 ⟨by decide, rfl⟩ h (fun x3 h => ?_)
  refine E_put d_X9_copyFrom_13 okX9 fl_X9_45 ⟨by decide, rfl⟩ (Or.inl ⟨rfl, rfl⟩) (Or.inl rfl) h (fun σ4 h => ?_)
  refine E_iconst d_X9_copyFrom_16 (c32 rfl) ?_
  refine E_istore_n d_X9_copyFrom_17 (ls' := [(2, v0), (2, v1), (0, 0)]) ⟨by decide, rfl⟩ ?_
  exact (L_X9_copyFrom_h18 FU h)
noncomputable def f_X9_copyFrom (v0 v1 : Int) (σ : Mem) : Option (Mem) := if isO Sh 9 v0 = true then f_X9_copyFrom_b0 v0 v1 σ else none
theorem L_X9_copyFrom {o : Mem} {v0 v1 : Int} {σ : Mem} (h : f_X9_copyFrom v0 v1 σ = some o) : (isO Sh 9 v0 = true ∧ Cn mt_X9_copyFrom 1 [(2, v0), (2, v1)] Sh σ none Sh o) := ⟨(ite_ok h).1, Cn_of mk_X9_copyFrom.1.2.2.1 (Nat.le_of_ble_eq_true rfl) (fun sc => L_X9_copyFrom_b0 (ite_ok h).2)⟩
theorem d_X5_forget_0 : decode mt_X5_forget.2.1 0 = .ok (.aload_n 0, 1) := by decide +kernel
theorem d_X5_forget_1 : decode mt_X5_forget.2.1 1 = .ok (.iconst 0, 1) := by decide +kernel
theorem d_X5_forget_2 : decode mt_X5_forget.2.1 2 = .ok (.putfield 27, 3) := by decide +kernel
theorem d_X5_forget_5 : decode mt_X5_forget.2.1 5 = .ok (.aload_n 0, 1) := by decide +kernel
theorem d_X5_forget_6 : decode mt_X5_forget.2.1 6 = .ok (.iconst 0, 1) := by decide +kernel
theorem d_X5_forget_7 : decode mt_X5_forget.2.1 7 = .ok (.putfield 31, 3) := by decide +kernel
theorem d_X5_forget_10 : decode mt_X5_forget.2.1 10 = .ok (.aload_n 0, 1) := by decide +kernel
theorem d_X5_forget_11 : decode mt_X5_forget.2.1 11 = .ok (.iconst 0, 1) := by decide +kernel
theorem d_X5_forget_12 : decode mt_X5_forget.2.1 12 = .ok (.putfield 35, 3) := by decide +kernel
theorem d_X5_forget_15 : decode mt_X5_forget.2.1 15 = .ok (.return_, 1) := by decide +kernel
noncomputable def f_X5_forget_b0 (v0 : Int) (σ : Mem) : Option (Mem) :=
  (pf Sh σ 5 v0 0 0).bind fun σ1 =>
  (pf Sh σ1 5 v0 1 0).bind fun σ2 =>
  (pf Sh σ2 5 v0 2 0).bind fun σ3 =>
  some σ3
theorem L_X5_forget_b0 {sc : Nat × (Nat → Int32)} {o : Mem} {v0 : Int} {σ : Mem} (h : f_X5_forget_b0 v0 σ = some o) : E sc (Fm Sh none Sh o) mt_X5_forget 1 Sh Sh 0 [(2, v0)] [] Sh σ := by
  unfold f_X5_forget_b0 at h
  refine E_aload_n d_X5_forget_0 rfl (by decide) ?_
  refine E_iconst d_X5_forget_1 (c32 rfl) ?_
  refine E_put d_X5_forget_2 okX5 fl_X5_27 ⟨by decide, rfl⟩ (Or.inr (Or.inr (Or.inl ⟨rfl, rfl, (Or.inl rfl)⟩))) (Or.inl rfl) h (fun σ1 h => ?_)
  refine E_aload_n d_X5_forget_5 rfl (by decide) ?_
  refine E_iconst d_X5_forget_6 (c32 rfl) ?_
  refine E_put d_X5_forget_7 okX5 fl_X5_31 ⟨by decide, rfl⟩ (Or.inl ⟨rfl, rfl⟩) (Or.inl rfl) h (fun σ2 h => ?_)
  refine E_aload_n d_X5_forget_10 rfl (by decide) ?_
  refine E_iconst d_X5_forget_11 (c32 rfl) ?_
  refine E_put d_X5_forget_12 okX5 fl_X5_35 ⟨by decide, rfl⟩ (Or.inl ⟨rfl, rfl⟩) (Or.inl rfl) h (fun σ3 h => ?_)
  cases h
  exact E_vret d_X5_forget_15 rfl
noncomputable def f_X5_forget (v0 : Int) (σ : Mem) : Option (Mem) := if isO Sh 5 v0 = true then f_X5_forget_b0 v0 σ else none
theorem L_X5_forget {o : Mem} {v0 : Int} {σ : Mem} (h : f_X5_forget v0 σ = some o) : (isO Sh 5 v0 = true ∧ Cn mt_X5_forget 1 [(2, v0)] Sh σ none Sh o) := ⟨(ite_ok h).1, Cn_of mk_X5_forget.1.2.2.1 (Nat.le_of_ble_eq_true rfl) (fun sc => L_X5_forget_b0 (ite_ok h).2)⟩
theorem d_X5_add_0 : decode mt_X5_add.2.1 0 = .ok (.aload_n 0, 1) := by decide +kernel
theorem d_X5_add_1 : decode mt_X5_add.2.1 1 = .ok (.getfield 35, 3) := by decide +kernel
theorem d_X5_add_4 : decode mt_X5_add.2.1 4 = .ok (.bipush 60, 2) := by decide +kernel
theorem d_X5_add_6 : decode mt_X5_add.2.1 6 = .ok (.if_icmp .lt 4, 3) := by decide +kernel
theorem d_X5_add_9 : decode mt_X5_add.2.1 9 = .ok (.return_, 1) := by decide +kernel
theorem d_X5_add_10 : decode mt_X5_add.2.1 10 = .ok (.aload_n 0, 1) := by decide +kernel
theorem d_X5_add_11 : decode mt_X5_add.2.1 11 = .ok (.getfield 9, 3) := by decide +kernel
theorem d_X5_add_14 : decode mt_X5_add.2.1 14 = .ok (.aload_n 0, 1) := by decide +kernel
theorem d_X5_add_15 : decode mt_X5_add.2.1 15 = .ok (.getfield 35, 3) := by decide +kernel
theorem d_X5_add_18 : decode mt_X5_add.2.1 18 = .ok (.iload_n 1, 1) := by decide +kernel
theorem d_X5_add_19 : decode mt_X5_add.2.1 19 = .ok (.iastore, 1) := by decide +kernel
theorem d_X5_add_20 : decode mt_X5_add.2.1 20 = .ok (.aload_n 0, 1) := by decide +kernel
theorem d_X5_add_21 : decode mt_X5_add.2.1 21 = .ok (.getfield 15, 3) := by decide +kernel
theorem d_X5_add_24 : decode mt_X5_add.2.1 24 = .ok (.aload_n 0, 1) := by decide +kernel
theorem d_X5_add_25 : decode mt_X5_add.2.1 25 = .ok (.getfield 35, 3) := by decide +kernel
theorem d_X5_add_28 : decode mt_X5_add.2.1 28 = .ok (.iload_n 2, 1) := by decide +kernel
theorem d_X5_add_29 : decode mt_X5_add.2.1 29 = .ok (.iastore, 1) := by decide +kernel
theorem d_X5_add_30 : decode mt_X5_add.2.1 30 = .ok (.aload_n 0, 1) := by decide +kernel
theorem d_X5_add_31 : decode mt_X5_add.2.1 31 = .ok (.getfield 18, 3) := by decide +kernel
theorem d_X5_add_34 : decode mt_X5_add.2.1 34 = .ok (.aload_n 0, 1) := by decide +kernel
theorem d_X5_add_35 : decode mt_X5_add.2.1 35 = .ok (.getfield 35, 3) := by decide +kernel
theorem d_X5_add_38 : decode mt_X5_add.2.1 38 = .ok (.iload_n 3, 1) := by decide +kernel
theorem d_X5_add_39 : decode mt_X5_add.2.1 39 = .ok (.iastore, 1) := by decide +kernel
theorem d_X5_add_40 : decode mt_X5_add.2.1 40 = .ok (.aload_n 0, 1) := by decide +kernel
theorem d_X5_add_41 : decode mt_X5_add.2.1 41 = .ok (.getfield 21, 3) := by decide +kernel
theorem d_X5_add_44 : decode mt_X5_add.2.1 44 = .ok (.aload_n 0, 1) := by decide +kernel
theorem d_X5_add_45 : decode mt_X5_add.2.1 45 = .ok (.getfield 35, 3) := by decide +kernel
theorem d_X5_add_48 : decode mt_X5_add.2.1 48 = .ok (.iload 4, 2) := by decide +kernel
theorem d_X5_add_50 : decode mt_X5_add.2.1 50 = .ok (.iastore, 1) := by decide +kernel
theorem d_X5_add_51 : decode mt_X5_add.2.1 51 = .ok (.aload_n 0, 1) := by decide +kernel
theorem d_X5_add_52 : decode mt_X5_add.2.1 52 = .ok (.getfield 24, 3) := by decide +kernel
theorem d_X5_add_55 : decode mt_X5_add.2.1 55 = .ok (.aload_n 0, 1) := by decide +kernel
theorem d_X5_add_56 : decode mt_X5_add.2.1 56 = .ok (.getfield 35, 3) := by decide +kernel
theorem d_X5_add_59 : decode mt_X5_add.2.1 59 = .ok (.iconst (-1), 1) := by decide +kernel
theorem d_X5_add_60 : decode mt_X5_add.2.1 60 = .ok (.iastore, 1) := by decide +kernel
theorem d_X5_add_61 : decode mt_X5_add.2.1 61 = .ok (.aload_n 0, 1) := by decide +kernel
theorem d_X5_add_62 : decode mt_X5_add.2.1 62 = .ok (.dup, 1) := by decide +kernel
theorem d_X5_add_63 : decode mt_X5_add.2.1 63 = .ok (.getfield 35, 3) := by decide +kernel
theorem d_X5_add_66 : decode mt_X5_add.2.1 66 = .ok (.iconst 1, 1) := by decide +kernel
theorem d_X5_add_67 : decode mt_X5_add.2.1 67 = .ok (.iadd, 1) := by decide +kernel
theorem d_X5_add_68 : decode mt_X5_add.2.1 68 = .ok (.putfield 35, 3) := by decide +kernel
theorem d_X5_add_71 : decode mt_X5_add.2.1 71 = .ok (.iload_n 1, 1) := by decide +kernel
theorem d_X5_add_72 : decode mt_X5_add.2.1 72 = .ok (.bipush 21, 2) := by decide +kernel
theorem d_X5_add_74 : decode mt_X5_add.2.1 74 = .ok (.if_icmp .eq 13, 3) := by decide +kernel
theorem d_X5_add_77 : decode mt_X5_add.2.1 77 = .ok (.aload_n 0, 1) := by decide +kernel
theorem d_X5_add_78 : decode mt_X5_add.2.1 78 = .ok (.dup, 1) := by decide +kernel
theorem d_X5_add_79 : decode mt_X5_add.2.1 79 = .ok (.getfield 31, 3) := by decide +kernel
theorem d_X5_add_82 : decode mt_X5_add.2.1 82 = .ok (.iconst 1, 1) := by decide +kernel
theorem d_X5_add_83 : decode mt_X5_add.2.1 83 = .ok (.iadd, 1) := by decide +kernel
theorem d_X5_add_84 : decode mt_X5_add.2.1 84 = .ok (.putfield 31, 3) := by decide +kernel
theorem d_X5_add_87 : decode mt_X5_add.2.1 87 = .ok (.return_, 1) := by decide +kernel
noncomputable def f_X5_add_b0 (v0 v1 v2 v3 v4 : Int) (σ : Mem) : Option (Mem) :=
  (gf Sh σ 5 v0 2).bind fun x1 =>
  if x1 < 60 then
    (gf Sh σ 5 v0 3).bind fun x2 =>
    (gf Sh σ 5 v0 2).bind fun x3 =>
    (st_ Sh σ 20 x2 x3 v1).bind fun σ4 =>
    (gf Sh σ4 5 v0 4).bind fun x5 =>
    (gf Sh σ4 5 v0 2).bind fun x6 =>
    (st_ Sh σ4 20 x5 x6 v2).bind fun σ7 =>
    (gf Sh σ7 5 v0 5).bind fun x8 =>
    (gf Sh σ7 5 v0 2).bind fun x9 =>
    (st_ Sh σ7 20 x8 x9 v3).bind fun σ10 =>
    (gf Sh σ10 5 v0 6).bind fun x11 =>
    (gf Sh σ10 5 v0 2).bind fun x12 =>
    (st_ Sh σ10 20 x11 x12 v4).bind fun σ13 =>
    (gf Sh σ13 5 v0 7).bind fun x14 =>
    (gf Sh σ13 5 v0 2).bind fun x15 =>
    (st_ Sh σ13 20 x14 x15 (-1)).bind fun σ16 =>
    (gf Sh σ16 5 v0 2).bind fun x17 =>
    (pf Sh σ16 5 v0 2 (w32 (x17 + 1))).bind fun σ18 =>
    if v1 = 21 then
      some σ18
    else
      (gf Sh σ18 5 v0 1).bind fun x19 =>
      (pf Sh σ18 5 v0 1 (w32 (x19 + 1))).bind fun σ20 =>
      some σ20
  else
    some σ
theorem L_X5_add_b0 {sc : Nat × (Nat → Int32)} {o : Mem} {v0 v1 v2 v3 v4 : Int} {σ : Mem} (h : f_X5_add_b0 v0 v1 v2 v3 v4 σ = some o) : E sc (Fm Sh none Sh o) mt_X5_add 1 Sh Sh 0 [(2, v0), (0, v1), (0, v2), (0, v3), (0, v4)] [] Sh σ := by
  unfold f_X5_add_b0 at h
  refine E_aload_n d_X5_add_0 rfl (by decide) ?_
  refine E_get d_X5_add_1 okX5 fl_X5_35 ⟨by decide, rfl⟩ h (fun x1 h => ?_)
  refine E_bipush d_X5_add_4 (c8 rfl) ?_
  refine E_icmp_lt (tgt := 10) d_X5_add_6 (by decide) h (fun _ h => ?_) (fun _ h => ?_)
  · refine E_aload_n d_X5_add_10 rfl (by decide) ?_
    refine E_get d_X5_add_11 okX5 fl_X5_9 ⟨by decide, rfl⟩ h (fun x2 h => ?_)
    refine E_aload_n d_X5_add_14 rfl (by decide) ?_
    refine E_get d_X5_add_15 okX5 fl_X5_35 ⟨by decide, rfl⟩ h (fun x3 h => ?_)
    refine E_iload_n d_X5_add_18 rfl ?_
    refine E_iastore d_X5_add_19 h (fun σ4 h => ?_)
    refine E_aload_n d_X5_add_20 rfl (by decide) ?_
    refine E_get d_X5_add_21 okX5 fl_X5_15 ⟨by decide, rfl⟩ h (fun x5 h => ?_)
    refine E_aload_n d_X5_add_24 rfl (by decide) ?_
    refine E_get d_X5_add_25 okX5 fl_X5_35 ⟨by decide, rfl⟩ h (fun x6 h => ?_)
    refine E_iload_n d_X5_add_28 rfl ?_
    refine E_iastore d_X5_add_29 h (fun σ7 h => ?_)
    refine E_aload_n d_X5_add_30 rfl (by decide) ?_
    refine E_get d_X5_add_31 okX5 fl_X5_18 ⟨by decide, rfl⟩ h (fun x8 h => ?_)
    refine E_aload_n d_X5_add_34 rfl (by decide) ?_
    refine E_get d_X5_add_35 okX5 fl_X5_35 ⟨by decide, rfl⟩ h (fun x9 h => ?_)
    refine E_iload_n d_X5_add_38 rfl ?_
    refine E_iastore d_X5_add_39 h (fun σ10 h => ?_)
    refine E_aload_n d_X5_add_40 rfl (by decide) ?_
    refine E_get d_X5_add_41 okX5 fl_X5_21 ⟨by decide, rfl⟩ h (fun x11 h => ?_)
    refine E_aload_n d_X5_add_44 rfl (by decide) ?_
    refine E_get d_X5_add_45 okX5 fl_X5_35 ⟨by decide, rfl⟩ h (fun x12 h => ?_)
    refine E_iload d_X5_add_48 rfl ?_
    refine E_iastore d_X5_add_50 h (fun σ13 h => ?_)
    refine E_aload_n d_X5_add_51 rfl (by decide) ?_
    refine E_get d_X5_add_52 okX5 fl_X5_24 ⟨by decide, rfl⟩ h (fun x14 h => ?_)
    refine E_aload_n d_X5_add_55 rfl (by decide) ?_
    refine E_get d_X5_add_56 okX5 fl_X5_35 ⟨by decide, rfl⟩ h (fun x15 h => ?_)
    refine E_iconst d_X5_add_59 (c32 rfl) ?_
    refine E_iastore d_X5_add_60 h (fun σ16 h => ?_)
    refine E_aload_n d_X5_add_61 rfl (by decide) ?_
    refine E_dupT d_X5_add_62 (by decide) ?_
    refine E_get d_X5_add_63 okX5 fl_X5_35 ⟨by decide, rfl⟩ h (fun x17 h => ?_)
    refine E_iconst d_X5_add_66 (c32 rfl) ?_
    refine E_iadd d_X5_add_67 ?_
    refine E_put d_X5_add_68 okX5 fl_X5_35 ⟨by decide, rfl⟩ (Or.inl ⟨rfl, rfl⟩) (Or.inl rfl) h (fun σ18 h => ?_)
    refine E_iload_n d_X5_add_71 rfl ?_
    refine E_bipush d_X5_add_72 (c8 rfl) ?_
    refine E_icmp_eq (tgt := 87) d_X5_add_74 (by decide) h (fun _ h => ?_) (fun _ h => ?_)
    · cases h
      exact E_vret d_X5_add_87 rfl
    · refine E_aload_n d_X5_add_77 rfl (by decide) ?_
      refine E_dupT d_X5_add_78 (by decide) ?_
      refine E_get d_X5_add_79 okX5 fl_X5_31 ⟨by decide, rfl⟩ h (fun x19 h => ?_)
      refine E_iconst d_X5_add_82 (c32 rfl) ?_
      refine E_iadd d_X5_add_83 ?_
      refine E_put d_X5_add_84 okX5 fl_X5_31 ⟨by decide, rfl⟩ (Or.inl ⟨rfl, rfl⟩) (Or.inl rfl) h (fun σ20 h => ?_)
      cases h
      exact E_vret d_X5_add_87 rfl
  · cases h
    exact E_vret d_X5_add_9 rfl
noncomputable def f_X5_add (v0 v1 v2 v3 v4 : Int) (σ : Mem) : Option (Mem) := if isO Sh 5 v0 = true then f_X5_add_b0 v0 v1 v2 v3 v4 σ else none
theorem L_X5_add {o : Mem} {v0 v1 v2 v3 v4 : Int} {σ : Mem} (h : f_X5_add v0 v1 v2 v3 v4 σ = some o) : (isO Sh 5 v0 = true ∧ Cn mt_X5_add 1 [(2, v0), (0, v1), (0, v2), (0, v3), (0, v4)] Sh σ none Sh o) := ⟨(ite_ok h).1, Cn_of mk_X5_add.1.2.2.1 (Nat.le_of_ble_eq_true rfl) (fun sc => L_X5_add_b0 (ite_ok h).2)⟩
theorem d_X5_close_0 : decode mt_X5_close.2.1 0 = .ok (.aload_n 0, 1) := by decide +kernel
theorem d_X5_close_1 : decode mt_X5_close.2.1 1 = .ok (.bipush 21, 2) := by decide +kernel
theorem d_X5_close_3 : decode mt_X5_close.2.1 3 = .ok (.iconst 0, 1) := by decide +kernel
theorem d_X5_close_4 : decode mt_X5_close.2.1 4 = .ok (.iconst 0, 1) := by decide +kernel
theorem d_X5_close_5 : decode mt_X5_close.2.1 5 = .ok (.iconst 0, 1) := by decide +kernel
theorem d_X5_close_6 : decode mt_X5_close.2.1 6 = .ok (.invokevirtual 38, 3) := by decide +kernel
theorem d_X5_close_9 : decode mt_X5_close.2.1 9 = .ok (.aload_n 0, 1) := by decide +kernel
theorem d_X5_close_10 : decode mt_X5_close.2.1 10 = .ok (.getfield 24, 3) := by decide +kernel
theorem d_X5_close_13 : decode mt_X5_close.2.1 13 = .ok (.aload_n 0, 1) := by decide +kernel
theorem d_X5_close_14 : decode mt_X5_close.2.1 14 = .ok (.getfield 35, 3) := by decide +kernel
theorem d_X5_close_17 : decode mt_X5_close.2.1 17 = .ok (.iconst 1, 1) := by decide +kernel
theorem d_X5_close_18 : decode mt_X5_close.2.1 18 = .ok (.isub, 1) := by decide +kernel
theorem d_X5_close_19 : decode mt_X5_close.2.1 19 = .ok (.iload_n 1, 1) := by decide +kernel
theorem d_X5_close_20 : decode mt_X5_close.2.1 20 = .ok (.iastore, 1) := by decide +kernel
theorem d_X5_close_21 : decode mt_X5_close.2.1 21 = .ok (.aload_n 0, 1) := by decide +kernel
theorem d_X5_close_22 : decode mt_X5_close.2.1 22 = .ok (.getfield 24, 3) := by decide +kernel
theorem d_X5_close_25 : decode mt_X5_close.2.1 25 = .ok (.iload_n 1, 1) := by decide +kernel
theorem d_X5_close_26 : decode mt_X5_close.2.1 26 = .ok (.aload_n 0, 1) := by decide +kernel
theorem d_X5_close_27 : decode mt_X5_close.2.1 27 = .ok (.getfield 35, 3) := by decide +kernel
theorem d_X5_close_30 : decode mt_X5_close.2.1 30 = .ok (.iastore, 1) := by decide +kernel
theorem d_X5_close_31 : decode mt_X5_close.2.1 31 = .ok (.return_, 1) := by decide +kernel
noncomputable def f_X5_close_b0 (v0 v1 : Int) (σ : Mem) : Option (Mem) :=
  (f_X5_add v0 21 0 0 0 σ).bind fun r1 =>
  (gf Sh r1 5 v0 7).bind fun x3 =>
  (gf Sh r1 5 v0 2).bind fun x4 =>
  (st_ Sh r1 20 x3 (w32 (x4 - 1)) v1).bind fun σ5 =>
  (gf Sh σ5 5 v0 7).bind fun x6 =>
  (gf Sh σ5 5 v0 2).bind fun x7 =>
  (st_ Sh σ5 20 x6 v1 x7).bind fun σ8 =>
  some σ8
theorem L_X5_close_b0 {sc : Nat × (Nat → Int32)} {o : Mem} {v0 v1 : Int} {σ : Mem} (h : f_X5_close_b0 v0 v1 σ = some o) : E sc (Fm Sh none Sh o) mt_X5_close 2 Sh Sh 0 [(2, v0), (0, v1)] [] Sh σ := by
  unfold f_X5_close_b0 at h
  refine E_aload_n d_X5_close_0 rfl (by decide) ?_
  refine E_bipush d_X5_close_1 (c8 rfl) ?_
  refine E_iconst d_X5_close_3 (c32 rfl) ?_
  refine E_iconst d_X5_close_4 (c32 rfl) ?_
  refine E_iconst d_X5_close_5 (c32 rfl) ?_
  refine bd h (fun r1 q2 h => ?_)
  refine E_cVv (as := [(0, 21), (0, 0), (0, 0), (0, 0)]) (st := []) (a := v0) d_X5_close_6 mk_X5_add nl_X5_38 (by omega) ⟨rfl, rfl, Nat.le_of_ble_eq_true rfl⟩ okX5 rfl (L_X5_add q2) ?_
  refine E_aload_n d_X5_close_9 rfl (by decide) ?_
  refine E_get d_X5_close_10 okX5 fl_X5_24 ⟨by decide, rfl⟩ h (fun x3 h => ?_)
  refine E_aload_n d_X5_close_13 rfl (by decide) ?_
  refine E_get d_X5_close_14 okX5 fl_X5_35 ⟨by decide, rfl⟩ h (fun x4 h => ?_)
  refine E_iconst d_X5_close_17 (c32 rfl) ?_
  refine E_isub d_X5_close_18 ?_
  refine E_iload_n d_X5_close_19 rfl ?_
  refine E_iastore d_X5_close_20 h (fun σ5 h => ?_)
  refine E_aload_n d_X5_close_21 rfl (by decide) ?_
  refine E_get d_X5_close_22 okX5 fl_X5_24 ⟨by decide, rfl⟩ h (fun x6 h => ?_)
  refine E_iload_n d_X5_close_25 rfl ?_
  refine E_aload_n d_X5_close_26 rfl (by decide) ?_
  refine E_get d_X5_close_27 okX5 fl_X5_35 ⟨by decide, rfl⟩ h (fun x7 h => ?_)
  refine E_iastore d_X5_close_30 h (fun σ8 h => ?_)
  cases h
  exact E_vret d_X5_close_31 rfl
noncomputable def f_X5_close (v0 v1 : Int) (σ : Mem) : Option (Mem) := if isO Sh 5 v0 = true then f_X5_close_b0 v0 v1 σ else none
theorem L_X5_close {o : Mem} {v0 v1 : Int} {σ : Mem} (h : f_X5_close v0 v1 σ = some o) : (isO Sh 5 v0 = true ∧ Cn mt_X5_close 2 [(2, v0), (0, v1)] Sh σ none Sh o) := ⟨(ite_ok h).1, Cn_of mk_X5_close.1.2.2.1 (Nat.le_of_ble_eq_true rfl) (fun sc => L_X5_close_b0 (ite_ok h).2)⟩
theorem d_X6_readEnd_0 : decode mt_X6_readEnd.2.1 0 = .ok (.aload_n 0, 1) := by decide +kernel
theorem d_X6_readEnd_1 : decode mt_X6_readEnd.2.1 1 = .ok (.getfield 30, 3) := by decide +kernel
theorem d_X6_readEnd_4 : decode mt_X6_readEnd.2.1 4 = .ok (.ifCond .gt 12, 3) := by decide +kernel
theorem d_X6_readEnd_7 : decode mt_X6_readEnd.2.1 7 = .ok (.aload_n 0, 1) := by decide +kernel
theorem d_X6_readEnd_8 : decode mt_X6_readEnd.2.1 8 = .ok (.getfield 22, 3) := by decide +kernel
theorem d_X6_readEnd_11 : decode mt_X6_readEnd.2.1 11 = .ok (.iconst 2, 1) := by decide +kernel
theorem d_X6_readEnd_12 : decode mt_X6_readEnd.2.1 12 = .ok (.invokevirtual 60, 3) := by decide +kernel
theorem d_X6_readEnd_15 : decode mt_X6_readEnd.2.1 15 = .ok (.ireturn, 1) := by decide +kernel
theorem d_X6_readEnd_16 : decode mt_X6_readEnd.2.1 16 = .ok (.aload_n 0, 1) := by decide +kernel
theorem d_X6_readEnd_17 : decode mt_X6_readEnd.2.1 17 = .ok (.dup, 1) := by decide +kernel
theorem d_X6_readEnd_18 : decode mt_X6_readEnd.2.1 18 = .ok (.getfield 30, 3) := by decide +kernel
theorem d_X6_readEnd_21 : decode mt_X6_readEnd.2.1 21 = .ok (.iconst 1, 1) := by decide +kernel
theorem d_X6_readEnd_22 : decode mt_X6_readEnd.2.1 22 = .ok (.isub, 1) := by decide +kernel
theorem d_X6_readEnd_23 : decode mt_X6_readEnd.2.1 23 = .ok (.putfield 30, 3) := by decide +kernel
theorem d_X6_readEnd_26 : decode mt_X6_readEnd.2.1 26 = .ok (.aload_n 0, 1) := by decide +kernel
theorem d_X6_readEnd_27 : decode mt_X6_readEnd.2.1 27 = .ok (.getfield 12, 3) := by decide +kernel
theorem d_X6_readEnd_30 : decode mt_X6_readEnd.2.1 30 = .ok (.aload_n 0, 1) := by decide +kernel
theorem d_X6_readEnd_31 : decode mt_X6_readEnd.2.1 31 = .ok (.getfield 18, 3) := by decide +kernel
theorem d_X6_readEnd_34 : decode mt_X6_readEnd.2.1 34 = .ok (.aload_n 0, 1) := by decide +kernel
theorem d_X6_readEnd_35 : decode mt_X6_readEnd.2.1 35 = .ok (.getfield 30, 3) := by decide +kernel
theorem d_X6_readEnd_38 : decode mt_X6_readEnd.2.1 38 = .ok (.iaload, 1) := by decide +kernel
theorem d_X6_readEnd_39 : decode mt_X6_readEnd.2.1 39 = .ok (.invokevirtual 63, 3) := by decide +kernel
theorem d_X6_readEnd_42 : decode mt_X6_readEnd.2.1 42 = .ok (.aload_n 0, 1) := by decide +kernel
theorem d_X6_readEnd_43 : decode mt_X6_readEnd.2.1 43 = .ok (.getfield 22, 3) := by decide +kernel
theorem d_X6_readEnd_46 : decode mt_X6_readEnd.2.1 46 = .ok (.invokevirtual 67, 3) := by decide +kernel
theorem d_X6_readEnd_49 : decode mt_X6_readEnd.2.1 49 = .ok (.aload_n 0, 1) := by decide +kernel
theorem d_X6_readEnd_50 : decode mt_X6_readEnd.2.1 50 = .ok (.getfield 22, 3) := by decide +kernel
theorem d_X6_readEnd_53 : decode mt_X6_readEnd.2.1 53 = .ok (.bipush 59, 2) := by decide +kernel
theorem d_X6_readEnd_55 : decode mt_X6_readEnd.2.1 55 = .ok (.invokevirtual 70, 3) := by decide +kernel
theorem d_X6_readEnd_58 : decode mt_X6_readEnd.2.1 58 = .ok (.ireturn, 1) := by decide +kernel
noncomputable def f_X6_readEnd_b0 (v0 : Int) (σ : Mem) : Option (Int × Mem) :=
  (gf Sh σ 6 v0 4).bind fun x1 =>
  if 0 < x1 then
    (gf Sh σ 6 v0 4).bind fun x2 =>
    (pf Sh σ 6 v0 4 (w32 (x2 - 1))).bind fun σ3 =>
    (gf Sh σ3 6 v0 2).bind fun x4 =>
    (gf Sh σ3 6 v0 3).bind fun x5 =>
    (gf Sh σ3 6 v0 4).bind fun x6 =>
    (al Sh σ3 20 x5 x6).bind fun x7 =>
    (f_X5_close x4 x7 σ3).bind fun r8 =>
    (gf Sh r8 6 v0 0).bind fun x10 =>
    (f_X7_step x10 r8).bind fun r11 =>
    (gf Sh r11 6 v0 0).bind fun x13 =>
    (f_X7_takeSign x13 59 r11).bind fun r14 =>
    (bz r14.1).bind fun _ =>
    some (r14.1, r14.2)
  else
    (gf Sh σ 6 v0 0).bind fun x17 =>
    (f_X7_refuse x17 2 σ).bind fun r18 =>
    (bz r18.1).bind fun _ =>
    some (r18.1, r18.2)
theorem L_X6_readEnd_b0 {sc : Nat × (Nat → Int32)} {o : Int × Mem} {v0 : Int} {σ : Mem} (h : f_X6_readEnd_b0 v0 σ = some o) : E sc (Fm Sh (some (0, o.1)) Sh o.2) mt_X6_readEnd 5 Sh Sh 0 [(2, v0)] [] Sh σ := by
  unfold f_X6_readEnd_b0 at h
  refine E_aload_n d_X6_readEnd_0 rfl (by decide) ?_
  refine E_get d_X6_readEnd_1 okX6 fl_X6_30 ⟨by decide, rfl⟩ h (fun x1 h => ?_)
  refine E_if_gt (tgt := 16) d_X6_readEnd_4 (by decide) h (fun _ h => ?_) (fun _ h => ?_)
  · refine E_aload_n d_X6_readEnd_16 rfl (by decide) ?_
    refine E_dupT d_X6_readEnd_17 (by decide) ?_
    refine E_get d_X6_readEnd_18 okX6 fl_X6_30 ⟨by decide, rfl⟩ h (fun x2 h => ?_)
    refine E_iconst d_X6_readEnd_21 (c32 rfl) ?_
    refine E_isub d_X6_readEnd_22 ?_
    refine E_put d_X6_readEnd_23 okX6 fl_X6_30 ⟨by decide, rfl⟩ (Or.inl ⟨rfl, rfl⟩) (Or.inl rfl) h (fun σ3 h => ?_)
    refine E_aload_n d_X6_readEnd_26 rfl (by decide) ?_
    refine E_get d_X6_readEnd_27 okX6 fl_X6_12 ⟨by decide, rfl⟩ h (fun x4 h => ?_)
    refine E_aload_n d_X6_readEnd_30 rfl (by decide) ?_
    refine E_get d_X6_readEnd_31 okX6 fl_X6_18 ⟨by decide, rfl⟩ h (fun x5 h => ?_)
    refine E_aload_n d_X6_readEnd_34 rfl (by decide) ?_
    refine E_get d_X6_readEnd_35 okX6 fl_X6_30 ⟨by decide, rfl⟩ h (fun x6 h => ?_)
    refine E_iaload d_X6_readEnd_38 h (fun x7 h => ?_)
    refine bd h (fun r8 q9 h => ?_)
    refine E_cVv (as := [(0, x7)]) (st := []) (a := x4) d_X6_readEnd_39 mk_X5_close nl_X6_63 (by omega) ⟨rfl, rfl, Nat.le_of_ble_eq_true rfl⟩ okX5 rfl (L_X5_close q9) ?_
    refine E_aload_n d_X6_readEnd_42 rfl (by decide) ?_
    refine E_get d_X6_readEnd_43 okX6 fl_X6_22 ⟨by decide, rfl⟩ h (fun x10 h => ?_)
    refine bd h (fun r11 q12 h => ?_)
    refine E_cVv (as := []) (st := []) (a := x10) d_X6_readEnd_46 mk_X7_step nl_X6_67 (by omega) ⟨rfl, rfl, Nat.le_of_ble_eq_true rfl⟩ okX7 rfl (L_X7_step q12) ?_
    refine E_aload_n d_X6_readEnd_49 rfl (by decide) ?_
    refine E_get d_X6_readEnd_50 okX6 fl_X6_22 ⟨by decide, rfl⟩ h (fun x13 h => ?_)
    refine E_bipush d_X6_readEnd_53 (c8 rfl) ?_
    refine bd h (fun r14 q15 h => ?_)
    refine E_cV (as := [(0, 59)]) (st := []) (a := x13) d_X6_readEnd_55 mk_X7_takeSign nl_X6_70 (by omega) ⟨rfl, rfl, Nat.le_of_ble_eq_true rfl⟩ okX7 rfl (L_X7_takeSign q15) ?_
    refine bd_bz h (fun q16 h => ?_)
    cases h
    exact E_zret d_X6_readEnd_58 rfl q16
  · refine E_aload_n d_X6_readEnd_7 rfl (by decide) ?_
    refine E_get d_X6_readEnd_8 okX6 fl_X6_22 ⟨by decide, rfl⟩ h (fun x17 h => ?_)
    refine E_iconst d_X6_readEnd_11 (c32 rfl) ?_
    refine bd h (fun r18 q19 h => ?_)
    refine E_cV (as := [(0, 2)]) (st := []) (a := x17) d_X6_readEnd_12 mk_X7_refuse nl_X6_60 (by omega) ⟨rfl, rfl, Nat.le_of_ble_eq_true rfl⟩ okX7 rfl (L_X7_refuse q19) ?_
    refine bd_bz h (fun q20 h => ?_)
    cases h
    exact E_zret d_X6_readEnd_15 rfl q20
noncomputable def f_X6_readEnd (v0 : Int) (σ : Mem) : Option (Int × Mem) := if isO Sh 6 v0 = true then f_X6_readEnd_b0 v0 σ else none
theorem L_X6_readEnd {o : Int × Mem} {v0 : Int} {σ : Mem} (h : f_X6_readEnd v0 σ = some o) : (isO Sh 6 v0 = true ∧ Cn mt_X6_readEnd 5 [(2, v0)] Sh σ (some (0, o.1)) Sh o.2) := ⟨(ite_ok h).1, Cn_of mk_X6_readEnd.1.2.2.1 (Nat.le_of_ble_eq_true rfl) (fun sc => L_X6_readEnd_b0 (ite_ok h).2)⟩
theorem d_X7_isStepWord_0 : decode mt_X7_isStepWord.2.1 0 = .ok (.aload_n 0, 1) := by decide +kernel
theorem d_X7_isStepWord_1 : decode mt_X7_isStepWord.2.1 1 = .ok (.getfield 57, 3) := by decide +kernel
theorem d_X7_isStepWord_4 : decode mt_X7_isStepWord.2.1 4 = .ok (.iconst 2, 1) := by decide +kernel
theorem d_X7_isStepWord_5 : decode mt_X7_isStepWord.2.1 5 = .ok (.if_icmp .ne 43, 3) := by decide +kernel
theorem d_X7_isStepWord_8 : decode mt_X7_isStepWord.2.1 8 = .ok (.aload_n 0, 1) := by decide +kernel
theorem d_X7_isStepWord_9 : decode mt_X7_isStepWord.2.1 9 = .ok (.getfield 86, 3) := by decide +kernel
theorem d_X7_isStepWord_12 : decode mt_X7_isStepWord.2.1 12 = .ok (.bipush 10, 2) := by decide +kernel
theorem d_X7_isStepWord_14 : decode mt_X7_isStepWord.2.1 14 = .ok (.if_icmp .lt 34, 3) := by decide +kernel
theorem d_X7_isStepWord_17 : decode mt_X7_isStepWord.2.1 17 = .ok (.aload_n 0, 1) := by decide +kernel
theorem d_X7_isStepWord_18 : decode mt_X7_isStepWord.2.1 18 = .ok (.getfield 86, 3) := by decide +kernel
theorem d_X7_isStepWord_21 : decode mt_X7_isStepWord.2.1 21 = .ok (.bipush 18, 2) := by decide +kernel
theorem d_X7_isStepWord_23 : decode mt_X7_isStepWord.2.1 23 = .ok (.if_icmp .eq 25, 3) := by decide +kernel
theorem d_X7_isStepWord_26 : decode mt_X7_isStepWord.2.1 26 = .ok (.aload_n 0, 1) := by decide +kernel
theorem d_X7_isStepWord_27 : decode mt_X7_isStepWord.2.1 27 = .ok (.getfield 86, 3) := by decide +kernel
theorem d_X7_isStepWord_30 : decode mt_X7_isStepWord.2.1 30 = .ok (.bipush 19, 2) := by decide +kernel
theorem d_X7_isStepWord_32 : decode mt_X7_isStepWord.2.1 32 = .ok (.if_icmp .eq 16, 3) := by decide +kernel
theorem d_X7_isStepWord_35 : decode mt_X7_isStepWord.2.1 35 = .ok (.aload_n 0, 1) := by decide +kernel
theorem d_X7_isStepWord_36 : decode mt_X7_isStepWord.2.1 36 = .ok (.getfield 86, 3) := by decide +kernel
theorem d_X7_isStepWord_39 : decode mt_X7_isStepWord.2.1 39 = .ok (.bipush 21, 2) := by decide +kernel
theorem d_X7_isStepWord_41 : decode mt_X7_isStepWord.2.1 41 = .ok (.if_icmp .eq 7, 3) := by decide +kernel
theorem d_X7_isStepWord_44 : decode mt_X7_isStepWord.2.1 44 = .ok (.iconst 1, 1) := by decide +kernel
theorem d_X7_isStepWord_45 : decode mt_X7_isStepWord.2.1 45 = .ok (.goto 4, 3) := by decide +kernel
theorem d_X7_isStepWord_48 : decode mt_X7_isStepWord.2.1 48 = .ok (.iconst 0, 1) := by decide +kernel
theorem d_X7_isStepWord_49 : decode mt_X7_isStepWord.2.1 49 = .ok (.ireturn, 1) := by decide +kernel
noncomputable def f_X7_isStepWord_b0 (v0 : Int) (σ : Mem) : Option (Int) :=
  (gf Sh σ 7 v0 4).bind fun x1 =>
  if x1 = 2 then
    (gf Sh σ 7 v0 7).bind fun x2 =>
    if x2 < 10 then
      some (0)
    else
      (gf Sh σ 7 v0 7).bind fun x3 =>
      if x3 = 18 then
        some (0)
      else
        (gf Sh σ 7 v0 7).bind fun x4 =>
        if x4 = 19 then
          some (0)
        else
          (gf Sh σ 7 v0 7).bind fun x5 =>
          if x5 = 21 then
            some (0)
          else
            some (1)
  else
    some (0)
theorem L_X7_isStepWord_b0 {sc : Nat × (Nat → Int32)} {o : Int} {σ : Mem} {v0 : Int} (h : f_X7_isStepWord_b0 v0 σ = some o) : E sc (Fm Sh (some (0, o)) Sh σ) mt_X7_isStepWord 1 Sh Sh 0 [(2, v0)] [] Sh σ := by
  unfold f_X7_isStepWord_b0 at h
  refine E_aload_n d_X7_isStepWord_0 rfl (by decide) ?_
  refine E_get d_X7_isStepWord_1 okX7 fl_X7_57 ⟨by decide, rfl⟩ h (fun x1 h => ?_)
  refine E_iconst d_X7_isStepWord_4 (c32 rfl) ?_
  refine E_icmp_ne (tgt := 48) d_X7_isStepWord_5 (by decide) h (fun _ h => ?_) (fun _ h => ?_)
  · refine E_aload_n d_X7_isStepWord_8 rfl (by decide) ?_
    refine E_get d_X7_isStepWord_9 okX7 fl_X7_86 ⟨by decide, rfl⟩ h (fun x2 h => ?_)
    refine E_bipush d_X7_isStepWord_12 (c8 rfl) ?_
    refine E_icmp_lt (tgt := 48) d_X7_isStepWord_14 (by decide) h (fun _ h => ?_) (fun _ h => ?_)
    · refine E_iconst d_X7_isStepWord_48 (c32 rfl) ?_
      cases h
      exact E_zret d_X7_isStepWord_49 rfl (Or.inl rfl)
    · refine E_aload_n d_X7_isStepWord_17 rfl (by decide) ?_
      refine E_get d_X7_isStepWord_18 okX7 fl_X7_86 ⟨by decide, rfl⟩ h (fun x3 h => ?_)
      refine E_bipush d_X7_isStepWord_21 (c8 rfl) ?_
      refine E_icmp_eq (tgt := 48) d_X7_isStepWord_23 (by decide) h (fun _ h => ?_) (fun _ h => ?_)
      · refine E_iconst d_X7_isStepWord_48 (c32 rfl) ?_
        cases h
        exact E_zret d_X7_isStepWord_49 rfl (Or.inl rfl)
      · refine E_aload_n d_X7_isStepWord_26 rfl (by decide) ?_
        refine E_get d_X7_isStepWord_27 okX7 fl_X7_86 ⟨by decide, rfl⟩ h (fun x4 h => ?_)
        refine E_bipush d_X7_isStepWord_30 (c8 rfl) ?_
        refine E_icmp_eq (tgt := 48) d_X7_isStepWord_32 (by decide) h (fun _ h => ?_) (fun _ h => ?_)
        · refine E_iconst d_X7_isStepWord_48 (c32 rfl) ?_
          cases h
          exact E_zret d_X7_isStepWord_49 rfl (Or.inl rfl)
        · refine E_aload_n d_X7_isStepWord_35 rfl (by decide) ?_
          refine E_get d_X7_isStepWord_36 okX7 fl_X7_86 ⟨by decide, rfl⟩ h (fun x5 h => ?_)
          refine E_bipush d_X7_isStepWord_39 (c8 rfl) ?_
          refine E_icmp_eq (tgt := 48) d_X7_isStepWord_41 (by decide) h (fun _ h => ?_) (fun _ h => ?_)
          · refine E_iconst d_X7_isStepWord_48 (c32 rfl) ?_
            cases h
            exact E_zret d_X7_isStepWord_49 rfl (Or.inl rfl)
          · refine E_iconst d_X7_isStepWord_44 (c32 rfl) ?_
            refine E_goto (tgt := 49) d_X7_isStepWord_45 (by decide) ?_
            cases h
            exact E_zret d_X7_isStepWord_49 rfl (Or.inr rfl)
  · refine E_iconst d_X7_isStepWord_48 (c32 rfl) ?_
    cases h
    exact E_zret d_X7_isStepWord_49 rfl (Or.inl rfl)
noncomputable def f_X7_isStepWord (v0 : Int) (σ : Mem) : Option (Int) := if isO Sh 7 v0 = true then f_X7_isStepWord_b0 v0 σ else none
theorem L_X7_isStepWord {o : Int} {v0 : Int} {σ : Mem} (h : f_X7_isStepWord v0 σ = some o) : (isO Sh 7 v0 = true ∧ Cn mt_X7_isStepWord 1 [(2, v0)] Sh σ (some (0, o)) Sh σ) := ⟨(ite_ok h).1, Cn_of mk_X7_isStepWord.1.2.2.1 (Nat.le_of_ble_eq_true rfl) (fun sc => L_X7_isStepWord_b0 (ite_ok h).2)⟩
theorem d_X6_beginsStep_0 : decode mt_X6_beginsStep.2.1 0 = .ok (.aload_n 0, 1) := by decide +kernel
theorem d_X6_beginsStep_1 : decode mt_X6_beginsStep.2.1 1 = .ok (.getfield 22, 3) := by decide +kernel
theorem d_X6_beginsStep_4 : decode mt_X6_beginsStep.2.1 4 = .ok (.invokevirtual 73, 3) := by decide +kernel
theorem d_X6_beginsStep_7 : decode mt_X6_beginsStep.2.1 7 = .ok (.ifCond .ne 12, 3) := by decide +kernel
theorem d_X6_beginsStep_10 : decode mt_X6_beginsStep.2.1 10 = .ok (.aload_n 0, 1) := by decide +kernel
theorem d_X6_beginsStep_11 : decode mt_X6_beginsStep.2.1 11 = .ok (.getfield 22, 3) := by decide +kernel
theorem d_X6_beginsStep_14 : decode mt_X6_beginsStep.2.1 14 = .ok (.iconst 2, 1) := by decide +kernel
theorem d_X6_beginsStep_15 : decode mt_X6_beginsStep.2.1 15 = .ok (.invokevirtual 60, 3) := by decide +kernel
theorem d_X6_beginsStep_18 : decode mt_X6_beginsStep.2.1 18 = .ok (.ireturn, 1) := by decide +kernel
theorem d_X6_beginsStep_19 : decode mt_X6_beginsStep.2.1 19 = .ok (.aload_n 0, 1) := by decide +kernel
theorem d_X6_beginsStep_20 : decode mt_X6_beginsStep.2.1 20 = .ok (.getfield 12, 3) := by decide +kernel
theorem d_X6_beginsStep_23 : decode mt_X6_beginsStep.2.1 23 = .ok (.getfield 76, 3) := by decide +kernel
theorem d_X6_beginsStep_26 : decode mt_X6_beginsStep.2.1 26 = .ok (.bipush 30, 2) := by decide +kernel
theorem d_X6_beginsStep_28 : decode mt_X6_beginsStep.2.1 28 = .ok (.if_icmp .lt 13, 3) := by decide +kernel
theorem d_X6_beginsStep_31 : decode mt_X6_beginsStep.2.1 31 = .ok (.aload_n 0, 1) := by decide +kernel
theorem d_X6_beginsStep_32 : decode mt_X6_beginsStep.2.1 32 = .ok (.getfield 22, 3) := by decide +kernel
theorem d_X6_beginsStep_35 : decode mt_X6_beginsStep.2.1 35 = .ok (.bipush 6, 2) := by decide +kernel
theorem d_X6_beginsStep_37 : decode mt_X6_beginsStep.2.1 37 = .ok (.invokevirtual 60, 3) := by decide +kernel
theorem d_X6_beginsStep_40 : decode mt_X6_beginsStep.2.1 40 = .ok (.ireturn, 1) := by decide +kernel
theorem d_X6_beginsStep_41 : decode mt_X6_beginsStep.2.1 41 = .ok (.aload_n 0, 1) := by decide +kernel
theorem d_X6_beginsStep_42 : decode mt_X6_beginsStep.2.1 42 = .ok (.getfield 22, 3) := by decide +kernel
theorem d_X6_beginsStep_45 : decode mt_X6_beginsStep.2.1 45 = .ok (.bipush 17, 2) := by decide +kernel
theorem d_X6_beginsStep_47 : decode mt_X6_beginsStep.2.1 47 = .ok (.invokevirtual 47, 3) := by decide +kernel
theorem d_X6_beginsStep_50 : decode mt_X6_beginsStep.2.1 50 = .ok (.ifCond .ne 15, 3) := by decide +kernel
theorem d_X6_beginsStep_53 : decode mt_X6_beginsStep.2.1 53 = .ok (.aload_n 0, 1) := by decide +kernel
theorem d_X6_beginsStep_54 : decode mt_X6_beginsStep.2.1 54 = .ok (.getfield 22, 3) := by decide +kernel
theorem d_X6_beginsStep_57 : decode mt_X6_beginsStep.2.1 57 = .ok (.bipush 20, 2) := by decide +kernel
theorem d_X6_beginsStep_59 : decode mt_X6_beginsStep.2.1 59 = .ok (.invokevirtual 47, 3) := by decide +kernel
theorem d_X6_beginsStep_62 : decode mt_X6_beginsStep.2.1 62 = .ok (.ifCond .eq 47, 3) := by decide +kernel
theorem d_X6_beginsStep_65 : decode mt_X6_beginsStep.2.1 65 = .ok (.aload_n 0, 1) := by decide +kernel
theorem d_X6_beginsStep_66 : decode mt_X6_beginsStep.2.1 66 = .ok (.getfield 30, 3) := by decide +kernel
theorem d_X6_beginsStep_69 : decode mt_X6_beginsStep.2.1 69 = .ok (.iconst 3, 1) := by decide +kernel
theorem d_X6_beginsStep_70 : decode mt_X6_beginsStep.2.1 70 = .ok (.if_icmp .lt 13, 3) := by decide +kernel
theorem d_X6_beginsStep_73 : decode mt_X6_beginsStep.2.1 73 = .ok (.aload_n 0, 1) := by decide +kernel
theorem d_X6_beginsStep_74 : decode mt_X6_beginsStep.2.1 74 = .ok (.getfield 22, 3) := by decide +kernel
theorem d_X6_beginsStep_77 : decode mt_X6_beginsStep.2.1 77 = .ok (.bipush 7, 2) := by decide +kernel
theorem d_X6_beginsStep_79 : decode mt_X6_beginsStep.2.1 79 = .ok (.invokevirtual 60, 3) := by decide +kernel
theorem d_X6_beginsStep_82 : decode mt_X6_beginsStep.2.1 82 = .ok (.ireturn, 1) := by decide +kernel
theorem d_X6_beginsStep_83 : decode mt_X6_beginsStep.2.1 83 = .ok (.aload_n 0, 1) := by decide +kernel
theorem d_X6_beginsStep_84 : decode mt_X6_beginsStep.2.1 84 = .ok (.getfield 18, 3) := by decide +kernel
theorem d_X6_beginsStep_87 : decode mt_X6_beginsStep.2.1 87 = .ok (.aload_n 0, 1) := by decide +kernel
theorem d_X6_beginsStep_88 : decode mt_X6_beginsStep.2.1 88 = .ok (.getfield 30, 3) := by decide +kernel
theorem d_X6_beginsStep_91 : decode mt_X6_beginsStep.2.1 91 = .ok (.aload_n 0, 1) := by decide +kernel
theorem d_X6_beginsStep_92 : decode mt_X6_beginsStep.2.1 92 = .ok (.getfield 12, 3) := by decide +kernel
theorem d_X6_beginsStep_95 : decode mt_X6_beginsStep.2.1 95 = .ok (.getfield 79, 3) := by decide +kernel
theorem d_X6_beginsStep_98 : decode mt_X6_beginsStep.2.1 98 = .ok (.iastore, 1) := by decide +kernel
theorem d_X6_beginsStep_99 : decode mt_X6_beginsStep.2.1 99 = .ok (.aload_n 0, 1) := by decide +kernel
theorem d_X6_beginsStep_100 : decode mt_X6_beginsStep.2.1 100 = .ok (.dup, 1) := by decide +kernel
theorem d_X6_beginsStep_101 : decode mt_X6_beginsStep.2.1 101 = .ok (.getfield 30, 3) := by decide +kernel
theorem d_X6_beginsStep_104 : decode mt_X6_beginsStep.2.1 104 = .ok (.iconst 1, 1) := by decide +kernel
theorem d_X6_beginsStep_105 : decode mt_X6_beginsStep.2.1 105 = .ok (.iadd, 1) := by decide +kernel
theorem d_X6_beginsStep_106 : decode mt_X6_beginsStep.2.1 106 = .ok (.putfield 30, 3) := by decide +kernel
theorem d_X6_beginsStep_109 : decode mt_X6_beginsStep.2.1 109 = .ok (.iconst 1, 1) := by decide +kernel
theorem d_X6_beginsStep_110 : decode mt_X6_beginsStep.2.1 110 = .ok (.ireturn, 1) := by decide +kernel
noncomputable def f_X6_beginsStep_b65 (v0 : Int) (σ : Mem) : Option (Int × Mem) :=
  (gf Sh σ 6 v0 4).bind fun x20 =>
  if x20 < 3 then
    (gf Sh σ 6 v0 3).bind fun x21 =>
    (gf Sh σ 6 v0 4).bind fun x22 =>
    (gf Sh σ 6 v0 2).bind fun x23 =>
    (gf Sh σ 5 x23 2).bind fun x24 =>
    (st_ Sh σ 20 x21 x22 x24).bind fun σ25 =>
    (gf Sh σ25 6 v0 4).bind fun x26 =>
    (pf Sh σ25 6 v0 4 (w32 (x26 + 1))).bind fun σ27 =>
    some (1, σ27)
  else
    (gf Sh σ 6 v0 0).bind fun x28 =>
    (f_X7_refuse x28 7 σ).bind fun r29 =>
    (bz r29.1).bind fun _ =>
    some (r29.1, r29.2)
theorem L_X6_beginsStep_b65 {sc : Nat × (Nat → Int32)} {o : Int × Mem} {v0 : Int} {σ : Mem} (h : f_X6_beginsStep_b65 v0 σ = some o) : E sc (Fm Sh (some (0, o.1)) Sh o.2) mt_X6_beginsStep 2 Sh Sh 65 [(2, v0)] [] Sh σ := by
  unfold f_X6_beginsStep_b65 at h
  refine E_aload_n d_X6_beginsStep_65 rfl (by decide) ?_
  refine E_get d_X6_beginsStep_66 okX6 fl_X6_30 ⟨by decide, rfl⟩ h (fun x20 h => ?_)
  refine E_iconst d_X6_beginsStep_69 (c32 rfl) ?_
  refine E_icmp_lt (tgt := 83) d_X6_beginsStep_70 (by decide) h (fun _ h => ?_) (fun _ h => ?_)
  · refine E_aload_n d_X6_beginsStep_83 rfl (by decide) ?_
    refine E_get d_X6_beginsStep_84 okX6 fl_X6_18 ⟨by decide, rfl⟩ h (fun x21 h => ?_)
    refine E_aload_n d_X6_beginsStep_87 rfl (by decide) ?_
    refine E_get d_X6_beginsStep_88 okX6 fl_X6_30 ⟨by decide, rfl⟩ h (fun x22 h => ?_)
    refine E_aload_n d_X6_beginsStep_91 rfl (by decide) ?_
    refine E_get d_X6_beginsStep_92 okX6 fl_X6_12 ⟨by decide, rfl⟩ h (fun x23 h => ?_)
    refine E_get d_X6_beginsStep_95 okX5 fl_X6_79 ⟨by decide, rfl⟩ h (fun x24 h => ?_)
    refine E_iastore d_X6_beginsStep_98 h (fun σ25 h => ?_)
    refine E_aload_n d_X6_beginsStep_99 rfl (by decide) ?_
    refine E_dupT d_X6_beginsStep_100 (by decide) ?_
    refine E_get d_X6_beginsStep_101 okX6 fl_X6_30 ⟨by decide, rfl⟩ h (fun x26 h => ?_)
    refine E_iconst d_X6_beginsStep_104 (c32 rfl) ?_
    refine E_iadd d_X6_beginsStep_105 ?_
    refine E_put d_X6_beginsStep_106 okX6 fl_X6_30 ⟨by decide, rfl⟩ (Or.inl ⟨rfl, rfl⟩) (Or.inl rfl) h (fun σ27 h => ?_)
    refine E_iconst d_X6_beginsStep_109 (c32 rfl) ?_
    cases h
    exact E_zret d_X6_beginsStep_110 rfl (Or.inr rfl)
  · refine E_aload_n d_X6_beginsStep_73 rfl (by decide) ?_
    refine E_get d_X6_beginsStep_74 okX6 fl_X6_22 ⟨by decide, rfl⟩ h (fun x28 h => ?_)
    refine E_bipush d_X6_beginsStep_77 (c8 rfl) ?_
    refine bd h (fun r29 q30 h => ?_)
    refine E_cV (as := [(0, 7)]) (st := []) (a := x28) d_X6_beginsStep_79 mk_X7_refuse nl_X6_60 (by omega) ⟨rfl, rfl, Nat.le_of_ble_eq_true rfl⟩ okX7 rfl (L_X7_refuse q30) ?_
    refine bd_bz h (fun q31 h => ?_)
    cases h
    exact E_zret d_X6_beginsStep_82 rfl q31
noncomputable def f_X6_beginsStep_b0 (v0 : Int) (σ : Mem) : Option (Int × Mem) :=
  (gf Sh σ 6 v0 0).bind fun x1 =>
  (f_X7_isStepWord x1 σ).bind fun r2 =>
  if r2 = 0 then
    (gf Sh σ 6 v0 0).bind fun x4 =>
    (f_X7_refuse x4 2 σ).bind fun r5 =>
    (bz r5.1).bind fun _ =>
    some (r5.1, r5.2)
  else
    (gf Sh σ 6 v0 2).bind fun x8 =>
    (gf Sh σ 5 x8 1).bind fun x9 =>
    if x9 < 30 then
      (gf Sh σ 6 v0 0).bind fun x10 =>
      (f_X7_isWord x10 17 σ).bind fun r11 =>
      if r11 = 0 then
        (gf Sh σ 6 v0 0).bind fun x13 =>
        (f_X7_isWord x13 20 σ).bind fun r14 =>
        if r14 = 0 then
          some (1, σ)
        else
          f_X6_beginsStep_b65 v0 σ
      else
        f_X6_beginsStep_b65 v0 σ
    else
      (gf Sh σ 6 v0 0).bind fun x16 =>
      (f_X7_refuse x16 6 σ).bind fun r17 =>
      (bz r17.1).bind fun _ =>
      some (r17.1, r17.2)
theorem L_X6_beginsStep_b0 {sc : Nat × (Nat → Int32)} {o : Int × Mem} {v0 : Int} {σ : Mem} (h : f_X6_beginsStep_b0 v0 σ = some o) : E sc (Fm Sh (some (0, o.1)) Sh o.2) mt_X6_beginsStep 2 Sh Sh 0 [(2, v0)] [] Sh σ := by
  unfold f_X6_beginsStep_b0 at h
  refine E_aload_n d_X6_beginsStep_0 rfl (by decide) ?_
  refine E_get d_X6_beginsStep_1 okX6 fl_X6_22 ⟨by decide, rfl⟩ h (fun x1 h => ?_)
  refine bd h (fun r2 q3 h => ?_)
  refine E_cV (as := []) (st := []) (a := x1) d_X6_beginsStep_4 mk_X7_isStepWord nl_X6_73 (by omega) ⟨rfl, rfl, Nat.le_of_ble_eq_true rfl⟩ okX7 rfl (L_X7_isStepWord q3) ?_
  refine E_if_ne (tgt := 19) d_X6_beginsStep_7 (by decide) h (fun _ h => ?_) (fun _ h => ?_)
  · refine E_aload_n d_X6_beginsStep_10 rfl (by decide) ?_
    refine E_get d_X6_beginsStep_11 okX6 fl_X6_22 ⟨by decide, rfl⟩ h (fun x4 h => ?_)
    refine E_iconst d_X6_beginsStep_14 (c32 rfl) ?_
    refine bd h (fun r5 q6 h => ?_)
    refine E_cV (as := [(0, 2)]) (st := []) (a := x4) d_X6_beginsStep_15 mk_X7_refuse nl_X6_60 (by omega) ⟨rfl, rfl, Nat.le_of_ble_eq_true rfl⟩ okX7 rfl (L_X7_refuse q6) ?_
    refine bd_bz h (fun q7 h => ?_)
    cases h
    exact E_zret d_X6_beginsStep_18 rfl q7
  · refine E_aload_n d_X6_beginsStep_19 rfl (by decide) ?_
    refine E_get d_X6_beginsStep_20 okX6 fl_X6_12 ⟨by decide, rfl⟩ h (fun x8 h => ?_)
    refine E_get d_X6_beginsStep_23 okX5 fl_X6_76 ⟨by decide, rfl⟩ h (fun x9 h => ?_)
    refine E_bipush d_X6_beginsStep_26 (c8 rfl) ?_
    refine E_icmp_lt (tgt := 41) d_X6_beginsStep_28 (by decide) h (fun _ h => ?_) (fun _ h => ?_)
    · refine E_aload_n d_X6_beginsStep_41 rfl (by decide) ?_
      refine E_get d_X6_beginsStep_42 okX6 fl_X6_22 ⟨by decide, rfl⟩ h (fun x10 h => ?_)
      refine E_bipush d_X6_beginsStep_45 (c8 rfl) ?_
      refine bd h (fun r11 q12 h => ?_)
      refine E_cV (as := [(0, 17)]) (st := []) (a := x10) d_X6_beginsStep_47 mk_X7_isWord nl_X6_47 (by omega) ⟨rfl, rfl, Nat.le_of_ble_eq_true rfl⟩ okX7 rfl (L_X7_isWord q12) ?_
      refine E_if_ne (tgt := 65) d_X6_beginsStep_50 (by decide) h (fun _ h => ?_) (fun _ h => ?_)
      · refine E_aload_n d_X6_beginsStep_53 rfl (by decide) ?_
        refine E_get d_X6_beginsStep_54 okX6 fl_X6_22 ⟨by decide, rfl⟩ h (fun x13 h => ?_)
        refine E_bipush d_X6_beginsStep_57 (c8 rfl) ?_
        refine bd h (fun r14 q15 h => ?_)
        refine E_cV (as := [(0, 20)]) (st := []) (a := x13) d_X6_beginsStep_59 mk_X7_isWord nl_X6_47 (by omega) ⟨rfl, rfl, Nat.le_of_ble_eq_true rfl⟩ okX7 rfl (L_X7_isWord q15) ?_
        refine E_if_eq (tgt := 109) d_X6_beginsStep_62 (by decide) h (fun _ h => ?_) (fun _ h => ?_)
        · refine E_iconst d_X6_beginsStep_109 (c32 rfl) ?_
          cases h
          exact E_zret d_X6_beginsStep_110 rfl (Or.inr rfl)
        · exact (L_X6_beginsStep_b65 h)
      · exact (L_X6_beginsStep_b65 h)
    · refine E_aload_n d_X6_beginsStep_31 rfl (by decide) ?_
      refine E_get d_X6_beginsStep_32 okX6 fl_X6_22 ⟨by decide, rfl⟩ h (fun x16 h => ?_)
      refine E_bipush d_X6_beginsStep_35 (c8 rfl) ?_
      refine bd h (fun r17 q18 h => ?_)
      refine E_cV (as := [(0, 6)]) (st := []) (a := x16) d_X6_beginsStep_37 mk_X7_refuse nl_X6_60 (by omega) ⟨rfl, rfl, Nat.le_of_ble_eq_true rfl⟩ okX7 rfl (L_X7_refuse q18) ?_
      refine bd_bz h (fun q19 h => ?_)
      cases h
      exact E_zret d_X6_beginsStep_40 rfl q19
noncomputable def f_X6_beginsStep (v0 : Int) (σ : Mem) : Option (Int × Mem) := if isO Sh 6 v0 = true then f_X6_beginsStep_b0 v0 σ else none
theorem L_X6_beginsStep {o : Int × Mem} {v0 : Int} {σ : Mem} (h : f_X6_beginsStep v0 σ = some o) : (isO Sh 6 v0 = true ∧ Cn mt_X6_beginsStep 2 [(2, v0)] Sh σ (some (0, o.1)) Sh o.2) := ⟨(ite_ok h).1, Cn_of mk_X6_beginsStep.1.2.2.1 (Nat.le_of_ble_eq_true rfl) (fun sc => L_X6_beginsStep_b0 (ite_ok h).2)⟩
theorem d_X6_readCount_0 : decode mt_X6_readCount.2.1 0 = .ok (.aload_n 0, 1) := by decide +kernel
theorem d_X6_readCount_1 : decode mt_X6_readCount.2.1 1 = .ok (.getfield 22, 3) := by decide +kernel
theorem d_X6_readCount_4 : decode mt_X6_readCount.2.1 4 = .ok (.iconst 1, 1) := by decide +kernel
theorem d_X6_readCount_5 : decode mt_X6_readCount.2.1 5 = .ok (.iload_n 2, 1) := by decide +kernel
theorem d_X6_readCount_6 : decode mt_X6_readCount.2.1 6 = .ok (.invokevirtual 105, 3) := by decide +kernel
theorem d_X6_readCount_9 : decode mt_X6_readCount.2.1 9 = .ok (.ifCond .ne 5, 3) := by decide +kernel
theorem d_X6_readCount_12 : decode mt_X6_readCount.2.1 12 = .ok (.iconst 0, 1) := by decide +kernel
theorem d_X6_readCount_13 : decode mt_X6_readCount.2.1 13 = .ok (.ireturn, 1) := by decide +kernel
theorem d_X6_readCount_14 : decode mt_X6_readCount.2.1 14 = .ok (.aload_n 0, 1) := by decide +kernel
theorem d_X6_readCount_15 : decode mt_X6_readCount.2.1 15 = .ok (.getfield 12, 3) := by decide +kernel
theorem d_X6_readCount_18 : decode mt_X6_readCount.2.1 18 = .ok (.iload_n 1, 1) := by decide +kernel
theorem d_X6_readCount_19 : decode mt_X6_readCount.2.1 19 = .ok (.aload_n 0, 1) := by decide +kernel
theorem d_X6_readCount_20 : decode mt_X6_readCount.2.1 20 = .ok (.getfield 22, 3) := by decide +kernel
theorem d_X6_readCount_23 : decode mt_X6_readCount.2.1 23 = .ok (.getfield 108, 3) := by decide +kernel
theorem d_X6_readCount_26 : decode mt_X6_readCount.2.1 26 = .ok (.iconst 0, 1) := by decide +kernel
theorem d_X6_readCount_27 : decode mt_X6_readCount.2.1 27 = .ok (.iconst 0, 1) := by decide +kernel
theorem d_X6_readCount_28 : decode mt_X6_readCount.2.1 28 = .ok (.invokevirtual 98, 3) := by decide +kernel
theorem d_X6_readCount_31 : decode mt_X6_readCount.2.1 31 = .ok (.iconst 1, 1) := by decide +kernel
theorem d_X6_readCount_32 : decode mt_X6_readCount.2.1 32 = .ok (.ireturn, 1) := by decide +kernel
noncomputable def f_X6_readCount_b0 (v0 v1 v2 : Int) (σ : Mem) : Option (Int × Mem) :=
  (gf Sh σ 6 v0 0).bind fun x1 =>
  (f_X7_takeNumber x1 1 v2 σ).bind fun r2 =>
  if r2.1 = 0 then
    some (0, r2.2)
  else
    (gf Sh r2.2 6 v0 2).bind fun x4 =>
    (gf Sh r2.2 6 v0 0).bind fun x5 =>
    (gf Sh r2.2 7 x5 9).bind fun x6 =>
    (f_X5_add x4 v1 x6 0 0 r2.2).bind fun r7 =>
    some (1, r7)
theorem L_X6_readCount_b0 {sc : Nat × (Nat → Int32)} {o : Int × Mem} {v0 v1 v2 : Int} {σ : Mem} (h : f_X6_readCount_b0 v0 v1 v2 σ = some o) : E sc (Fm Sh (some (0, o.1)) Sh o.2) mt_X6_readCount 5 Sh Sh 0 [(2, v0), (0, v1), (0, v2)] [] Sh σ := by
  unfold f_X6_readCount_b0 at h
  refine E_aload_n d_X6_readCount_0 rfl (by decide) ?_
  refine E_get d_X6_readCount_1 okX6 fl_X6_22 ⟨by decide, rfl⟩ h (fun x1 h => ?_)
  refine E_iconst d_X6_readCount_4 (c32 rfl) ?_
  refine E_iload_n d_X6_readCount_5 rfl ?_
  refine bd h (fun r2 q3 h => ?_)
  refine E_cV (as := [(0, 1), (0, v2)]) (st := []) (a := x1) d_X6_readCount_6 mk_X7_takeNumber nl_X6_105 (by omega) ⟨rfl, rfl, Nat.le_of_ble_eq_true rfl⟩ okX7 rfl (L_X7_takeNumber q3) ?_
  refine E_if_ne (tgt := 14) d_X6_readCount_9 (by decide) h (fun _ h => ?_) (fun _ h => ?_)
  · refine E_iconst d_X6_readCount_12 (c32 rfl) ?_
    cases h
    exact E_zret d_X6_readCount_13 rfl (Or.inl rfl)
  · refine E_aload_n d_X6_readCount_14 rfl (by decide) ?_
    refine E_get d_X6_readCount_15 okX6 fl_X6_12 ⟨by decide, rfl⟩ h (fun x4 h => ?_)
    refine E_iload_n d_X6_readCount_18 rfl ?_
    refine E_aload_n d_X6_readCount_19 rfl (by decide) ?_
    refine E_get d_X6_readCount_20 okX6 fl_X6_22 ⟨by decide, rfl⟩ h (fun x5 h => ?_)
    refine E_get d_X6_readCount_23 okX7 fl_X6_108 ⟨by decide, rfl⟩ h (fun x6 h => ?_)
    refine E_iconst d_X6_readCount_26 (c32 rfl) ?_
    refine E_iconst d_X6_readCount_27 (c32 rfl) ?_
    refine bd h (fun r7 q8 h => ?_)
    refine E_cVv (as := [(0, v1), (0, x6), (0, 0), (0, 0)]) (st := []) (a := x4) d_X6_readCount_28 mk_X5_add nl_X6_98 (by omega) ⟨rfl, rfl, Nat.le_of_ble_eq_true rfl⟩ okX5 rfl (L_X5_add q8) ?_
    refine E_iconst d_X6_readCount_31 (c32 rfl) ?_
    cases h
    exact E_zret d_X6_readCount_32 rfl (Or.inr rfl)
noncomputable def f_X6_readCount (v0 v1 v2 : Int) (σ : Mem) : Option (Int × Mem) := if isO Sh 6 v0 = true then f_X6_readCount_b0 v0 v1 v2 σ else none
theorem L_X6_readCount {o : Int × Mem} {v0 v1 v2 : Int} {σ : Mem} (h : f_X6_readCount v0 v1 v2 σ = some o) : (isO Sh 6 v0 = true ∧ Cn mt_X6_readCount 5 [(2, v0), (0, v1), (0, v2)] Sh σ (some (0, o.1)) Sh o.2) := ⟨(ite_ok h).1, Cn_of mk_X6_readCount.1.2.2.1 (Nat.le_of_ble_eq_true rfl) (fun sc => L_X6_readCount_b0 (ite_ok h).2)⟩
theorem d_X6_readTry_0 : decode mt_X6_readTry.2.1 0 = .ok (.aload_n 0, 1) := by decide +kernel
theorem d_X6_readTry_1 : decode mt_X6_readTry.2.1 1 = .ok (.getfield 22, 3) := by decide +kernel
theorem d_X6_readTry_4 : decode mt_X6_readTry.2.1 4 = .ok (.iconst 0, 1) := by decide +kernel
theorem d_X6_readTry_5 : decode mt_X6_readTry.2.1 5 = .ok (.bipush 99, 2) := by decide +kernel
theorem d_X6_readTry_7 : decode mt_X6_readTry.2.1 7 = .ok (.invokevirtual 105, 3) := by decide +kernel
theorem d_X6_readTry_10 : decode mt_X6_readTry.2.1 10 = .ok (.ifCond .ne 5, 3) := by decide +kernel
theorem d_X6_readTry_13 : decode mt_X6_readTry.2.1 13 = .ok (.iconst 0, 1) := by decide +kernel
theorem d_X6_readTry_14 : decode mt_X6_readTry.2.1 14 = .ok (.ireturn, 1) := by decide +kernel
theorem d_X6_readTry_15 : decode mt_X6_readTry.2.1 15 = .ok (.aload_n 0, 1) := by decide +kernel
theorem d_X6_readTry_16 : decode mt_X6_readTry.2.1 16 = .ok (.getfield 22, 3) := by decide +kernel
theorem d_X6_readTry_19 : decode mt_X6_readTry.2.1 19 = .ok (.getfield 108, 3) := by decide +kernel
theorem d_X6_readTry_22 : decode mt_X6_readTry.2.1 22 = .ok (.istore_n 1, 1) := by decide +kernel
theorem d_X6_readTry_23 : decode mt_X6_readTry.2.1 23 = .ok (.aload_n 0, 1) := by decide +kernel
theorem d_X6_readTry_24 : decode mt_X6_readTry.2.1 24 = .ok (.getfield 22, 3) := by decide +kernel
theorem d_X6_readTry_27 : decode mt_X6_readTry.2.1 27 = .ok (.iconst 0, 1) := by decide +kernel
theorem d_X6_readTry_28 : decode mt_X6_readTry.2.1 28 = .ok (.aload_n 0, 1) := by decide +kernel
theorem d_X6_readTry_29 : decode mt_X6_readTry.2.1 29 = .ok (.getfield 26, 3) := by decide +kernel
theorem d_X6_readTry_32 : decode mt_X6_readTry.2.1 32 = .ok (.getfield 117, 3) := by decide +kernel
theorem d_X6_readTry_35 : decode mt_X6_readTry.2.1 35 = .ok (.iconst 1, 1) := by decide +kernel
theorem d_X6_readTry_36 : decode mt_X6_readTry.2.1 36 = .ok (.isub, 1) := by decide +kernel
theorem d_X6_readTry_37 : decode mt_X6_readTry.2.1 37 = .ok (.invokevirtual 105, 3) := by decide +kernel
theorem d_X6_readTry_40 : decode mt_X6_readTry.2.1 40 = .ok (.ifCond .ne 5, 3) := by decide +kernel
theorem d_X6_readTry_43 : decode mt_X6_readTry.2.1 43 = .ok (.iconst 0, 1) := by decide +kernel
theorem d_X6_readTry_44 : decode mt_X6_readTry.2.1 44 = .ok (.ireturn, 1) := by decide +kernel
theorem d_X6_readTry_45 : decode mt_X6_readTry.2.1 45 = .ok (.aload_n 0, 1) := by decide +kernel
theorem d_X6_readTry_46 : decode mt_X6_readTry.2.1 46 = .ok (.getfield 22, 3) := by decide +kernel
theorem d_X6_readTry_49 : decode mt_X6_readTry.2.1 49 = .ok (.getfield 108, 3) := by decide +kernel
theorem d_X6_readTry_52 : decode mt_X6_readTry.2.1 52 = .ok (.istore_n 2, 1) := by decide +kernel
theorem d_X6_readTry_53 : decode mt_X6_readTry.2.1 53 = .ok (.aload_n 0, 1) := by decide +kernel
theorem d_X6_readTry_54 : decode mt_X6_readTry.2.1 54 = .ok (.getfield 22, 3) := by decide +kernel
theorem d_X6_readTry_57 : decode mt_X6_readTry.2.1 57 = .ok (.iconst 0, 1) := by decide +kernel
theorem d_X6_readTry_58 : decode mt_X6_readTry.2.1 58 = .ok (.iconst 1, 1) := by decide +kernel
theorem d_X6_readTry_59 : decode mt_X6_readTry.2.1 59 = .ok (.invokevirtual 105, 3) := by decide +kernel
theorem d_X6_readTry_62 : decode mt_X6_readTry.2.1 62 = .ok (.ifCond .ne 5, 3) := by decide +kernel
theorem d_X6_readTry_65 : decode mt_X6_readTry.2.1 65 = .ok (.iconst 0, 1) := by decide +kernel
theorem d_X6_readTry_66 : decode mt_X6_readTry.2.1 66 = .ok (.ireturn, 1) := by decide +kernel
theorem d_X6_readTry_67 : decode mt_X6_readTry.2.1 67 = .ok (.aload_n 0, 1) := by decide +kernel
theorem d_X6_readTry_68 : decode mt_X6_readTry.2.1 68 = .ok (.getfield 12, 3) := by decide +kernel
theorem d_X6_readTry_71 : decode mt_X6_readTry.2.1 71 = .ok (.bipush 11, 2) := by decide +kernel
theorem d_X6_readTry_73 : decode mt_X6_readTry.2.1 73 = .ok (.iload_n 1, 1) := by decide +kernel
theorem d_X6_readTry_74 : decode mt_X6_readTry.2.1 74 = .ok (.iload_n 2, 1) := by decide +kernel
theorem d_X6_readTry_75 : decode mt_X6_readTry.2.1 75 = .ok (.aload_n 0, 1) := by decide +kernel
theorem d_X6_readTry_76 : decode mt_X6_readTry.2.1 76 = .ok (.getfield 22, 3) := by decide +kernel
theorem d_X6_readTry_79 : decode mt_X6_readTry.2.1 79 = .ok (.getfield 108, 3) := by decide +kernel
theorem d_X6_readTry_82 : decode mt_X6_readTry.2.1 82 = .ok (.invokevirtual 98, 3) := by decide +kernel
theorem d_X6_readTry_85 : decode mt_X6_readTry.2.1 85 = .ok (.iconst 1, 1) := by decide +kernel
theorem d_X6_readTry_86 : decode mt_X6_readTry.2.1 86 = .ok (.ireturn, 1) := by decide +kernel
noncomputable def f_X6_readTry_b0 (v0 : Int) (σ : Mem) : Option (Int × Mem) :=
  (gf Sh σ 6 v0 0).bind fun x1 =>
  (f_X7_takeNumber x1 0 99 σ).bind fun r2 =>
  if r2.1 = 0 then
    some (0, r2.2)
  else
    (gf Sh r2.2 6 v0 0).bind fun x4 =>
    (gf Sh r2.2 7 x4 9).bind fun x5 =>
    (gf Sh r2.2 6 v0 0).bind fun x6 =>
    (gf Sh r2.2 6 v0 1).bind fun x7 =>
    (gf Sh r2.2 9 x7 0).bind fun x8 =>
    (f_X7_takeNumber x6 0 (w32 (x8 - 1)) r2.2).bind fun r9 =>
    if r9.1 = 0 then
      some (0, r9.2)
    else
      (gf Sh r9.2 6 v0 0).bind fun x11 =>
      (gf Sh r9.2 7 x11 9).bind fun x12 =>
      (gf Sh r9.2 6 v0 0).bind fun x13 =>
      (f_X7_takeNumber x13 0 1 r9.2).bind fun r14 =>
      if r14.1 = 0 then
        some (0, r14.2)
      else
        (gf Sh r14.2 6 v0 2).bind fun x16 =>
        (gf Sh r14.2 6 v0 0).bind fun x17 =>
        (gf Sh r14.2 7 x17 9).bind fun x18 =>
        (f_X5_add x16 11 x5 x12 x18 r14.2).bind fun r19 =>
        some (1, r19)
theorem L_X6_readTry_b0 {sc : Nat × (Nat → Int32)} {o : Int × Mem} {v0 : Int} {σ : Mem} (h : f_X6_readTry_b0 v0 σ = some o) : E sc (Fm Sh (some (0, o.1)) Sh o.2) mt_X6_readTry 5 Sh Sh 0 [(2, v0), (9, 0), (9, 0)] [] Sh σ := by
  unfold f_X6_readTry_b0 at h
  refine E_aload_n d_X6_readTry_0 rfl (by decide) ?_
  refine E_get d_X6_readTry_1 okX6 fl_X6_22 ⟨by decide, rfl⟩ h (fun x1 h => ?_)
  refine E_iconst d_X6_readTry_4 (c32 rfl) ?_
  refine E_bipush d_X6_readTry_5 (c8 rfl) ?_
  refine bd h (fun r2 q3 h => ?_)
  refine E_cV (as := [(0, 0), (0, 99)]) (st := []) (a := x1) d_X6_readTry_7 mk_X7_takeNumber nl_X6_105 (by omega) ⟨rfl, rfl, Nat.le_of_ble_eq_true rfl⟩ okX7 rfl (L_X7_takeNumber q3) ?_
  refine E_if_ne (tgt := 15) d_X6_readTry_10 (by decide) h (fun _ h => ?_) (fun _ h => ?_)
  · refine E_iconst d_X6_readTry_13 (c32 rfl) ?_
    cases h
    exact E_zret d_X6_readTry_14 rfl (Or.inl rfl)
  · refine E_aload_n d_X6_readTry_15 rfl (by decide) ?_
    refine E_get d_X6_readTry_16 okX6 fl_X6_22 ⟨by decide, rfl⟩ h (fun x4 h => ?_)
    refine E_get d_X6_readTry_19 okX7 fl_X6_108 ⟨by decide, rfl⟩ h (fun x5 h => ?_)
    refine E_istore_n d_X6_readTry_22 (ls' := [(2, v0), (0, x5), (9, 0)]) ⟨by decide, rfl⟩ ?_
    refine E_aload_n d_X6_readTry_23 rfl (by decide) ?_
    refine E_get d_X6_readTry_24 okX6 fl_X6_22 ⟨by decide, rfl⟩ h (fun x6 h => ?_)
    refine E_iconst d_X6_readTry_27 (c32 rfl) ?_
    refine E_aload_n d_X6_readTry_28 rfl (by decide) ?_
    refine E_get d_X6_readTry_29 okX6 fl_X6_26 ⟨by decide, rfl⟩ h (fun x7 h => ?_)
    refine E_get d_X6_readTry_32 okX9 fl_X6_117 ⟨by decide, rfl⟩ h (fun x8 h => ?_)
    refine E_iconst d_X6_readTry_35 (c32 rfl) ?_
    refine E_isub d_X6_readTry_36 ?_
    refine bd h (fun r9 q10 h => ?_)
    refine E_cV (as := [(0, 0), (0, w32 (x8 - 1))]) (st := []) (a := x6) d_X6_readTry_37 mk_X7_takeNumber nl_X6_105 (by omega) ⟨rfl, rfl, Nat.le_of_ble_eq_true rfl⟩ okX7 rfl (L_X7_takeNumber q10) ?_
    refine E_if_ne (tgt := 45) d_X6_readTry_40 (by decide) h (fun _ h => ?_) (fun _ h => ?_)
    · refine E_iconst d_X6_readTry_43 (c32 rfl) ?_
      cases h
      exact E_zret d_X6_readTry_44 rfl (Or.inl rfl)
    · refine E_aload_n d_X6_readTry_45 rfl (by decide) ?_
      refine E_get d_X6_readTry_46 okX6 fl_X6_22 ⟨by decide, rfl⟩ h (fun x11 h => ?_)
      refine E_get d_X6_readTry_49 okX7 fl_X6_108 ⟨by decide, rfl⟩ h (fun x12 h => ?_)
      refine E_istore_n d_X6_readTry_52 (ls' := [(2, v0), (0, x5), (0, x12)]) ⟨by decide, rfl⟩ ?_
      refine E_aload_n d_X6_readTry_53 rfl (by decide) ?_
      refine E_get d_X6_readTry_54 okX6 fl_X6_22 ⟨by decide, rfl⟩ h (fun x13 h => ?_)
      refine E_iconst d_X6_readTry_57 (c32 rfl) ?_
      refine E_iconst d_X6_readTry_58 (c32 rfl) ?_
      refine bd h (fun r14 q15 h => ?_)
      refine E_cV (as := [(0, 0), (0, 1)]) (st := []) (a := x13) d_X6_readTry_59 mk_X7_takeNumber nl_X6_105 (by omega) ⟨rfl, rfl, Nat.le_of_ble_eq_true rfl⟩ okX7 rfl (L_X7_takeNumber q15) ?_
      refine E_if_ne (tgt := 67) d_X6_readTry_62 (by decide) h (fun _ h => ?_) (fun _ h => ?_)
      · refine E_iconst d_X6_readTry_65 (c32 rfl) ?_
        cases h
        exact E_zret d_X6_readTry_66 rfl (Or.inl rfl)
      · refine E_aload_n d_X6_readTry_67 rfl (by decide) ?_
        refine E_get d_X6_readTry_68 okX6 fl_X6_12 ⟨by decide, rfl⟩ h (fun x16 h => ?_)
        refine E_bipush d_X6_readTry_71 (c8 rfl) ?_
        refine E_iload_n d_X6_readTry_73 rfl ?_
        refine E_iload_n d_X6_readTry_74 rfl ?_
        refine E_aload_n d_X6_readTry_75 rfl (by decide) ?_
        refine E_get d_X6_readTry_76 okX6 fl_X6_22 ⟨by decide, rfl⟩ h (fun x17 h => ?_)
        refine E_get d_X6_readTry_79 okX7 fl_X6_108 ⟨by decide, rfl⟩ h (fun x18 h => ?_)
        refine bd h (fun r19 q20 h => ?_)
        refine E_cVv (as := [(0, 11), (0, x5), (0, x12), (0, x18)]) (st := []) (a := x16) d_X6_readTry_82 mk_X5_add nl_X6_98 (by omega) ⟨rfl, rfl, Nat.le_of_ble_eq_true rfl⟩ okX5 rfl (L_X5_add q20) ?_
        refine E_iconst d_X6_readTry_85 (c32 rfl) ?_
        cases h
        exact E_zret d_X6_readTry_86 rfl (Or.inr rfl)
noncomputable def f_X6_readTry (v0 : Int) (σ : Mem) : Option (Int × Mem) := if isO Sh 6 v0 = true then f_X6_readTry_b0 v0 σ else none
theorem L_X6_readTry {o : Int × Mem} {v0 : Int} {σ : Mem} (h : f_X6_readTry v0 σ = some o) : (isO Sh 6 v0 = true ∧ Cn mt_X6_readTry 5 [(2, v0)] Sh σ (some (0, o.1)) Sh o.2) := ⟨(ite_ok h).1, Cn_of mk_X6_readTry.1.2.2.1 (Nat.le_of_ble_eq_true rfl) (fun sc => L_X6_readTry_b0 (ite_ok h).2)⟩
theorem d_X6_takeStone_0 : decode mt_X6_takeStone.2.1 0 = .ok (.aload_n 0, 1) := by decide +kernel
theorem d_X6_takeStone_1 : decode mt_X6_takeStone.2.1 1 = .ok (.getfield 22, 3) := by decide +kernel
theorem d_X6_takeStone_4 : decode mt_X6_takeStone.2.1 4 = .ok (.invokevirtual 122, 3) := by decide +kernel
theorem d_X6_takeStone_7 : decode mt_X6_takeStone.2.1 7 = .ok (.ifCond .ne 12, 3) := by decide +kernel
theorem d_X6_takeStone_10 : decode mt_X6_takeStone.2.1 10 = .ok (.aload_n 0, 1) := by decide +kernel
theorem d_X6_takeStone_11 : decode mt_X6_takeStone.2.1 11 = .ok (.getfield 22, 3) := by decide +kernel
theorem d_X6_takeStone_14 : decode mt_X6_takeStone.2.1 14 = .ok (.iconst 2, 1) := by decide +kernel
theorem d_X6_takeStone_15 : decode mt_X6_takeStone.2.1 15 = .ok (.invokevirtual 60, 3) := by decide +kernel
theorem d_X6_takeStone_18 : decode mt_X6_takeStone.2.1 18 = .ok (.ireturn, 1) := by decide +kernel
theorem d_X6_takeStone_19 : decode mt_X6_takeStone.2.1 19 = .ok (.aload_n 0, 1) := by decide +kernel
theorem d_X6_takeStone_20 : decode mt_X6_takeStone.2.1 20 = .ok (.aload_n 0, 1) := by decide +kernel
theorem d_X6_takeStone_21 : decode mt_X6_takeStone.2.1 21 = .ok (.getfield 26, 3) := by decide +kernel
theorem d_X6_takeStone_24 : decode mt_X6_takeStone.2.1 24 = .ok (.aload_n 0, 1) := by decide +kernel
theorem d_X6_takeStone_25 : decode mt_X6_takeStone.2.1 25 = .ok (.getfield 22, 3) := by decide +kernel
theorem d_X6_takeStone_28 : decode mt_X6_takeStone.2.1 28 = .ok (.getfield 125, 3) := by decide +kernel
theorem d_X6_takeStone_31 : decode mt_X6_takeStone.2.1 31 = .ok (.invokevirtual 136, 3) := by decide +kernel
theorem d_X6_takeStone_34 : decode mt_X6_takeStone.2.1 34 = .ok (.putfield 114, 3) := by decide +kernel
theorem d_X6_takeStone_37 : decode mt_X6_takeStone.2.1 37 = .ok (.aload_n 0, 1) := by decide +kernel
theorem d_X6_takeStone_38 : decode mt_X6_takeStone.2.1 38 = .ok (.getfield 114, 3) := by decide +kernel
theorem d_X6_takeStone_41 : decode mt_X6_takeStone.2.1 41 = .ok (.iconst (-1), 1) := by decide +kernel
theorem d_X6_takeStone_42 : decode mt_X6_takeStone.2.1 42 = .ok (.if_icmp .ne 12, 3) := by decide +kernel
theorem d_X6_takeStone_45 : decode mt_X6_takeStone.2.1 45 = .ok (.aload_n 0, 1) := by decide +kernel
theorem d_X6_takeStone_46 : decode mt_X6_takeStone.2.1 46 = .ok (.getfield 22, 3) := by decide +kernel
theorem d_X6_takeStone_49 : decode mt_X6_takeStone.2.1 49 = .ok (.iconst 3, 1) := by decide +kernel
theorem d_X6_takeStone_50 : decode mt_X6_takeStone.2.1 50 = .ok (.invokevirtual 60, 3) := by decide +kernel
theorem d_X6_takeStone_53 : decode mt_X6_takeStone.2.1 53 = .ok (.ireturn, 1) := by decide +kernel
theorem d_X6_takeStone_54 : decode mt_X6_takeStone.2.1 54 = .ok (.aload_n 0, 1) := by decide +kernel
theorem d_X6_takeStone_55 : decode mt_X6_takeStone.2.1 55 = .ok (.getfield 22, 3) := by decide +kernel
theorem d_X6_takeStone_58 : decode mt_X6_takeStone.2.1 58 = .ok (.invokevirtual 67, 3) := by decide +kernel
theorem d_X6_takeStone_61 : decode mt_X6_takeStone.2.1 61 = .ok (.iconst 1, 1) := by decide +kernel
theorem d_X6_takeStone_62 : decode mt_X6_takeStone.2.1 62 = .ok (.ireturn, 1) := by decide +kernel
noncomputable def f_X6_takeStone_b0 (v0 : Int) (σ : Mem) : Option (Int × Mem) :=
  (gf Sh σ 6 v0 0).bind fun x1 =>
  (f_X7_isName x1 σ).bind fun r2 =>
  if r2 = 0 then
    (gf Sh σ 6 v0 0).bind fun x4 =>
    (f_X7_refuse x4 2 σ).bind fun r5 =>
    (bz r5.1).bind fun _ =>
    some (r5.1, r5.2)
  else
    (gf Sh σ 6 v0 1).bind fun x8 =>
    (gf Sh σ 6 v0 0).bind fun x9 =>
    (gf Sh σ 7 x9 6).bind fun x10 =>
    (f_X9_stoneNamed x8 x10 σ).bind fun r11 =>
    (pf Sh σ 6 v0 5 r11).bind fun σ13 =>
    (gf Sh σ13 6 v0 5).bind fun x14 =>
    if x14 = (-1) then
      (gf Sh σ13 6 v0 0).bind fun x15 =>
      (f_X7_refuse x15 3 σ13).bind fun r16 =>
      (bz r16.1).bind fun _ =>
      some (r16.1, r16.2)
    else
      (gf Sh σ13 6 v0 0).bind fun x19 =>
      (f_X7_step x19 σ13).bind fun r20 =>
      some (1, r20)
theorem L_X6_takeStone_b0 {sc : Nat × (Nat → Int32)} {o : Int × Mem} {v0 : Int} {σ : Mem} (h : f_X6_takeStone_b0 v0 σ = some o) : E sc (Fm Sh (some (0, o.1)) Sh o.2) mt_X6_takeStone 4 Sh Sh 0 [(2, v0)] [] Sh σ := by
  unfold f_X6_takeStone_b0 at h
  refine E_aload_n d_X6_takeStone_0 rfl (by decide) ?_
  refine E_get d_X6_takeStone_1 okX6 fl_X6_22 ⟨by decide, rfl⟩ h (fun x1 h => ?_)
  refine bd h (fun r2 q3 h => ?_)
  refine E_cV (as := []) (st := []) (a := x1) d_X6_takeStone_4 mk_X7_isName nl_X6_122 (by omega) ⟨rfl, rfl, Nat.le_of_ble_eq_true rfl⟩ okX7 rfl (L_X7_isName q3) ?_
  refine E_if_ne (tgt := 19) d_X6_takeStone_7 (by decide) h (fun _ h => ?_) (fun _ h => ?_)
  · refine E_aload_n d_X6_takeStone_10 rfl (by decide) ?_
    refine E_get d_X6_takeStone_11 okX6 fl_X6_22 ⟨by decide, rfl⟩ h (fun x4 h => ?_)
    refine E_iconst d_X6_takeStone_14 (c32 rfl) ?_
    refine bd h (fun r5 q6 h => ?_)
    refine E_cV (as := [(0, 2)]) (st := []) (a := x4) d_X6_takeStone_15 mk_X7_refuse nl_X6_60 (by omega) ⟨rfl, rfl, Nat.le_of_ble_eq_true rfl⟩ okX7 rfl (L_X7_refuse q6) ?_
    refine bd_bz h (fun q7 h => ?_)
    cases h
    exact E_zret d_X6_takeStone_18 rfl q7
  · refine E_aload_n d_X6_takeStone_19 rfl (by decide) ?_
    refine E_aload_n d_X6_takeStone_20 rfl (by decide) ?_
    refine E_get d_X6_takeStone_21 okX6 fl_X6_26 ⟨by decide, rfl⟩ h (fun x8 h => ?_)
    refine E_aload_n d_X6_takeStone_24 rfl (by decide) ?_
    refine E_get d_X6_takeStone_25 okX6 fl_X6_22 ⟨by decide, rfl⟩ h (fun x9 h => ?_)
    refine E_get d_X6_takeStone_28 okX7 fl_X6_125 ⟨by decide, rfl⟩ h (fun x10 h => ?_)
    refine bd h (fun r11 q12 h => ?_)
    refine E_cV (as := [(1, x10)]) (st := [(2, v0)]) (a := x8) d_X6_takeStone_31 mk_X9_stoneNamed nl_X6_136 (by omega) ⟨rfl, rfl, Nat.le_of_ble_eq_true rfl⟩ okX9 rfl (L_X9_stoneNamed q12) ?_
    refine E_put d_X6_takeStone_34 okX6 fl_X6_114 ⟨by decide, rfl⟩ (Or.inl ⟨rfl, rfl⟩) (Or.inl rfl) h (fun σ13 h => ?_)
    refine E_aload_n d_X6_takeStone_37 rfl (by decide) ?_
    refine E_get d_X6_takeStone_38 okX6 fl_X6_114 ⟨by decide, rfl⟩ h (fun x14 h => ?_)
    refine E_iconst d_X6_takeStone_41 (c32 rfl) ?_
    refine E_icmp_ne (tgt := 54) d_X6_takeStone_42 (by decide) h (fun _ h => ?_) (fun _ h => ?_)
    · refine E_aload_n d_X6_takeStone_45 rfl (by decide) ?_
      refine E_get d_X6_takeStone_46 okX6 fl_X6_22 ⟨by decide, rfl⟩ h (fun x15 h => ?_)
      refine E_iconst d_X6_takeStone_49 (c32 rfl) ?_
      refine bd h (fun r16 q17 h => ?_)
      refine E_cV (as := [(0, 3)]) (st := []) (a := x15) d_X6_takeStone_50 mk_X7_refuse nl_X6_60 (by omega) ⟨rfl, rfl, Nat.le_of_ble_eq_true rfl⟩ okX7 rfl (L_X7_refuse q17) ?_
      refine bd_bz h (fun q18 h => ?_)
      cases h
      exact E_zret d_X6_takeStone_53 rfl q18
    · refine E_aload_n d_X6_takeStone_54 rfl (by decide) ?_
      refine E_get d_X6_takeStone_55 okX6 fl_X6_22 ⟨by decide, rfl⟩ h (fun x19 h => ?_)
      refine bd h (fun r20 q21 h => ?_)
      refine E_cVv (as := []) (st := []) (a := x19) d_X6_takeStone_58 mk_X7_step nl_X6_67 (by omega) ⟨rfl, rfl, Nat.le_of_ble_eq_true rfl⟩ okX7 rfl (L_X7_step q21) ?_
      refine E_iconst d_X6_takeStone_61 (c32 rfl) ?_
      cases h
      exact E_zret d_X6_takeStone_62 rfl (Or.inr rfl)
noncomputable def f_X6_takeStone (v0 : Int) (σ : Mem) : Option (Int × Mem) := if isO Sh 6 v0 = true then f_X6_takeStone_b0 v0 σ else none
theorem L_X6_takeStone {o : Int × Mem} {v0 : Int} {σ : Mem} (h : f_X6_takeStone v0 σ = some o) : (isO Sh 6 v0 = true ∧ Cn mt_X6_takeStone 4 [(2, v0)] Sh σ (some (0, o.1)) Sh o.2) := ⟨(ite_ok h).1, Cn_of mk_X6_takeStone.1.2.2.1 (Nat.le_of_ble_eq_true rfl) (fun sc => L_X6_takeStone_b0 (ite_ok h).2)⟩
theorem d_X6_readFly_0 : decode mt_X6_readFly.2.1 0 = .ok (.aload_n 0, 1) := by decide +kernel
theorem d_X6_readFly_1 : decode mt_X6_readFly.2.1 1 = .ok (.getfield 22, 3) := by decide +kernel
theorem d_X6_readFly_4 : decode mt_X6_readFly.2.1 4 = .ok (.invokevirtual 122, 3) := by decide +kernel
theorem d_X6_readFly_7 : decode mt_X6_readFly.2.1 7 = .ok (.ifCond .ne 12, 3) := by decide +kernel
theorem d_X6_readFly_10 : decode mt_X6_readFly.2.1 10 = .ok (.aload_n 0, 1) := by decide +kernel
theorem d_X6_readFly_11 : decode mt_X6_readFly.2.1 11 = .ok (.getfield 22, 3) := by decide +kernel
theorem d_X6_readFly_14 : decode mt_X6_readFly.2.1 14 = .ok (.iconst 2, 1) := by decide +kernel
theorem d_X6_readFly_15 : decode mt_X6_readFly.2.1 15 = .ok (.invokevirtual 60, 3) := by decide +kernel
theorem d_X6_readFly_18 : decode mt_X6_readFly.2.1 18 = .ok (.ireturn, 1) := by decide +kernel
theorem d_X6_readFly_19 : decode mt_X6_readFly.2.1 19 = .ok (.aload_n 0, 1) := by decide +kernel
theorem d_X6_readFly_20 : decode mt_X6_readFly.2.1 20 = .ok (.getfield 26, 3) := by decide +kernel
theorem d_X6_readFly_23 : decode mt_X6_readFly.2.1 23 = .ok (.aload_n 0, 1) := by decide +kernel
theorem d_X6_readFly_24 : decode mt_X6_readFly.2.1 24 = .ok (.getfield 22, 3) := by decide +kernel
theorem d_X6_readFly_27 : decode mt_X6_readFly.2.1 27 = .ok (.getfield 125, 3) := by decide +kernel
theorem d_X6_readFly_30 : decode mt_X6_readFly.2.1 30 = .ok (.invokevirtual 129, 3) := by decide +kernel
theorem d_X6_readFly_33 : decode mt_X6_readFly.2.1 33 = .ok (.istore_n 1, 1) := by decide +kernel
theorem d_X6_readFly_34 : decode mt_X6_readFly.2.1 34 = .ok (.iload_n 1, 1) := by decide +kernel
theorem d_X6_readFly_35 : decode mt_X6_readFly.2.1 35 = .ok (.iconst (-1), 1) := by decide +kernel
theorem d_X6_readFly_36 : decode mt_X6_readFly.2.1 36 = .ok (.if_icmp .ne 12, 3) := by decide +kernel
theorem d_X6_readFly_39 : decode mt_X6_readFly.2.1 39 = .ok (.aload_n 0, 1) := by decide +kernel
theorem d_X6_readFly_40 : decode mt_X6_readFly.2.1 40 = .ok (.getfield 22, 3) := by decide +kernel
theorem d_X6_readFly_43 : decode mt_X6_readFly.2.1 43 = .ok (.iconst 3, 1) := by decide +kernel
theorem d_X6_readFly_44 : decode mt_X6_readFly.2.1 44 = .ok (.invokevirtual 60, 3) := by decide +kernel
theorem d_X6_readFly_47 : decode mt_X6_readFly.2.1 47 = .ok (.ireturn, 1) := by decide +kernel
theorem d_X6_readFly_48 : decode mt_X6_readFly.2.1 48 = .ok (.aload_n 0, 1) := by decide +kernel
theorem d_X6_readFly_49 : decode mt_X6_readFly.2.1 49 = .ok (.getfield 22, 3) := by decide +kernel
theorem d_X6_readFly_52 : decode mt_X6_readFly.2.1 52 = .ok (.invokevirtual 67, 3) := by decide +kernel
theorem d_X6_readFly_55 : decode mt_X6_readFly.2.1 55 = .ok (.aload_n 0, 1) := by decide +kernel
theorem d_X6_readFly_56 : decode mt_X6_readFly.2.1 56 = .ok (.invokevirtual 111, 3) := by decide +kernel
theorem d_X6_readFly_59 : decode mt_X6_readFly.2.1 59 = .ok (.ifCond .ne 5, 3) := by decide +kernel
theorem d_X6_readFly_62 : decode mt_X6_readFly.2.1 62 = .ok (.iconst 0, 1) := by decide +kernel
theorem d_X6_readFly_63 : decode mt_X6_readFly.2.1 63 = .ok (.ireturn, 1) := by decide +kernel
theorem d_X6_readFly_64 : decode mt_X6_readFly.2.1 64 = .ok (.aload_n 0, 1) := by decide +kernel
theorem d_X6_readFly_65 : decode mt_X6_readFly.2.1 65 = .ok (.getfield 12, 3) := by decide +kernel
theorem d_X6_readFly_68 : decode mt_X6_readFly.2.1 68 = .ok (.bipush 15, 2) := by decide +kernel
theorem d_X6_readFly_70 : decode mt_X6_readFly.2.1 70 = .ok (.iload_n 1, 1) := by decide +kernel
theorem d_X6_readFly_71 : decode mt_X6_readFly.2.1 71 = .ok (.aload_n 0, 1) := by decide +kernel
theorem d_X6_readFly_72 : decode mt_X6_readFly.2.1 72 = .ok (.getfield 114, 3) := by decide +kernel
theorem d_X6_readFly_75 : decode mt_X6_readFly.2.1 75 = .ok (.iconst 0, 1) := by decide +kernel
theorem d_X6_readFly_76 : decode mt_X6_readFly.2.1 76 = .ok (.invokevirtual 98, 3) := by decide +kernel
theorem d_X6_readFly_79 : decode mt_X6_readFly.2.1 79 = .ok (.iconst 1, 1) := by decide +kernel
theorem d_X6_readFly_80 : decode mt_X6_readFly.2.1 80 = .ok (.ireturn, 1) := by decide +kernel
noncomputable def f_X6_readFly_b0 (v0 : Int) (σ : Mem) : Option (Int × Mem) :=
  (gf Sh σ 6 v0 0).bind fun x1 =>
  (f_X7_isName x1 σ).bind fun r2 =>
  if r2 = 0 then
    (gf Sh σ 6 v0 0).bind fun x4 =>
    (f_X7_refuse x4 2 σ).bind fun r5 =>
    (bz r5.1).bind fun _ =>
    some (r5.1, r5.2)
  else
    (gf Sh σ 6 v0 1).bind fun x8 =>
    (gf Sh σ 6 v0 0).bind fun x9 =>
    (gf Sh σ 7 x9 6).bind fun x10 =>
    (f_X9_crowNamed x8 x10 σ).bind fun r11 =>
    if r11 = (-1) then
      (gf Sh σ 6 v0 0).bind fun x13 =>
      (f_X7_refuse x13 3 σ).bind fun r14 =>
      (bz r14.1).bind fun _ =>
      some (r14.1, r14.2)
    else
      (gf Sh σ 6 v0 0).bind fun x17 =>
      (f_X7_step x17 σ).bind fun r18 =>
      (f_X6_takeStone v0 r18).bind fun r20 =>
      if r20.1 = 0 then
        some (0, r20.2)
      else
        (gf Sh r20.2 6 v0 2).bind fun x22 =>
        (gf Sh r20.2 6 v0 5).bind fun x23 =>
        (f_X5_add x22 15 r11 x23 0 r20.2).bind fun r24 =>
        some (1, r24)
theorem L_X6_readFly_b0 {sc : Nat × (Nat → Int32)} {o : Int × Mem} {v0 : Int} {σ : Mem} (h : f_X6_readFly_b0 v0 σ = some o) : E sc (Fm Sh (some (0, o.1)) Sh o.2) mt_X6_readFly 5 Sh Sh 0 [(2, v0), (9, 0)] [] Sh σ := by
  unfold f_X6_readFly_b0 at h
  refine E_aload_n d_X6_readFly_0 rfl (by decide) ?_
  refine E_get d_X6_readFly_1 okX6 fl_X6_22 ⟨by decide, rfl⟩ h (fun x1 h => ?_)
  refine bd h (fun r2 q3 h => ?_)
  refine E_cV (as := []) (st := []) (a := x1) d_X6_readFly_4 mk_X7_isName nl_X6_122 (by omega) ⟨rfl, rfl, Nat.le_of_ble_eq_true rfl⟩ okX7 rfl (L_X7_isName q3) ?_
  refine E_if_ne (tgt := 19) d_X6_readFly_7 (by decide) h (fun _ h => ?_) (fun _ h => ?_)
  · refine E_aload_n d_X6_readFly_10 rfl (by decide) ?_
    refine E_get d_X6_readFly_11 okX6 fl_X6_22 ⟨by decide, rfl⟩ h (fun x4 h => ?_)
    refine E_iconst d_X6_readFly_14 (c32 rfl) ?_
    refine bd h (fun r5 q6 h => ?_)
    refine E_cV (as := [(0, 2)]) (st := []) (a := x4) d_X6_readFly_15 mk_X7_refuse nl_X6_60 (by omega) ⟨rfl, rfl, Nat.le_of_ble_eq_true rfl⟩ okX7 rfl (L_X7_refuse q6) ?_
    refine bd_bz h (fun q7 h => ?_)
    cases h
    exact E_zret d_X6_readFly_18 rfl q7
  · refine E_aload_n d_X6_readFly_19 rfl (by decide) ?_
    refine E_get d_X6_readFly_20 okX6 fl_X6_26 ⟨by decide, rfl⟩ h (fun x8 h => ?_)
    refine E_aload_n d_X6_readFly_23 rfl (by decide) ?_
    refine E_get d_X6_readFly_24 okX6 fl_X6_22 ⟨by decide, rfl⟩ h (fun x9 h => ?_)
    refine E_get d_X6_readFly_27 okX7 fl_X6_125 ⟨by decide, rfl⟩ h (fun x10 h => ?_)
    refine bd h (fun r11 q12 h => ?_)
    refine E_cV (as := [(1, x10)]) (st := []) (a := x8) d_X6_readFly_30 mk_X9_crowNamed nl_X6_129 (by omega) ⟨rfl, rfl, Nat.le_of_ble_eq_true rfl⟩ okX9 rfl (L_X9_crowNamed q12) ?_
    refine E_istore_n d_X6_readFly_33 (ls' := [(2, v0), (0, r11)]) ⟨by decide, rfl⟩ ?_
    refine E_iload_n d_X6_readFly_34 rfl ?_
    refine E_iconst d_X6_readFly_35 (c32 rfl) ?_
    refine E_icmp_ne (tgt := 48) d_X6_readFly_36 (by decide) h (fun _ h => ?_) (fun _ h => ?_)
    · refine E_aload_n d_X6_readFly_39 rfl (by decide) ?_
      refine E_get d_X6_readFly_40 okX6 fl_X6_22 ⟨by decide, rfl⟩ h (fun x13 h => ?_)
      refine E_iconst d_X6_readFly_43 (c32 rfl) ?_
      refine bd h (fun r14 q15 h => ?_)
      refine E_cV (as := [(0, 3)]) (st := []) (a := x13) d_X6_readFly_44 mk_X7_refuse nl_X6_60 (by omega) ⟨rfl, rfl, Nat.le_of_ble_eq_true rfl⟩ okX7 rfl (L_X7_refuse q15) ?_
      refine bd_bz h (fun q16 h => ?_)
      cases h
      exact E_zret d_X6_readFly_47 rfl q16
    · refine E_aload_n d_X6_readFly_48 rfl (by decide) ?_
      refine E_get d_X6_readFly_49 okX6 fl_X6_22 ⟨by decide, rfl⟩ h (fun x17 h => ?_)
      refine bd h (fun r18 q19 h => ?_)
      refine E_cVv (as := []) (st := []) (a := x17) d_X6_readFly_52 mk_X7_step nl_X6_67 (by omega) ⟨rfl, rfl, Nat.le_of_ble_eq_true rfl⟩ okX7 rfl (L_X7_step q19) ?_
      refine E_aload_n d_X6_readFly_55 rfl (by decide) ?_
      refine bd h (fun r20 q21 h => ?_)
      refine E_cV (as := []) (st := []) (a := v0) d_X6_readFly_56 mk_X6_takeStone nl_X6_111 (by omega) ⟨rfl, rfl, Nat.le_of_ble_eq_true rfl⟩ okX6 rfl (L_X6_takeStone q21) ?_
      refine E_if_ne (tgt := 64) d_X6_readFly_59 (by decide) h (fun _ h => ?_) (fun _ h => ?_)
      · refine E_iconst d_X6_readFly_62 (c32 rfl) ?_
        cases h
        exact E_zret d_X6_readFly_63 rfl (Or.inl rfl)
      · refine E_aload_n d_X6_readFly_64 rfl (by decide) ?_
        refine E_get d_X6_readFly_65 okX6 fl_X6_12 ⟨by decide, rfl⟩ h (fun x22 h => ?_)
        refine E_bipush d_X6_readFly_68 (c8 rfl) ?_
        refine E_iload_n d_X6_readFly_70 rfl ?_
        refine E_aload_n d_X6_readFly_71 rfl (by decide) ?_
        refine E_get d_X6_readFly_72 okX6 fl_X6_114 ⟨by decide, rfl⟩ h (fun x23 h => ?_)
        refine E_iconst d_X6_readFly_75 (c32 rfl) ?_
        refine bd h (fun r24 q25 h => ?_)
        refine E_cVv (as := [(0, 15), (0, r11), (0, x23), (0, 0)]) (st := []) (a := x22) d_X6_readFly_76 mk_X5_add nl_X6_98 (by omega) ⟨rfl, rfl, Nat.le_of_ble_eq_true rfl⟩ okX5 rfl (L_X5_add q25) ?_
        refine E_iconst d_X6_readFly_79 (c32 rfl) ?_
        cases h
        exact E_zret d_X6_readFly_80 rfl (Or.inr rfl)
noncomputable def f_X6_readFly (v0 : Int) (σ : Mem) : Option (Int × Mem) := if isO Sh 6 v0 = true then f_X6_readFly_b0 v0 σ else none
theorem L_X6_readFly {o : Int × Mem} {v0 : Int} {σ : Mem} (h : f_X6_readFly v0 σ = some o) : (isO Sh 6 v0 = true ∧ Cn mt_X6_readFly 5 [(2, v0)] Sh σ (some (0, o.1)) Sh o.2) := ⟨(ite_ok h).1, Cn_of mk_X6_readFly.1.2.2.1 (Nat.le_of_ble_eq_true rfl) (fun sc => L_X6_readFly_b0 (ite_ok h).2)⟩
theorem d_X7_takeComparison_0 : decode mt_X7_takeComparison.2.1 0 = .ok (.aload_n 0, 1) := by decide +kernel
theorem d_X7_takeComparison_1 : decode mt_X7_takeComparison.2.1 1 = .ok (.getfield 57, 3) := by decide +kernel
theorem d_X7_takeComparison_4 : decode mt_X7_takeComparison.2.1 4 = .ok (.iconst 4, 1) := by decide +kernel
theorem d_X7_takeComparison_5 : decode mt_X7_takeComparison.2.1 5 = .ok (.if_icmp .ne 12, 3) := by decide +kernel
theorem d_X7_takeComparison_8 : decode mt_X7_takeComparison.2.1 8 = .ok (.aload_n 0, 1) := by decide +kernel
theorem d_X7_takeComparison_9 : decode mt_X7_takeComparison.2.1 9 = .ok (.getfield 89, 3) := by decide +kernel
theorem d_X7_takeComparison_12 : decode mt_X7_takeComparison.2.1 12 = .ok (.bipush 59, 2) := by decide +kernel
theorem d_X7_takeComparison_14 : decode mt_X7_takeComparison.2.1 14 = .ok (.if_icmp .ne 9, 3) := by decide +kernel
theorem d_X7_takeComparison_17 : decode mt_X7_takeComparison.2.1 17 = .ok (.aload_n 0, 1) := by decide +kernel
theorem d_X7_takeComparison_18 : decode mt_X7_takeComparison.2.1 18 = .ok (.iconst 2, 1) := by decide +kernel
theorem d_X7_takeComparison_19 : decode mt_X7_takeComparison.2.1 19 = .ok (.invokevirtual 95, 3) := by decide +kernel
theorem d_X7_takeComparison_22 : decode mt_X7_takeComparison.2.1 22 = .ok (.ireturn, 1) := by decide +kernel
theorem d_X7_takeComparison_23 : decode mt_X7_takeComparison.2.1 23 = .ok (.aload_n 0, 1) := by decide +kernel
theorem d_X7_takeComparison_24 : decode mt_X7_takeComparison.2.1 24 = .ok (.aload_n 0, 1) := by decide +kernel
theorem d_X7_takeComparison_25 : decode mt_X7_takeComparison.2.1 25 = .ok (.getfield 89, 3) := by decide +kernel
theorem d_X7_takeComparison_28 : decode mt_X7_takeComparison.2.1 28 = .ok (.putfield 101, 3) := by decide +kernel
theorem d_X7_takeComparison_31 : decode mt_X7_takeComparison.2.1 31 = .ok (.aload_n 0, 1) := by decide +kernel
theorem d_X7_takeComparison_32 : decode mt_X7_takeComparison.2.1 32 = .ok (.invokevirtual 51, 3) := by decide +kernel
theorem d_X7_takeComparison_35 : decode mt_X7_takeComparison.2.1 35 = .ok (.iconst 1, 1) := by decide +kernel
theorem d_X7_takeComparison_36 : decode mt_X7_takeComparison.2.1 36 = .ok (.ireturn, 1) := by decide +kernel
noncomputable def f_X7_takeComparison_b17 (v0 : Int) (σ : Mem) : Option (Int × Mem) :=
  (f_X7_refuse v0 2 σ).bind fun r7 =>
  (bz r7.1).bind fun _ =>
  some (r7.1, r7.2)
theorem L_X7_takeComparison_b17 {sc : Nat × (Nat → Int32)} {o : Int × Mem} {v0 : Int} {σ : Mem} (h : f_X7_takeComparison_b17 v0 σ = some o) : E sc (Fm Sh (some (0, o.1)) Sh o.2) mt_X7_takeComparison 4 Sh Sh 17 [(2, v0)] [] Sh σ := by
  unfold f_X7_takeComparison_b17 at h
  refine E_aload_n d_X7_takeComparison_17 rfl (by decide) ?_
  refine E_iconst d_X7_takeComparison_18 (c32 rfl) ?_
  refine bd h (fun r7 q8 h => ?_)
  refine E_cV (as := [(0, 2)]) (st := []) (a := v0) d_X7_takeComparison_19 mk_X7_refuse nl_X7_95 (by omega) ⟨rfl, rfl, Nat.le_of_ble_eq_true rfl⟩ okX7 rfl (L_X7_refuse q8) ?_
  refine bd_bz h (fun q9 h => ?_)
  cases h
  exact E_zret d_X7_takeComparison_22 rfl q9
noncomputable def f_X7_takeComparison_b0 (v0 : Int) (σ : Mem) : Option (Int × Mem) :=
  (gf Sh σ 7 v0 4).bind fun x1 =>
  if x1 = 4 then
    (gf Sh σ 7 v0 8).bind fun x2 =>
    if x2 = 59 then
      f_X7_takeComparison_b17 v0 σ
    else
      (gf Sh σ 7 v0 8).bind fun x3 =>
      (pf Sh σ 7 v0 9 x3).bind fun σ4 =>
      (f_X7_step v0 σ4).bind fun r5 =>
      some (1, r5)
  else
    f_X7_takeComparison_b17 v0 σ
theorem L_X7_takeComparison_b0 {sc : Nat × (Nat → Int32)} {o : Int × Mem} {v0 : Int} {σ : Mem} (h : f_X7_takeComparison_b0 v0 σ = some o) : E sc (Fm Sh (some (0, o.1)) Sh o.2) mt_X7_takeComparison 4 Sh Sh 0 [(2, v0)] [] Sh σ := by
  unfold f_X7_takeComparison_b0 at h
  refine E_aload_n d_X7_takeComparison_0 rfl (by decide) ?_
  refine E_get d_X7_takeComparison_1 okX7 fl_X7_57 ⟨by decide, rfl⟩ h (fun x1 h => ?_)
  refine E_iconst d_X7_takeComparison_4 (c32 rfl) ?_
  refine E_icmp_ne (tgt := 17) d_X7_takeComparison_5 (by decide) h (fun _ h => ?_) (fun _ h => ?_)
  · refine E_aload_n d_X7_takeComparison_8 rfl (by decide) ?_
    refine E_get d_X7_takeComparison_9 okX7 fl_X7_89 ⟨by decide, rfl⟩ h (fun x2 h => ?_)
    refine E_bipush d_X7_takeComparison_12 (c8 rfl) ?_
    refine E_icmp_ne (tgt := 23) d_X7_takeComparison_14 (by decide) h (fun _ h => ?_) (fun _ h => ?_)
    · exact (L_X7_takeComparison_b17 h)
    · refine E_aload_n d_X7_takeComparison_23 rfl (by decide) ?_
      refine E_aload_n d_X7_takeComparison_24 rfl (by decide) ?_
      refine E_get d_X7_takeComparison_25 okX7 fl_X7_89 ⟨by decide, rfl⟩ h (fun x3 h => ?_)
      refine E_put d_X7_takeComparison_28 okX7 fl_X7_101 ⟨by decide, rfl⟩ (Or.inl ⟨rfl, rfl⟩) (Or.inl rfl) h (fun σ4 h => ?_)
      refine E_aload_n d_X7_takeComparison_31 rfl (by decide) ?_
      refine bd h (fun r5 q6 h => ?_)
      refine E_cVv (as := []) (st := []) (a := v0) d_X7_takeComparison_32 mk_X7_step nl_X7_51 (by omega) ⟨rfl, rfl, Nat.le_of_ble_eq_true rfl⟩ okX7 rfl (L_X7_step q6) ?_
      refine E_iconst d_X7_takeComparison_35 (c32 rfl) ?_
      cases h
      exact E_zret d_X7_takeComparison_36 rfl (Or.inr rfl)
  · exact (L_X7_takeComparison_b17 h)
noncomputable def f_X7_takeComparison (v0 : Int) (σ : Mem) : Option (Int × Mem) := if isO Sh 7 v0 = true then f_X7_takeComparison_b0 v0 σ else none
theorem L_X7_takeComparison {o : Int × Mem} {v0 : Int} {σ : Mem} (h : f_X7_takeComparison v0 σ = some o) : (isO Sh 7 v0 = true ∧ Cn mt_X7_takeComparison 4 [(2, v0)] Sh σ (some (0, o.1)) Sh o.2) := ⟨(ite_ok h).1, Cn_of mk_X7_takeComparison.1.2.2.1 (Nat.le_of_ble_eq_true rfl) (fun sc => L_X7_takeComparison_b0 (ite_ok h).2)⟩
theorem d_X6_readTest_0 : decode mt_X6_readTest.2.1 0 = .ok (.aload_n 0, 1) := by decide +kernel
theorem d_X6_readTest_1 : decode mt_X6_readTest.2.1 1 = .ok (.getfield 22, 3) := by decide +kernel
theorem d_X6_readTest_4 : decode mt_X6_readTest.2.1 4 = .ok (.bipush 18, 2) := by decide +kernel
theorem d_X6_readTest_6 : decode mt_X6_readTest.2.1 6 = .ok (.invokevirtual 47, 3) := by decide +kernel
theorem d_X6_readTest_9 : decode mt_X6_readTest.2.1 9 = .ok (.istore_n 1, 1) := by decide +kernel
theorem d_X6_readTest_10 : decode mt_X6_readTest.2.1 10 = .ok (.aload_n 0, 1) := by decide +kernel
theorem d_X6_readTest_11 : decode mt_X6_readTest.2.1 11 = .ok (.getfield 22, 3) := by decide +kernel
theorem d_X6_readTest_14 : decode mt_X6_readTest.2.1 14 = .ok (.iconst 3, 1) := by decide +kernel
theorem d_X6_readTest_15 : decode mt_X6_readTest.2.1 15 = .ok (.invokevirtual 47, 3) := by decide +kernel
theorem d_X6_readTest_18 : decode mt_X6_readTest.2.1 18 = .ok (.istore_n 2, 1) := by decide +kernel
theorem d_X6_readTest_19 : decode mt_X6_readTest.2.1 19 = .ok (.iload_n 1, 1) := by decide +kernel
theorem d_X6_readTest_20 : decode mt_X6_readTest.2.1 20 = .ok (.ifCond .ne 28, 3) := by decide +kernel
theorem d_X6_readTest_23 : decode mt_X6_readTest.2.1 23 = .ok (.iload_n 2, 1) := by decide +kernel
theorem d_X6_readTest_24 : decode mt_X6_readTest.2.1 24 = .ok (.ifCond .ne 24, 3) := by decide +kernel
theorem d_X6_readTest_27 : decode mt_X6_readTest.2.1 27 = .ok (.aload_n 0, 1) := by decide +kernel
theorem d_X6_readTest_28 : decode mt_X6_readTest.2.1 28 = .ok (.getfield 22, 3) := by decide +kernel
theorem d_X6_readTest_31 : decode mt_X6_readTest.2.1 31 = .ok (.bipush 19, 2) := by decide +kernel
theorem d_X6_readTest_33 : decode mt_X6_readTest.2.1 33 = .ok (.invokevirtual 47, 3) := by decide +kernel
theorem d_X6_readTest_36 : decode mt_X6_readTest.2.1 36 = .ok (.ifCond .ne 12, 3) := by decide +kernel
theorem d_X6_readTest_39 : decode mt_X6_readTest.2.1 39 = .ok (.aload_n 0, 1) := by decide +kernel
theorem d_X6_readTest_40 : decode mt_X6_readTest.2.1 40 = .ok (.getfield 22, 3) := by decide +kernel
theorem d_X6_readTest_43 : decode mt_X6_readTest.2.1 43 = .ok (.iconst 2, 1) := by decide +kernel
theorem d_X6_readTest_44 : decode mt_X6_readTest.2.1 44 = .ok (.invokevirtual 60, 3) := by decide +kernel
theorem d_X6_readTest_47 : decode mt_X6_readTest.2.1 47 = .ok (.ireturn, 1) := by decide +kernel
theorem d_X6_readTest_48 : decode mt_X6_readTest.2.1 48 = .ok (.aload_n 0, 1) := by decide +kernel
theorem d_X6_readTest_49 : decode mt_X6_readTest.2.1 49 = .ok (.getfield 22, 3) := by decide +kernel
theorem d_X6_readTest_52 : decode mt_X6_readTest.2.1 52 = .ok (.getfield 82, 3) := by decide +kernel
theorem d_X6_readTest_55 : decode mt_X6_readTest.2.1 55 = .ok (.istore_n 3, 1) := by decide +kernel
theorem d_X6_readTest_56 : decode mt_X6_readTest.2.1 56 = .ok (.aload_n 0, 1) := by decide +kernel
theorem d_X6_readTest_57 : decode mt_X6_readTest.2.1 57 = .ok (.getfield 22, 3) := by decide +kernel
theorem d_X6_readTest_60 : decode mt_X6_readTest.2.1 60 = .ok (.invokevirtual 67, 3) := by decide +kernel
theorem d_X6_readTest_63 : decode mt_X6_readTest.2.1 63 = .ok (.aload_n 0, 1) := by decide +kernel
theorem d_X6_readTest_64 : decode mt_X6_readTest.2.1 64 = .ok (.invokevirtual 111, 3) := by decide +kernel
theorem d_X6_readTest_67 : decode mt_X6_readTest.2.1 67 = .ok (.ifCond .eq 41, 3) := by decide +kernel
theorem d_X6_readTest_70 : decode mt_X6_readTest.2.1 70 = .ok (.iload_n 1, 1) := by decide +kernel
theorem d_X6_readTest_71 : decode mt_X6_readTest.2.1 71 = .ok (.ifCond .eq 23, 3) := by decide +kernel
theorem d_X6_readTest_74 : decode mt_X6_readTest.2.1 74 = .ok (.aload_n 0, 1) := by decide +kernel
theorem d_X6_readTest_75 : decode mt_X6_readTest.2.1 75 = .ok (.getfield 22, 3) := by decide +kernel
theorem d_X6_readTest_78 : decode mt_X6_readTest.2.1 78 = .ok (.iconst 0, 1) := by decide +kernel
theorem d_X6_readTest_79 : decode mt_X6_readTest.2.1 79 = .ok (.aload_n 0, 1) := by decide +kernel
theorem d_X6_readTest_80 : decode mt_X6_readTest.2.1 80 = .ok (.getfield 26, 3) := by decide +kernel
theorem d_X6_readTest_83 : decode mt_X6_readTest.2.1 83 = .ok (.getfield 117, 3) := by decide +kernel
theorem d_X6_readTest_86 : decode mt_X6_readTest.2.1 86 = .ok (.iconst 1, 1) := by decide +kernel
theorem d_X6_readTest_87 : decode mt_X6_readTest.2.1 87 = .ok (.isub, 1) := by decide +kernel
theorem d_X6_readTest_88 : decode mt_X6_readTest.2.1 88 = .ok (.invokevirtual 105, 3) := by decide +kernel
theorem d_X6_readTest_91 : decode mt_X6_readTest.2.1 91 = .ok (.ifCond .eq 17, 3) := by decide +kernel
theorem d_X6_readTest_94 : decode mt_X6_readTest.2.1 94 = .ok (.iload_n 2, 1) := by decide +kernel
theorem d_X6_readTest_95 : decode mt_X6_readTest.2.1 95 = .ok (.ifCond .eq 15, 3) := by decide +kernel
theorem d_X6_readTest_98 : decode mt_X6_readTest.2.1 98 = .ok (.aload_n 0, 1) := by decide +kernel
theorem d_X6_readTest_99 : decode mt_X6_readTest.2.1 99 = .ok (.getfield 22, 3) := by decide +kernel
theorem d_X6_readTest_102 : decode mt_X6_readTest.2.1 102 = .ok (.invokevirtual 133, 3) := by decide +kernel
theorem d_X6_readTest_105 : decode mt_X6_readTest.2.1 105 = .ok (.ifCond .ne 5, 3) := by decide +kernel
theorem d_X6_readTest_108 : decode mt_X6_readTest.2.1 108 = .ok (.iconst 0, 1) := by decide +kernel
theorem d_X6_readTest_109 : decode mt_X6_readTest.2.1 109 = .ok (.ireturn, 1) := by decide +kernel
theorem d_X6_readTest_110 : decode mt_X6_readTest.2.1 110 = .ok (.aload_n 0, 1) := by decide +kernel
theorem d_X6_readTest_111 : decode mt_X6_readTest.2.1 111 = .ok (.getfield 22, 3) := by decide +kernel
theorem d_X6_readTest_114 : decode mt_X6_readTest.2.1 114 = .ok (.getfield 108, 3) := by decide +kernel
theorem d_X6_readTest_117 : decode mt_X6_readTest.2.1 117 = .ok (.istore 4, 2) := by decide +kernel
theorem d_X6_readTest_119 : decode mt_X6_readTest.2.1 119 = .ok (.iload_n 1, 1) := by decide +kernel
theorem d_X6_readTest_120 : decode mt_X6_readTest.2.1 120 = .ok (.ifCond .eq 16, 3) := by decide +kernel
theorem d_X6_readTest_123 : decode mt_X6_readTest.2.1 123 = .ok (.aload_n 0, 1) := by decide +kernel
theorem d_X6_readTest_124 : decode mt_X6_readTest.2.1 124 = .ok (.getfield 22, 3) := by decide +kernel
theorem d_X6_readTest_127 : decode mt_X6_readTest.2.1 127 = .ok (.iconst 0, 1) := by decide +kernel
theorem d_X6_readTest_128 : decode mt_X6_readTest.2.1 128 = .ok (.bipush 99, 2) := by decide +kernel
theorem d_X6_readTest_130 : decode mt_X6_readTest.2.1 130 = .ok (.invokevirtual 105, 3) := by decide +kernel
theorem d_X6_readTest_133 : decode mt_X6_readTest.2.1 133 = .ok (.ifCond .eq 20, 3) := by decide +kernel
theorem d_X6_readTest_136 : decode mt_X6_readTest.2.1 136 = .ok (.iload_n 2, 1) := by decide +kernel
theorem d_X6_readTest_137 : decode mt_X6_readTest.2.1 137 = .ok (.ifCond .eq 18, 3) := by decide +kernel
theorem d_X6_readTest_140 : decode mt_X6_readTest.2.1 140 = .ok (.aload_n 0, 1) := by decide +kernel
theorem d_X6_readTest_141 : decode mt_X6_readTest.2.1 141 = .ok (.getfield 22, 3) := by decide +kernel
theorem d_X6_readTest_144 : decode mt_X6_readTest.2.1 144 = .ok (.iconst 0, 1) := by decide +kernel
theorem d_X6_readTest_145 : decode mt_X6_readTest.2.1 145 = .ok (.bipush 9, 2) := by decide +kernel
theorem d_X6_readTest_147 : decode mt_X6_readTest.2.1 147 = .ok (.invokevirtual 105, 3) := by decide +kernel
theorem d_X6_readTest_150 : decode mt_X6_readTest.2.1 150 = .ok (.ifCond .ne 5, 3) := by decide +kernel
theorem d_X6_readTest_153 : decode mt_X6_readTest.2.1 153 = .ok (.iconst 0, 1) := by decide +kernel
theorem d_X6_readTest_154 : decode mt_X6_readTest.2.1 154 = .ok (.ireturn, 1) := by decide +kernel
theorem d_X6_readTest_155 : decode mt_X6_readTest.2.1 155 = .ok (.aload_n 0, 1) := by decide +kernel
theorem d_X6_readTest_156 : decode mt_X6_readTest.2.1 156 = .ok (.getfield 12, 3) := by decide +kernel
theorem d_X6_readTest_159 : decode mt_X6_readTest.2.1 159 = .ok (.iload_n 3, 1) := by decide +kernel
theorem d_X6_readTest_160 : decode mt_X6_readTest.2.1 160 = .ok (.aload_n 0, 1) := by decide +kernel
theorem d_X6_readTest_161 : decode mt_X6_readTest.2.1 161 = .ok (.getfield 114, 3) := by decide +kernel
theorem d_X6_readTest_164 : decode mt_X6_readTest.2.1 164 = .ok (.iload 4, 2) := by decide +kernel
theorem d_X6_readTest_166 : decode mt_X6_readTest.2.1 166 = .ok (.aload_n 0, 1) := by decide +kernel
theorem d_X6_readTest_167 : decode mt_X6_readTest.2.1 167 = .ok (.getfield 22, 3) := by decide +kernel
theorem d_X6_readTest_170 : decode mt_X6_readTest.2.1 170 = .ok (.getfield 108, 3) := by decide +kernel
theorem d_X6_readTest_173 : decode mt_X6_readTest.2.1 173 = .ok (.invokevirtual 98, 3) := by decide +kernel
theorem d_X6_readTest_176 : decode mt_X6_readTest.2.1 176 = .ok (.iconst 1, 1) := by decide +kernel
theorem d_X6_readTest_177 : decode mt_X6_readTest.2.1 177 = .ok (.ireturn, 1) := by decide +kernel
noncomputable def f_X6_readTest_b155 (v0 v3 v4 : Int) (σ : Mem) : Option (Int × Mem) :=
  (gf Sh σ 6 v0 2).bind fun x37 =>
  (gf Sh σ 6 v0 5).bind fun x38 =>
  (gf Sh σ 6 v0 0).bind fun x39 =>
  (gf Sh σ 7 x39 9).bind fun x40 =>
  (f_X5_add x37 v3 x38 v4 x40 σ).bind fun r41 =>
  some (1, r41)
theorem L_X6_readTest_b155 {sc : Nat × (Nat → Int32)} {o : Int × Mem} {v0 v3 v4 : Int} {σ : Mem} (h : f_X6_readTest_b155 v0 v3 v4 σ = some o) : E sc (Fm Sh (some (0, o.1)) Sh o.2) mt_X6_readTest 5 Sh Sh 155 [(2, v0), (9, 0), (9, 0), (0, v3), (0, v4)] [] Sh σ := by
  unfold f_X6_readTest_b155 at h
  refine E_aload_n d_X6_readTest_155 rfl (by decide) ?_
  refine E_get d_X6_readTest_156 okX6 fl_X6_12 ⟨by decide, rfl⟩ h (fun x37 h => ?_)
  refine E_iload_n d_X6_readTest_159 rfl ?_
  refine E_aload_n d_X6_readTest_160 rfl (by decide) ?_
  refine E_get d_X6_readTest_161 okX6 fl_X6_114 ⟨by decide, rfl⟩ h (fun x38 h => ?_)
  refine E_iload d_X6_readTest_164 rfl ?_
  refine E_aload_n d_X6_readTest_166 rfl (by decide) ?_
  refine E_get d_X6_readTest_167 okX6 fl_X6_22 ⟨by decide, rfl⟩ h (fun x39 h => ?_)
  refine E_get d_X6_readTest_170 okX7 fl_X6_108 ⟨by decide, rfl⟩ h (fun x40 h => ?_)
  refine bd h (fun r41 q42 h => ?_)
  refine E_cVv (as := [(0, v3), (0, x38), (0, v4), (0, x40)]) (st := []) (a := x37) d_X6_readTest_173 mk_X5_add nl_X6_98 (by omega) ⟨rfl, rfl, Nat.le_of_ble_eq_true rfl⟩ okX5 rfl (L_X5_add q42) ?_
  refine E_iconst d_X6_readTest_176 (c32 rfl) ?_
  cases h
  exact E_zret d_X6_readTest_177 rfl (Or.inr rfl)
noncomputable def f_X6_readTest_b136 (v0 v2 v3 v4 : Int) (σ : Mem) : Option (Int × Mem) :=
  if v2 = 0 then
    f_X6_readTest_b155 v0 v3 v4 σ
  else
    (gf Sh σ 6 v0 0).bind fun x34 =>
    (f_X7_takeNumber x34 0 9 σ).bind fun r35 =>
    if r35.1 = 0 then
      some (0, r35.2)
    else
      f_X6_readTest_b155 v0 v3 v4 r35.2
theorem L_X6_readTest_b136 {sc : Nat × (Nat → Int32)} {o : Int × Mem} {v0 v2 v3 v4 : Int} {σ : Mem} (h : f_X6_readTest_b136 v0 v2 v3 v4 σ = some o) : E sc (Fm Sh (some (0, o.1)) Sh o.2) mt_X6_readTest 5 Sh Sh 136 [(2, v0), (9, 0), (0, v2), (0, v3), (0, v4)] [] Sh σ := by
  unfold f_X6_readTest_b136 at h
  refine E_iload_n d_X6_readTest_136 rfl ?_
  refine E_if_eq (tgt := 155) d_X6_readTest_137 (by decide) h (fun _ h => ?_) (fun _ h => ?_)
  · exact E_weak (ls' := [(2, v0), (9, 0), (9, 0), (0, v3), (0, v4)]) ⟨Or.inr rfl, Or.inl rfl, Or.inl rfl, Or.inr rfl, Or.inr rfl, trivial⟩ (L_X6_readTest_b155 h)
  · refine E_aload_n d_X6_readTest_140 rfl (by decide) ?_
    refine E_get d_X6_readTest_141 okX6 fl_X6_22 ⟨by decide, rfl⟩ h (fun x34 h => ?_)
    refine E_iconst d_X6_readTest_144 (c32 rfl) ?_
    refine E_bipush d_X6_readTest_145 (c8 rfl) ?_
    refine bd h (fun r35 q36 h => ?_)
    refine E_cV (as := [(0, 0), (0, 9)]) (st := []) (a := x34) d_X6_readTest_147 mk_X7_takeNumber nl_X6_105 (by omega) ⟨rfl, rfl, Nat.le_of_ble_eq_true rfl⟩ okX7 rfl (L_X7_takeNumber q36) ?_
    refine E_if_ne (tgt := 155) d_X6_readTest_150 (by decide) h (fun _ h => ?_) (fun _ h => ?_)
    · refine E_iconst d_X6_readTest_153 (c32 rfl) ?_
      cases h
      exact E_zret d_X6_readTest_154 rfl (Or.inl rfl)
    · exact E_weak (ls' := [(2, v0), (9, 0), (9, 0), (0, v3), (0, v4)]) ⟨Or.inr rfl, Or.inl rfl, Or.inl rfl, Or.inr rfl, Or.inr rfl, trivial⟩ (L_X6_readTest_b155 h)
noncomputable def f_X6_readTest_b110 (v0 v1 v2 v3 : Int) (σ : Mem) : Option (Int × Mem) :=
  (gf Sh σ 6 v0 0).bind fun x29 =>
  (gf Sh σ 7 x29 9).bind fun x30 =>
  if v1 = 0 then
    f_X6_readTest_b136 v0 v2 v3 x30 σ
  else
    (gf Sh σ 6 v0 0).bind fun x31 =>
    (f_X7_takeNumber x31 0 99 σ).bind fun r32 =>
    if r32.1 = 0 then
      some (0, r32.2)
    else
      f_X6_readTest_b136 v0 v2 v3 x30 r32.2
theorem L_X6_readTest_b110 {sc : Nat × (Nat → Int32)} {o : Int × Mem} {v0 v1 v2 v3 : Int} {σ : Mem} (h : f_X6_readTest_b110 v0 v1 v2 v3 σ = some o) : E sc (Fm Sh (some (0, o.1)) Sh o.2) mt_X6_readTest 5 Sh Sh 110 [(2, v0), (0, v1), (0, v2), (0, v3), (9, 0)] [] Sh σ := by
  unfold f_X6_readTest_b110 at h
  refine E_aload_n d_X6_readTest_110 rfl (by decide) ?_
  refine E_get d_X6_readTest_111 okX6 fl_X6_22 ⟨by decide, rfl⟩ h (fun x29 h => ?_)
  refine E_get d_X6_readTest_114 okX7 fl_X6_108 ⟨by decide, rfl⟩ h (fun x30 h => ?_)
  refine E_istore d_X6_readTest_117 (ls' := [(2, v0), (0, v1), (0, v2), (0, v3), (0, x30)]) ⟨by decide, rfl⟩ ?_
  refine E_iload_n d_X6_readTest_119 rfl ?_
  refine E_if_eq (tgt := 136) d_X6_readTest_120 (by decide) h (fun _ h => ?_) (fun _ h => ?_)
  · exact E_weak (ls' := [(2, v0), (9, 0), (0, v2), (0, v3), (0, x30)]) ⟨Or.inr rfl, Or.inl rfl, Or.inr rfl, Or.inr rfl, Or.inr rfl, trivial⟩ (L_X6_readTest_b136 h)
  · refine E_aload_n d_X6_readTest_123 rfl (by decide) ?_
    refine E_get d_X6_readTest_124 okX6 fl_X6_22 ⟨by decide, rfl⟩ h (fun x31 h => ?_)
    refine E_iconst d_X6_readTest_127 (c32 rfl) ?_
    refine E_bipush d_X6_readTest_128 (c8 rfl) ?_
    refine bd h (fun r32 q33 h => ?_)
    refine E_cV (as := [(0, 0), (0, 99)]) (st := []) (a := x31) d_X6_readTest_130 mk_X7_takeNumber nl_X6_105 (by omega) ⟨rfl, rfl, Nat.le_of_ble_eq_true rfl⟩ okX7 rfl (L_X7_takeNumber q33) ?_
    refine E_if_eq (tgt := 153) d_X6_readTest_133 (by decide) h (fun _ h => ?_) (fun _ h => ?_)
    · refine E_iconst d_X6_readTest_153 (c32 rfl) ?_
      cases h
      exact E_zret d_X6_readTest_154 rfl (Or.inl rfl)
    · exact E_weak (ls' := [(2, v0), (9, 0), (0, v2), (0, v3), (0, x30)]) ⟨Or.inr rfl, Or.inl rfl, Or.inr rfl, Or.inr rfl, Or.inr rfl, trivial⟩ (L_X6_readTest_b136 h)
noncomputable def f_X6_readTest_b94 (v0 v1 v2 v3 : Int) (σ : Mem) : Option (Int × Mem) :=
  if v2 = 0 then
    f_X6_readTest_b110 v0 v1 v2 v3 σ
  else
    (gf Sh σ 6 v0 0).bind fun x26 =>
    (f_X7_takeComparison x26 σ).bind fun r27 =>
    if r27.1 = 0 then
      some (0, r27.2)
    else
      f_X6_readTest_b110 v0 v1 v2 v3 r27.2
theorem L_X6_readTest_b94 {sc : Nat × (Nat → Int32)} {o : Int × Mem} {v0 v1 v2 v3 : Int} {σ : Mem} (h : f_X6_readTest_b94 v0 v1 v2 v3 σ = some o) : E sc (Fm Sh (some (0, o.1)) Sh o.2) mt_X6_readTest 5 Sh Sh 94 [(2, v0), (0, v1), (0, v2), (0, v3), (9, 0)] [] Sh σ := by
  unfold f_X6_readTest_b94 at h
  refine E_iload_n d_X6_readTest_94 rfl ?_
  refine E_if_eq (tgt := 110) d_X6_readTest_95 (by decide) h (fun _ h => ?_) (fun _ h => ?_)
  · exact (L_X6_readTest_b110 h)
  · refine E_aload_n d_X6_readTest_98 rfl (by decide) ?_
    refine E_get d_X6_readTest_99 okX6 fl_X6_22 ⟨by decide, rfl⟩ h (fun x26 h => ?_)
    refine bd h (fun r27 q28 h => ?_)
    refine E_cV (as := []) (st := []) (a := x26) d_X6_readTest_102 mk_X7_takeComparison nl_X6_133 (by omega) ⟨rfl, rfl, Nat.le_of_ble_eq_true rfl⟩ okX7 rfl (L_X7_takeComparison q28) ?_
    refine E_if_ne (tgt := 110) d_X6_readTest_105 (by decide) h (fun _ h => ?_) (fun _ h => ?_)
    · refine E_iconst d_X6_readTest_108 (c32 rfl) ?_
      cases h
      exact E_zret d_X6_readTest_109 rfl (Or.inl rfl)
    · exact (L_X6_readTest_b110 h)
noncomputable def f_X6_readTest_b48 (v0 v1 v2 : Int) (σ : Mem) : Option (Int × Mem) :=
  (gf Sh σ 6 v0 0).bind fun x14 =>
  (gf Sh σ 7 x14 7).bind fun x15 =>
  (gf Sh σ 6 v0 0).bind fun x16 =>
  (f_X7_step x16 σ).bind fun r17 =>
  (f_X6_takeStone v0 r17).bind fun r19 =>
  if r19.1 = 0 then
    some (0, r19.2)
  else
    if v1 = 0 then
      f_X6_readTest_b94 v0 v1 v2 x15 r19.2
    else
      (gf Sh r19.2 6 v0 0).bind fun x21 =>
      (gf Sh r19.2 6 v0 1).bind fun x22 =>
      (gf Sh r19.2 9 x22 0).bind fun x23 =>
      (f_X7_takeNumber x21 0 (w32 (x23 - 1)) r19.2).bind fun r24 =>
      if r24.1 = 0 then
        some (0, r24.2)
      else
        f_X6_readTest_b94 v0 v1 v2 x15 r24.2
theorem L_X6_readTest_b48 {sc : Nat × (Nat → Int32)} {o : Int × Mem} {v0 v1 v2 : Int} {σ : Mem} (h : f_X6_readTest_b48 v0 v1 v2 σ = some o) : E sc (Fm Sh (some (0, o.1)) Sh o.2) mt_X6_readTest 5 Sh Sh 48 [(2, v0), (0, v1), (0, v2), (9, 0), (9, 0)] [] Sh σ := by
  unfold f_X6_readTest_b48 at h
  refine E_aload_n d_X6_readTest_48 rfl (by decide) ?_
  refine E_get d_X6_readTest_49 okX6 fl_X6_22 ⟨by decide, rfl⟩ h (fun x14 h => ?_)
  refine E_get d_X6_readTest_52 okX7 fl_X6_82 ⟨by decide, rfl⟩ h (fun x15 h => ?_)
  refine E_istore_n d_X6_readTest_55 (ls' := [(2, v0), (0, v1), (0, v2), (0, x15), (9, 0)]) ⟨by decide, rfl⟩ ?_
  refine E_aload_n d_X6_readTest_56 rfl (by decide) ?_
  refine E_get d_X6_readTest_57 okX6 fl_X6_22 ⟨by decide, rfl⟩ h (fun x16 h => ?_)
  refine bd h (fun r17 q18 h => ?_)
  refine E_cVv (as := []) (st := []) (a := x16) d_X6_readTest_60 mk_X7_step nl_X6_67 (by omega) ⟨rfl, rfl, Nat.le_of_ble_eq_true rfl⟩ okX7 rfl (L_X7_step q18) ?_
  refine E_aload_n d_X6_readTest_63 rfl (by decide) ?_
  refine bd h (fun r19 q20 h => ?_)
  refine E_cV (as := []) (st := []) (a := v0) d_X6_readTest_64 mk_X6_takeStone nl_X6_111 (by omega) ⟨rfl, rfl, Nat.le_of_ble_eq_true rfl⟩ okX6 rfl (L_X6_takeStone q20) ?_
  refine E_if_eq (tgt := 108) d_X6_readTest_67 (by decide) h (fun _ h => ?_) (fun _ h => ?_)
  · refine E_iconst d_X6_readTest_108 (c32 rfl) ?_
    cases h
    exact E_zret d_X6_readTest_109 rfl (Or.inl rfl)
  · refine E_iload_n d_X6_readTest_70 rfl ?_
    refine E_if_eq (tgt := 94) d_X6_readTest_71 (by decide) h (fun _ h => ?_) (fun _ h => ?_)
    · exact (L_X6_readTest_b94 h)
    · refine E_aload_n d_X6_readTest_74 rfl (by decide) ?_
      refine E_get d_X6_readTest_75 okX6 fl_X6_22 ⟨by decide, rfl⟩ h (fun x21 h => ?_)
      refine E_iconst d_X6_readTest_78 (c32 rfl) ?_
      refine E_aload_n d_X6_readTest_79 rfl (by decide) ?_
      refine E_get d_X6_readTest_80 okX6 fl_X6_26 ⟨by decide, rfl⟩ h (fun x22 h => ?_)
      refine E_get d_X6_readTest_83 okX9 fl_X6_117 ⟨by decide, rfl⟩ h (fun x23 h => ?_)
      refine E_iconst d_X6_readTest_86 (c32 rfl) ?_
      refine E_isub d_X6_readTest_87 ?_
      refine bd h (fun r24 q25 h => ?_)
      refine E_cV (as := [(0, 0), (0, w32 (x23 - 1))]) (st := []) (a := x21) d_X6_readTest_88 mk_X7_takeNumber nl_X6_105 (by omega) ⟨rfl, rfl, Nat.le_of_ble_eq_true rfl⟩ okX7 rfl (L_X7_takeNumber q25) ?_
      refine E_if_eq (tgt := 108) d_X6_readTest_91 (by decide) h (fun _ h => ?_) (fun _ h => ?_)
      · refine E_iconst d_X6_readTest_108 (c32 rfl) ?_
        cases h
        exact E_zret d_X6_readTest_109 rfl (Or.inl rfl)
      · exact (L_X6_readTest_b94 h)
noncomputable def f_X6_readTest_b0 (v0 : Int) (σ : Mem) : Option (Int × Mem) :=
  (gf Sh σ 6 v0 0).bind fun x1 =>
  (f_X7_isWord x1 18 σ).bind fun r2 =>
  (gf Sh σ 6 v0 0).bind fun x4 =>
  (f_X7_isWord x4 3 σ).bind fun r5 =>
  if r2 = 0 then
    if r5 = 0 then
      (gf Sh σ 6 v0 0).bind fun x7 =>
      (f_X7_isWord x7 19 σ).bind fun r8 =>
      if r8 = 0 then
        (gf Sh σ 6 v0 0).bind fun x10 =>
        (f_X7_refuse x10 2 σ).bind fun r11 =>
        (bz r11.1).bind fun _ =>
        some (r11.1, r11.2)
      else
        f_X6_readTest_b48 v0 r2 r5 σ
    else
      f_X6_readTest_b48 v0 r2 r5 σ
  else
    f_X6_readTest_b48 v0 r2 r5 σ
theorem L_X6_readTest_b0 {sc : Nat × (Nat → Int32)} {o : Int × Mem} {v0 : Int} {σ : Mem} (h : f_X6_readTest_b0 v0 σ = some o) : E sc (Fm Sh (some (0, o.1)) Sh o.2) mt_X6_readTest 5 Sh Sh 0 [(2, v0), (9, 0), (9, 0), (9, 0), (9, 0)] [] Sh σ := by
  unfold f_X6_readTest_b0 at h
  refine E_aload_n d_X6_readTest_0 rfl (by decide) ?_
  refine E_get d_X6_readTest_1 okX6 fl_X6_22 ⟨by decide, rfl⟩ h (fun x1 h => ?_)
  refine E_bipush d_X6_readTest_4 (c8 rfl) ?_
  refine bd h (fun r2 q3 h => ?_)
  refine E_cV (as := [(0, 18)]) (st := []) (a := x1) d_X6_readTest_6 mk_X7_isWord nl_X6_47 (by omega) ⟨rfl, rfl, Nat.le_of_ble_eq_true rfl⟩ okX7 rfl (L_X7_isWord q3) ?_
  refine E_istore_n d_X6_readTest_9 (ls' := [(2, v0), (0, r2), (9, 0), (9, 0), (9, 0)]) ⟨by decide, rfl⟩ ?_
  refine E_aload_n d_X6_readTest_10 rfl (by decide) ?_
  refine E_get d_X6_readTest_11 okX6 fl_X6_22 ⟨by decide, rfl⟩ h (fun x4 h => ?_)
  refine E_iconst d_X6_readTest_14 (c32 rfl) ?_
  refine bd h (fun r5 q6 h => ?_)
  refine E_cV (as := [(0, 3)]) (st := []) (a := x4) d_X6_readTest_15 mk_X7_isWord nl_X6_47 (by omega) ⟨rfl, rfl, Nat.le_of_ble_eq_true rfl⟩ okX7 rfl (L_X7_isWord q6) ?_
  refine E_istore_n d_X6_readTest_18 (ls' := [(2, v0), (0, r2), (0, r5), (9, 0), (9, 0)]) ⟨by decide, rfl⟩ ?_
  refine E_iload_n d_X6_readTest_19 rfl ?_
  refine E_if_ne (tgt := 48) d_X6_readTest_20 (by decide) h (fun _ h => ?_) (fun _ h => ?_)
  · refine E_iload_n d_X6_readTest_23 rfl ?_
    refine E_if_ne (tgt := 48) d_X6_readTest_24 (by decide) h (fun _ h => ?_) (fun _ h => ?_)
    · refine E_aload_n d_X6_readTest_27 rfl (by decide) ?_
      refine E_get d_X6_readTest_28 okX6 fl_X6_22 ⟨by decide, rfl⟩ h (fun x7 h => ?_)
      refine E_bipush d_X6_readTest_31 (c8 rfl) ?_
      refine bd h (fun r8 q9 h => ?_)
      refine E_cV (as := [(0, 19)]) (st := []) (a := x7) d_X6_readTest_33 mk_X7_isWord nl_X6_47 (by omega) ⟨rfl, rfl, Nat.le_of_ble_eq_true rfl⟩ okX7 rfl (L_X7_isWord q9) ?_
      refine E_if_ne (tgt := 48) d_X6_readTest_36 (by decide) h (fun _ h => ?_) (fun _ h => ?_)
      · refine E_aload_n d_X6_readTest_39 rfl (by decide) ?_
        refine E_get d_X6_readTest_40 okX6 fl_X6_22 ⟨by decide, rfl⟩ h (fun x10 h => ?_)
        refine E_iconst d_X6_readTest_43 (c32 rfl) ?_
        refine bd h (fun r11 q12 h => ?_)
        refine E_cV (as := [(0, 2)]) (st := []) (a := x10) d_X6_readTest_44 mk_X7_refuse nl_X6_60 (by omega) ⟨rfl, rfl, Nat.le_of_ble_eq_true rfl⟩ okX7 rfl (L_X7_refuse q12) ?_
        refine bd_bz h (fun q13 h => ?_)
        cases h
        exact E_zret d_X6_readTest_47 rfl q13
      · exact (L_X6_readTest_b48 h)
    · exact (L_X6_readTest_b48 h)
  · exact (L_X6_readTest_b48 h)
noncomputable def f_X6_readTest (v0 : Int) (σ : Mem) : Option (Int × Mem) := if isO Sh 6 v0 = true then f_X6_readTest_b0 v0 σ else none
theorem L_X6_readTest {o : Int × Mem} {v0 : Int} {σ : Mem} (h : f_X6_readTest v0 σ = some o) : (isO Sh 6 v0 = true ∧ Cn mt_X6_readTest 5 [(2, v0)] Sh σ (some (0, o.1)) Sh o.2) := ⟨(ite_ok h).1, Cn_of mk_X6_readTest.1.2.2.1 (Nat.le_of_ble_eq_true rfl) (fun sc => L_X6_readTest_b0 (ite_ok h).2)⟩
theorem d_X6_readStone_0 : decode mt_X6_readStone.2.1 0 = .ok (.aload_n 0, 1) := by decide +kernel
theorem d_X6_readStone_1 : decode mt_X6_readStone.2.1 1 = .ok (.invokevirtual 111, 3) := by decide +kernel
theorem d_X6_readStone_4 : decode mt_X6_readStone.2.1 4 = .ok (.ifCond .ne 5, 3) := by decide +kernel
theorem d_X6_readStone_7 : decode mt_X6_readStone.2.1 7 = .ok (.iconst 0, 1) := by decide +kernel
theorem d_X6_readStone_8 : decode mt_X6_readStone.2.1 8 = .ok (.ireturn, 1) := by decide +kernel
theorem d_X6_readStone_9 : decode mt_X6_readStone.2.1 9 = .ok (.aload_n 0, 1) := by decide +kernel
theorem d_X6_readStone_10 : decode mt_X6_readStone.2.1 10 = .ok (.getfield 12, 3) := by decide +kernel
theorem d_X6_readStone_13 : decode mt_X6_readStone.2.1 13 = .ok (.iload_n 1, 1) := by decide +kernel
theorem d_X6_readStone_14 : decode mt_X6_readStone.2.1 14 = .ok (.aload_n 0, 1) := by decide +kernel
theorem d_X6_readStone_15 : decode mt_X6_readStone.2.1 15 = .ok (.getfield 114, 3) := by decide +kernel
theorem d_X6_readStone_18 : decode mt_X6_readStone.2.1 18 = .ok (.iconst 0, 1) := by decide +kernel
theorem d_X6_readStone_19 : decode mt_X6_readStone.2.1 19 = .ok (.iconst 0, 1) := by decide +kernel
theorem d_X6_readStone_20 : decode mt_X6_readStone.2.1 20 = .ok (.invokevirtual 98, 3) := by decide +kernel
theorem d_X6_readStone_23 : decode mt_X6_readStone.2.1 23 = .ok (.iconst 1, 1) := by decide +kernel
theorem d_X6_readStone_24 : decode mt_X6_readStone.2.1 24 = .ok (.ireturn, 1) := by decide +kernel
noncomputable def f_X6_readStone_b0 (v0 v1 : Int) (σ : Mem) : Option (Int × Mem) :=
  (f_X6_takeStone v0 σ).bind fun r1 =>
  if r1.1 = 0 then
    some (0, r1.2)
  else
    (gf Sh r1.2 6 v0 2).bind fun x3 =>
    (gf Sh r1.2 6 v0 5).bind fun x4 =>
    (f_X5_add x3 v1 x4 0 0 r1.2).bind fun r5 =>
    some (1, r5)
theorem L_X6_readStone_b0 {sc : Nat × (Nat → Int32)} {o : Int × Mem} {v0 v1 : Int} {σ : Mem} (h : f_X6_readStone_b0 v0 v1 σ = some o) : E sc (Fm Sh (some (0, o.1)) Sh o.2) mt_X6_readStone 5 Sh Sh 0 [(2, v0), (0, v1)] [] Sh σ := by
  unfold f_X6_readStone_b0 at h
  refine E_aload_n d_X6_readStone_0 rfl (by decide) ?_
  refine bd h (fun r1 q2 h => ?_)
  refine E_cV (as := []) (st := []) (a := v0) d_X6_readStone_1 mk_X6_takeStone nl_X6_111 (by omega) ⟨rfl, rfl, Nat.le_of_ble_eq_true rfl⟩ okX6 rfl (L_X6_takeStone q2) ?_
  refine E_if_ne (tgt := 9) d_X6_readStone_4 (by decide) h (fun _ h => ?_) (fun _ h => ?_)
  · refine E_iconst d_X6_readStone_7 (c32 rfl) ?_
    cases h
    exact E_zret d_X6_readStone_8 rfl (Or.inl rfl)
  · refine E_aload_n d_X6_readStone_9 rfl (by decide) ?_
    refine E_get d_X6_readStone_10 okX6 fl_X6_12 ⟨by decide, rfl⟩ h (fun x3 h => ?_)
    refine E_iload_n d_X6_readStone_13 rfl ?_
    refine E_aload_n d_X6_readStone_14 rfl (by decide) ?_
    refine E_get d_X6_readStone_15 okX6 fl_X6_114 ⟨by decide, rfl⟩ h (fun x4 h => ?_)
    refine E_iconst d_X6_readStone_18 (c32 rfl) ?_
    refine E_iconst d_X6_readStone_19 (c32 rfl) ?_
    refine bd h (fun r5 q6 h => ?_)
    refine E_cVv (as := [(0, v1), (0, x4), (0, 0), (0, 0)]) (st := []) (a := x3) d_X6_readStone_20 mk_X5_add nl_X6_98 (by omega) ⟨rfl, rfl, Nat.le_of_ble_eq_true rfl⟩ okX5 rfl (L_X5_add q6) ?_
    refine E_iconst d_X6_readStone_23 (c32 rfl) ?_
    cases h
    exact E_zret d_X6_readStone_24 rfl (Or.inr rfl)
noncomputable def f_X6_readStone (v0 v1 : Int) (σ : Mem) : Option (Int × Mem) := if isO Sh 6 v0 = true then f_X6_readStone_b0 v0 v1 σ else none
theorem L_X6_readStone {o : Int × Mem} {v0 v1 : Int} {σ : Mem} (h : f_X6_readStone v0 v1 σ = some o) : (isO Sh 6 v0 = true ∧ Cn mt_X6_readStone 5 [(2, v0), (0, v1)] Sh σ (some (0, o.1)) Sh o.2) := ⟨(ite_ok h).1, Cn_of mk_X6_readStone.1.2.2.1 (Nat.le_of_ble_eq_true rfl) (fun sc => L_X6_readStone_b0 (ite_ok h).2)⟩
theorem d_X6_readStep_0 : decode mt_X6_readStep.2.1 0 = .ok (.aload_n 0, 1) := by decide +kernel
theorem d_X6_readStep_1 : decode mt_X6_readStep.2.1 1 = .ok (.getfield 22, 3) := by decide +kernel
theorem d_X6_readStep_4 : decode mt_X6_readStep.2.1 4 = .ok (.getfield 82, 3) := by decide +kernel
theorem d_X6_readStep_7 : decode mt_X6_readStep.2.1 7 = .ok (.istore_n 1, 1) := by decide +kernel
theorem d_X6_readStep_8 : decode mt_X6_readStep.2.1 8 = .ok (.aload_n 0, 1) := by decide +kernel
theorem d_X6_readStep_9 : decode mt_X6_readStep.2.1 9 = .ok (.getfield 22, 3) := by decide +kernel
theorem d_X6_readStep_12 : decode mt_X6_readStep.2.1 12 = .ok (.invokevirtual 67, 3) := by decide +kernel
theorem d_X6_readStep_15 : decode mt_X6_readStep.2.1 15 = .ok (.iload_n 1, 1) := by decide +kernel
theorem d_X6_readStep_16 : decode mt_X6_readStep.2.1 16 = .ok (.tableswitch 130 10 22 #[68, 90, 130, 130, 130, 98, 114, 106, 130, 130, 79, 130, 114], 68) := by decide +kernel
theorem d_X6_readStep_84 : decode mt_X6_readStep.2.1 84 = .ok (.aload_n 0, 1) := by decide +kernel
theorem d_X6_readStep_85 : decode mt_X6_readStep.2.1 85 = .ok (.iload_n 1, 1) := by decide +kernel
theorem d_X6_readStep_86 : decode mt_X6_readStep.2.1 86 = .ok (.bipush 20, 2) := by decide +kernel
theorem d_X6_readStep_88 : decode mt_X6_readStep.2.1 88 = .ok (.invokevirtual 85, 3) := by decide +kernel
theorem d_X6_readStep_91 : decode mt_X6_readStep.2.1 91 = .ok (.istore_n 2, 1) := by decide +kernel
theorem d_X6_readStep_92 : decode mt_X6_readStep.2.1 92 = .ok (.goto 60, 3) := by decide +kernel
theorem d_X6_readStep_95 : decode mt_X6_readStep.2.1 95 = .ok (.aload_n 0, 1) := by decide +kernel
theorem d_X6_readStep_96 : decode mt_X6_readStep.2.1 96 = .ok (.iload_n 1, 1) := by decide +kernel
theorem d_X6_readStep_97 : decode mt_X6_readStep.2.1 97 = .ok (.bipush 99, 2) := by decide +kernel
theorem d_X6_readStep_99 : decode mt_X6_readStep.2.1 99 = .ok (.invokevirtual 85, 3) := by decide +kernel
theorem d_X6_readStep_102 : decode mt_X6_readStep.2.1 102 = .ok (.istore_n 2, 1) := by decide +kernel
theorem d_X6_readStep_103 : decode mt_X6_readStep.2.1 103 = .ok (.goto 49, 3) := by decide +kernel
theorem d_X6_readStep_106 : decode mt_X6_readStep.2.1 106 = .ok (.aload_n 0, 1) := by decide +kernel
theorem d_X6_readStep_107 : decode mt_X6_readStep.2.1 107 = .ok (.invokevirtual 89, 3) := by decide +kernel
theorem d_X6_readStep_110 : decode mt_X6_readStep.2.1 110 = .ok (.istore_n 2, 1) := by decide +kernel
theorem d_X6_readStep_111 : decode mt_X6_readStep.2.1 111 = .ok (.goto 41, 3) := by decide +kernel
theorem d_X6_readStep_114 : decode mt_X6_readStep.2.1 114 = .ok (.aload_n 0, 1) := by decide +kernel
theorem d_X6_readStep_115 : decode mt_X6_readStep.2.1 115 = .ok (.invokevirtual 92, 3) := by decide +kernel
theorem d_X6_readStep_118 : decode mt_X6_readStep.2.1 118 = .ok (.istore_n 2, 1) := by decide +kernel
theorem d_X6_readStep_119 : decode mt_X6_readStep.2.1 119 = .ok (.goto 33, 3) := by decide +kernel
theorem d_X6_readStep_122 : decode mt_X6_readStep.2.1 122 = .ok (.aload_n 0, 1) := by decide +kernel
theorem d_X6_readStep_123 : decode mt_X6_readStep.2.1 123 = .ok (.invokevirtual 95, 3) := by decide +kernel
theorem d_X6_readStep_126 : decode mt_X6_readStep.2.1 126 = .ok (.istore_n 2, 1) := by decide +kernel
theorem d_X6_readStep_127 : decode mt_X6_readStep.2.1 127 = .ok (.goto 25, 3) := by decide +kernel
theorem d_X6_readStep_130 : decode mt_X6_readStep.2.1 130 = .ok (.aload_n 0, 1) := by decide +kernel
theorem d_X6_readStep_131 : decode mt_X6_readStep.2.1 131 = .ok (.getfield 12, 3) := by decide +kernel
theorem d_X6_readStep_134 : decode mt_X6_readStep.2.1 134 = .ok (.iload_n 1, 1) := by decide +kernel
theorem d_X6_readStep_135 : decode mt_X6_readStep.2.1 135 = .ok (.iconst 0, 1) := by decide +kernel
theorem d_X6_readStep_136 : decode mt_X6_readStep.2.1 136 = .ok (.iconst 0, 1) := by decide +kernel
theorem d_X6_readStep_137 : decode mt_X6_readStep.2.1 137 = .ok (.iconst 0, 1) := by decide +kernel
theorem d_X6_readStep_138 : decode mt_X6_readStep.2.1 138 = .ok (.invokevirtual 98, 3) := by decide +kernel
theorem d_X6_readStep_141 : decode mt_X6_readStep.2.1 141 = .ok (.iconst 1, 1) := by decide +kernel
theorem d_X6_readStep_142 : decode mt_X6_readStep.2.1 142 = .ok (.istore_n 2, 1) := by decide +kernel
theorem d_X6_readStep_143 : decode mt_X6_readStep.2.1 143 = .ok (.goto 9, 3) := by decide +kernel
theorem d_X6_readStep_146 : decode mt_X6_readStep.2.1 146 = .ok (.aload_n 0, 1) := by decide +kernel
theorem d_X6_readStep_147 : decode mt_X6_readStep.2.1 147 = .ok (.iload_n 1, 1) := by decide +kernel
theorem d_X6_readStep_148 : decode mt_X6_readStep.2.1 148 = .ok (.invokevirtual 102, 3) := by decide +kernel
theorem d_X6_readStep_151 : decode mt_X6_readStep.2.1 151 = .ok (.istore_n 2, 1) := by decide +kernel
theorem d_X6_readStep_152 : decode mt_X6_readStep.2.1 152 = .ok (.iload_n 2, 1) := by decide +kernel
theorem d_X6_readStep_153 : decode mt_X6_readStep.2.1 153 = .ok (.ifCond .eq 19, 3) := by decide +kernel
theorem d_X6_readStep_156 : decode mt_X6_readStep.2.1 156 = .ok (.aload_n 0, 1) := by decide +kernel
theorem d_X6_readStep_157 : decode mt_X6_readStep.2.1 157 = .ok (.getfield 22, 3) := by decide +kernel
theorem d_X6_readStep_160 : decode mt_X6_readStep.2.1 160 = .ok (.bipush 59, 2) := by decide +kernel
theorem d_X6_readStep_162 : decode mt_X6_readStep.2.1 162 = .ok (.invokevirtual 70, 3) := by decide +kernel
theorem d_X6_readStep_165 : decode mt_X6_readStep.2.1 165 = .ok (.ifCond .eq 7, 3) := by decide +kernel
theorem d_X6_readStep_168 : decode mt_X6_readStep.2.1 168 = .ok (.iconst 1, 1) := by decide +kernel
theorem d_X6_readStep_169 : decode mt_X6_readStep.2.1 169 = .ok (.goto 4, 3) := by decide +kernel
theorem d_X6_readStep_172 : decode mt_X6_readStep.2.1 172 = .ok (.iconst 0, 1) := by decide +kernel
theorem d_X6_readStep_173 : decode mt_X6_readStep.2.1 173 = .ok (.ireturn, 1) := by decide +kernel
noncomputable def f_X6_readStep_b152 (v0 v2 : Int) (σ : Mem) : Option (Int × Mem) :=
  if v2 = 0 then
    some (0, σ)
  else
    (gf Sh σ 6 v0 0).bind fun x25 =>
    (f_X7_takeSign x25 59 σ).bind fun r26 =>
    if r26.1 = 0 then
      some (0, r26.2)
    else
      some (1, r26.2)
theorem L_X6_readStep_b152 {sc : Nat × (Nat → Int32)} {o : Int × Mem} {v0 v2 : Int} {σ : Mem} (h : f_X6_readStep_b152 v0 v2 σ = some o) : E sc (Fm Sh (some (0, o.1)) Sh o.2) mt_X6_readStep 6 Sh Sh 152 [(2, v0), (9, 0), (0, v2)] [] Sh σ := by
  unfold f_X6_readStep_b152 at h
  refine E_iload_n d_X6_readStep_152 rfl ?_
  refine E_if_eq (tgt := 172) d_X6_readStep_153 (by decide) h (fun _ h => ?_) (fun _ h => ?_)
  · refine E_iconst d_X6_readStep_172 (c32 rfl) ?_
    cases h
    exact E_zret d_X6_readStep_173 rfl (Or.inl rfl)
  · refine E_aload_n d_X6_readStep_156 rfl (by decide) ?_
    refine E_get d_X6_readStep_157 okX6 fl_X6_22 ⟨by decide, rfl⟩ h (fun x25 h => ?_)
    refine E_bipush d_X6_readStep_160 (c8 rfl) ?_
    refine bd h (fun r26 q27 h => ?_)
    refine E_cV (as := [(0, 59)]) (st := []) (a := x25) d_X6_readStep_162 mk_X7_takeSign nl_X6_70 (by omega) ⟨rfl, rfl, Nat.le_of_ble_eq_true rfl⟩ okX7 rfl (L_X7_takeSign q27) ?_
    refine E_if_eq (tgt := 172) d_X6_readStep_165 (by decide) h (fun _ h => ?_) (fun _ h => ?_)
    · refine E_iconst d_X6_readStep_172 (c32 rfl) ?_
      cases h
      exact E_zret d_X6_readStep_173 rfl (Or.inl rfl)
    · refine E_iconst d_X6_readStep_168 (c32 rfl) ?_
      refine E_goto (tgt := 173) d_X6_readStep_169 (by decide) ?_
      cases h
      exact E_zret d_X6_readStep_173 rfl (Or.inr rfl)
noncomputable def f_X6_readStep_b130 (v0 v1 : Int) (σ : Mem) : Option (Int × Mem) :=
  (gf Sh σ 6 v0 2).bind fun x28 =>
  (f_X5_add x28 v1 0 0 0 σ).bind fun r29 =>
  f_X6_readStep_b152 v0 1 r29
theorem L_X6_readStep_b130 {sc : Nat × (Nat → Int32)} {o : Int × Mem} {v0 v1 : Int} {σ : Mem} (h : f_X6_readStep_b130 v0 v1 σ = some o) : E sc (Fm Sh (some (0, o.1)) Sh o.2) mt_X6_readStep 6 Sh Sh 130 [(2, v0), (0, v1), (9, 0)] [] Sh σ := by
  unfold f_X6_readStep_b130 at h
  refine E_aload_n d_X6_readStep_130 rfl (by decide) ?_
  refine E_get d_X6_readStep_131 okX6 fl_X6_12 ⟨by decide, rfl⟩ h (fun x28 h => ?_)
  refine E_iload_n d_X6_readStep_134 rfl ?_
  refine E_iconst d_X6_readStep_135 (c32 rfl) ?_
  refine E_iconst d_X6_readStep_136 (c32 rfl) ?_
  refine E_iconst d_X6_readStep_137 (c32 rfl) ?_
  refine bd h (fun r29 q30 h => ?_)
  refine E_cVv (as := [(0, v1), (0, 0), (0, 0), (0, 0)]) (st := []) (a := x28) d_X6_readStep_138 mk_X5_add nl_X6_98 (by omega) ⟨rfl, rfl, Nat.le_of_ble_eq_true rfl⟩ okX5 rfl (L_X5_add q30) ?_
  refine E_iconst d_X6_readStep_141 (c32 rfl) ?_
  refine E_istore_n d_X6_readStep_142 (ls' := [(2, v0), (0, v1), (0, 1)]) ⟨by decide, rfl⟩ ?_
  refine E_goto (tgt := 152) d_X6_readStep_143 (by decide) ?_
  exact E_weak (ls' := [(2, v0), (9, 0), (0, 1)]) ⟨Or.inr rfl, Or.inl rfl, Or.inr rfl, trivial⟩ (L_X6_readStep_b152 h)
noncomputable def f_X6_readStep_b146 (v0 v1 : Int) (σ : Mem) : Option (Int × Mem) :=
  (f_X6_readStone v0 v1 σ).bind fun r23 =>
  f_X6_readStep_b152 v0 r23.1 r23.2
theorem L_X6_readStep_b146 {sc : Nat × (Nat → Int32)} {o : Int × Mem} {v0 v1 : Int} {σ : Mem} (h : f_X6_readStep_b146 v0 v1 σ = some o) : E sc (Fm Sh (some (0, o.1)) Sh o.2) mt_X6_readStep 6 Sh Sh 146 [(2, v0), (0, v1), (9, 0)] [] Sh σ := by
  unfold f_X6_readStep_b146 at h
  refine E_aload_n d_X6_readStep_146 rfl (by decide) ?_
  refine E_iload_n d_X6_readStep_147 rfl ?_
  refine bd h (fun r23 q24 h => ?_)
  refine E_cV (as := [(0, v1)]) (st := []) (a := v0) d_X6_readStep_148 mk_X6_readStone nl_X6_102 (by omega) ⟨rfl, rfl, Nat.le_of_ble_eq_true rfl⟩ okX6 rfl (L_X6_readStone q24) ?_
  refine E_istore_n d_X6_readStep_151 (ls' := [(2, v0), (0, v1), (0, r23.1)]) ⟨by decide, rfl⟩ ?_
  exact E_weak (ls' := [(2, v0), (9, 0), (0, r23.1)]) ⟨Or.inr rfl, Or.inl rfl, Or.inr rfl, trivial⟩ (L_X6_readStep_b152 h)
noncomputable def f_X6_readStep_b0 (v0 : Int) (σ : Mem) : Option (Int × Mem) :=
  (gf Sh σ 6 v0 0).bind fun x1 =>
  (gf Sh σ 7 x1 7).bind fun x2 =>
  (gf Sh σ 6 v0 0).bind fun x3 =>
  (f_X7_step x3 σ).bind fun r4 =>
  if x2 = 10 then
    (f_X6_readCount v0 x2 20 r4).bind fun r7 =>
    f_X6_readStep_b152 v0 r7.1 r7.2
  else if x2 = 11 then
    (f_X6_readTry v0 r4).bind fun r10 =>
    f_X6_readStep_b152 v0 r10.1 r10.2
  else if x2 = 15 then
    (f_X6_readFly v0 r4).bind fun r13 =>
    f_X6_readStep_b152 v0 r13.1 r13.2
  else if x2 = 16 then
    f_X6_readStep_b130 v0 x2 r4
  else if x2 = 17 then
    (f_X6_readTest v0 r4).bind fun r17 =>
    f_X6_readStep_b152 v0 r17.1 r17.2
  else if x2 = 20 then
    (f_X6_readCount v0 x2 99 r4).bind fun r20 =>
    f_X6_readStep_b152 v0 r20.1 r20.2
  else if x2 = 22 then
    f_X6_readStep_b130 v0 x2 r4
  else 
    f_X6_readStep_b146 v0 x2 r4
theorem L_X6_readStep_b0 {sc : Nat × (Nat → Int32)} {o : Int × Mem} {v0 : Int} {σ : Mem} (h : f_X6_readStep_b0 v0 σ = some o) : E sc (Fm Sh (some (0, o.1)) Sh o.2) mt_X6_readStep 6 Sh Sh 0 [(2, v0), (9, 0), (9, 0)] [] Sh σ := by
  unfold f_X6_readStep_b0 at h
  refine E_aload_n d_X6_readStep_0 rfl (by decide) ?_
  refine E_get d_X6_readStep_1 okX6 fl_X6_22 ⟨by decide, rfl⟩ h (fun x1 h => ?_)
  refine E_get d_X6_readStep_4 okX7 fl_X6_82 ⟨by decide, rfl⟩ h (fun x2 h => ?_)
  refine E_istore_n d_X6_readStep_7 (ls' := [(2, v0), (0, x2), (9, 0)]) ⟨by decide, rfl⟩ ?_
  refine E_aload_n d_X6_readStep_8 rfl (by decide) ?_
  refine E_get d_X6_readStep_9 okX6 fl_X6_22 ⟨by decide, rfl⟩ h (fun x3 h => ?_)
  refine bd h (fun r4 q5 h => ?_)
  refine E_cVv (as := []) (st := []) (a := x3) d_X6_readStep_12 mk_X7_step nl_X6_67 (by omega) ⟨rfl, rfl, Nat.le_of_ble_eq_true rfl⟩ okX7 rfl (L_X7_step q5) ?_
  refine E_iload_n d_X6_readStep_15 rfl ?_
  refine br_eq h (fun q6 h => ?_) (fun q6 h => ?_)
  · refine E_tabIn (tgt := 84) d_X6_readStep_16 q6 ⟨by decide, by decide, rfl, by decide⟩ ?_
    refine E_aload_n d_X6_readStep_84 rfl (by decide) ?_
    refine E_iload_n d_X6_readStep_85 rfl ?_
    refine E_bipush d_X6_readStep_86 (c8 rfl) ?_
    refine bd h (fun r7 q8 h => ?_)
    refine E_cV (as := [(0, x2), (0, 20)]) (st := []) (a := v0) d_X6_readStep_88 mk_X6_readCount nl_X6_85 (by omega) ⟨rfl, rfl, Nat.le_of_ble_eq_true rfl⟩ okX6 rfl (L_X6_readCount q8) ?_
    refine E_istore_n d_X6_readStep_91 (ls' := [(2, v0), (0, x2), (0, r7.1)]) ⟨by decide, rfl⟩ ?_
    refine E_goto (tgt := 152) d_X6_readStep_92 (by decide) ?_
    exact E_weak (ls' := [(2, v0), (9, 0), (0, r7.1)]) ⟨Or.inr rfl, Or.inl rfl, Or.inr rfl, trivial⟩ (L_X6_readStep_b152 h)
  refine br_eq h (fun q9 h => ?_) (fun q9 h => ?_)
  · refine E_tabIn (tgt := 106) d_X6_readStep_16 q9 ⟨by decide, by decide, rfl, by decide⟩ ?_
    refine E_aload_n d_X6_readStep_106 rfl (by decide) ?_
    refine bd h (fun r10 q11 h => ?_)
    refine E_cV (as := []) (st := []) (a := v0) d_X6_readStep_107 mk_X6_readTry nl_X6_89 (by omega) ⟨rfl, rfl, Nat.le_of_ble_eq_true rfl⟩ okX6 rfl (L_X6_readTry q11) ?_
    refine E_istore_n d_X6_readStep_110 (ls' := [(2, v0), (0, x2), (0, r10.1)]) ⟨by decide, rfl⟩ ?_
    refine E_goto (tgt := 152) d_X6_readStep_111 (by decide) ?_
    exact E_weak (ls' := [(2, v0), (9, 0), (0, r10.1)]) ⟨Or.inr rfl, Or.inl rfl, Or.inr rfl, trivial⟩ (L_X6_readStep_b152 h)
  refine br_eq h (fun q12 h => ?_) (fun q12 h => ?_)
  · refine E_tabIn (tgt := 114) d_X6_readStep_16 q12 ⟨by decide, by decide, rfl, by decide⟩ ?_
    refine E_aload_n d_X6_readStep_114 rfl (by decide) ?_
    refine bd h (fun r13 q14 h => ?_)
    refine E_cV (as := []) (st := []) (a := v0) d_X6_readStep_115 mk_X6_readFly nl_X6_92 (by omega) ⟨rfl, rfl, Nat.le_of_ble_eq_true rfl⟩ okX6 rfl (L_X6_readFly q14) ?_
    refine E_istore_n d_X6_readStep_118 (ls' := [(2, v0), (0, x2), (0, r13.1)]) ⟨by decide, rfl⟩ ?_
    refine E_goto (tgt := 152) d_X6_readStep_119 (by decide) ?_
    exact E_weak (ls' := [(2, v0), (9, 0), (0, r13.1)]) ⟨Or.inr rfl, Or.inl rfl, Or.inr rfl, trivial⟩ (L_X6_readStep_b152 h)
  refine br_eq h (fun q15 h => ?_) (fun q15 h => ?_)
  · refine E_tabIn (tgt := 130) d_X6_readStep_16 q15 ⟨by decide, by decide, rfl, by decide⟩ ?_
    exact (L_X6_readStep_b130 h)
  refine br_eq h (fun q16 h => ?_) (fun q16 h => ?_)
  · refine E_tabIn (tgt := 122) d_X6_readStep_16 q16 ⟨by decide, by decide, rfl, by decide⟩ ?_
    refine E_aload_n d_X6_readStep_122 rfl (by decide) ?_
    refine bd h (fun r17 q18 h => ?_)
    refine E_cV (as := []) (st := []) (a := v0) d_X6_readStep_123 mk_X6_readTest nl_X6_95 (by omega) ⟨rfl, rfl, Nat.le_of_ble_eq_true rfl⟩ okX6 rfl (L_X6_readTest q18) ?_
    refine E_istore_n d_X6_readStep_126 (ls' := [(2, v0), (0, x2), (0, r17.1)]) ⟨by decide, rfl⟩ ?_
    refine E_goto (tgt := 152) d_X6_readStep_127 (by decide) ?_
    exact E_weak (ls' := [(2, v0), (9, 0), (0, r17.1)]) ⟨Or.inr rfl, Or.inl rfl, Or.inr rfl, trivial⟩ (L_X6_readStep_b152 h)
  refine br_eq h (fun q19 h => ?_) (fun q19 h => ?_)
  · refine E_tabIn (tgt := 95) d_X6_readStep_16 q19 ⟨by decide, by decide, rfl, by decide⟩ ?_
    refine E_aload_n d_X6_readStep_95 rfl (by decide) ?_
    refine E_iload_n d_X6_readStep_96 rfl ?_
    refine E_bipush d_X6_readStep_97 (c8 rfl) ?_
    refine bd h (fun r20 q21 h => ?_)
    refine E_cV (as := [(0, x2), (0, 99)]) (st := []) (a := v0) d_X6_readStep_99 mk_X6_readCount nl_X6_85 (by omega) ⟨rfl, rfl, Nat.le_of_ble_eq_true rfl⟩ okX6 rfl (L_X6_readCount q21) ?_
    refine E_istore_n d_X6_readStep_102 (ls' := [(2, v0), (0, x2), (0, r20.1)]) ⟨by decide, rfl⟩ ?_
    refine E_goto (tgt := 152) d_X6_readStep_103 (by decide) ?_
    exact E_weak (ls' := [(2, v0), (9, 0), (0, r20.1)]) ⟨Or.inr rfl, Or.inl rfl, Or.inr rfl, trivial⟩ (L_X6_readStep_b152 h)
  refine br_eq h (fun q22 h => ?_) (fun q22 h => ?_)
  · refine E_tabIn (tgt := 130) d_X6_readStep_16 q22 ⟨by decide, by decide, rfl, by decide⟩ ?_
    exact (L_X6_readStep_b130 h)
  refine E_tabD (tgt := 146) [10, 11, 15, 16, 17, 20, 22] d_X6_readStep_16 (by simp only [List.mem_cons, List.not_mem_nil, or_false, not_or]; exact ⟨q6, q9, q12, q15, q16, q19, q22⟩) (by decide) ⟨by decide, by decide⟩ ?_
  exact (L_X6_readStep_b146 h)
noncomputable def f_X6_readStep (v0 : Int) (σ : Mem) : Option (Int × Mem) := if isO Sh 6 v0 = true then f_X6_readStep_b0 v0 σ else none
theorem L_X6_readStep {o : Int × Mem} {v0 : Int} {σ : Mem} (h : f_X6_readStep v0 σ = some o) : (isO Sh 6 v0 = true ∧ Cn mt_X6_readStep 6 [(2, v0)] Sh σ (some (0, o.1)) Sh o.2) := ⟨(ite_ok h).1, Cn_of mk_X6_readStep.1.2.2.1 (Nat.le_of_ble_eq_true rfl) (fun sc => L_X6_readStep_b0 (ite_ok h).2)⟩
theorem d_X6_reads_0 : decode mt_X6_reads.2.1 0 = .ok (.aload_n 0, 1) := by decide +kernel
theorem d_X6_reads_1 : decode mt_X6_reads.2.1 1 = .ok (.iconst 0, 1) := by decide +kernel
theorem d_X6_reads_2 : decode mt_X6_reads.2.1 2 = .ok (.putfield 30, 3) := by decide +kernel
theorem d_X6_reads_5 : decode mt_X6_reads.2.1 5 = .ok (.aload_n 0, 1) := by decide +kernel
theorem d_X6_reads_6 : decode mt_X6_reads.2.1 6 = .ok (.getfield 12, 3) := by decide +kernel
theorem d_X6_reads_9 : decode mt_X6_reads.2.1 9 = .ok (.invokevirtual 34, 3) := by decide +kernel
theorem d_X6_reads_12 : decode mt_X6_reads.2.1 12 = .ok (.aload_n 0, 1) := by decide +kernel
theorem d_X6_reads_13 : decode mt_X6_reads.2.1 13 = .ok (.getfield 12, 3) := by decide +kernel
theorem d_X6_reads_16 : decode mt_X6_reads.2.1 16 = .ok (.iconst 1, 1) := by decide +kernel
theorem d_X6_reads_17 : decode mt_X6_reads.2.1 17 = .ok (.putfield 37, 3) := by decide +kernel
theorem d_X6_reads_20 : decode mt_X6_reads.2.1 20 = .ok (.iconst 1, 1) := by decide +kernel
theorem d_X6_reads_21 : decode mt_X6_reads.2.1 21 = .ok (.istore_n 1, 1) := by decide +kernel
theorem d_X6_reads_22 : decode mt_X6_reads.2.1 22 = .ok (.iconst 0, 1) := by decide +kernel
theorem d_X6_reads_23 : decode mt_X6_reads.2.1 23 = .ok (.istore_n 2, 1) := by decide +kernel
theorem d_X6_reads_24 : decode mt_X6_reads.2.1 24 = .ok (.iload_n 2, 1) := by decide +kernel
theorem d_X6_reads_25 : decode mt_X6_reads.2.1 25 = .ok (.sipush 300, 3) := by decide +kernel
theorem d_X6_reads_28 : decode mt_X6_reads.2.1 28 = .ok (.if_icmp .gt 62, 3) := by decide +kernel
theorem d_X6_reads_31 : decode mt_X6_reads.2.1 31 = .ok (.iload_n 1, 1) := by decide +kernel
theorem d_X6_reads_32 : decode mt_X6_reads.2.1 32 = .ok (.ifCond .eq 58, 3) := by decide +kernel
theorem d_X6_reads_35 : decode mt_X6_reads.2.1 35 = .ok (.aload_n 0, 1) := by decide +kernel
theorem d_X6_reads_36 : decode mt_X6_reads.2.1 36 = .ok (.getfield 22, 3) := by decide +kernel
theorem d_X6_reads_39 : decode mt_X6_reads.2.1 39 = .ok (.invokevirtual 41, 3) := by decide +kernel
theorem d_X6_reads_42 : decode mt_X6_reads.2.1 42 = .ok (.ifCond .ne 48, 3) := by decide +kernel
theorem d_X6_reads_45 : decode mt_X6_reads.2.1 45 = .ok (.aload_n 0, 1) := by decide +kernel
theorem d_X6_reads_46 : decode mt_X6_reads.2.1 46 = .ok (.getfield 22, 3) := by decide +kernel
theorem d_X6_reads_49 : decode mt_X6_reads.2.1 49 = .ok (.bipush 21, 2) := by decide +kernel
theorem d_X6_reads_51 : decode mt_X6_reads.2.1 51 = .ok (.invokevirtual 47, 3) := by decide +kernel
theorem d_X6_reads_54 : decode mt_X6_reads.2.1 54 = .ok (.ifCond .eq 10, 3) := by decide +kernel
theorem d_X6_reads_57 : decode mt_X6_reads.2.1 57 = .ok (.aload_n 0, 1) := by decide +kernel
theorem d_X6_reads_58 : decode mt_X6_reads.2.1 58 = .ok (.invokevirtual 51, 3) := by decide +kernel
theorem d_X6_reads_61 : decode mt_X6_reads.2.1 61 = .ok (.goto 22, 3) := by decide +kernel
theorem d_X6_reads_64 : decode mt_X6_reads.2.1 64 = .ok (.aload_n 0, 1) := by decide +kernel
theorem d_X6_reads_65 : decode mt_X6_reads.2.1 65 = .ok (.invokevirtual 54, 3) := by decide +kernel
theorem d_X6_reads_68 : decode mt_X6_reads.2.1 68 = .ok (.ifCond .eq 14, 3) := by decide +kernel
theorem d_X6_reads_71 : decode mt_X6_reads.2.1 71 = .ok (.aload_n 0, 1) := by decide +kernel
theorem d_X6_reads_72 : decode mt_X6_reads.2.1 72 = .ok (.invokevirtual 57, 3) := by decide +kernel
theorem d_X6_reads_75 : decode mt_X6_reads.2.1 75 = .ok (.ifCond .eq 7, 3) := by decide +kernel
theorem d_X6_reads_78 : decode mt_X6_reads.2.1 78 = .ok (.iconst 1, 1) := by decide +kernel
theorem d_X6_reads_79 : decode mt_X6_reads.2.1 79 = .ok (.goto 4, 3) := by decide +kernel
theorem d_X6_reads_82 : decode mt_X6_reads.2.1 82 = .ok (.iconst 0, 1) := by decide +kernel
theorem d_X6_reads_83 : decode mt_X6_reads.2.1 83 = .ok (.istore_n 1, 1) := by decide +kernel
theorem d_X6_reads_84 : decode mt_X6_reads.2.1 84 = .ok (.iinc 2 1, 3) := by decide +kernel
theorem d_X6_reads_87 : decode mt_X6_reads.2.1 87 = .ok (.goto (-63), 3) := by decide +kernel
theorem d_X6_reads_90 : decode mt_X6_reads.2.1 90 = .ok (.iload_n 1, 1) := by decide +kernel
theorem d_X6_reads_91 : decode mt_X6_reads.2.1 91 = .ok (.ifCond .eq 25, 3) := by decide +kernel
theorem d_X6_reads_94 : decode mt_X6_reads.2.1 94 = .ok (.aload_n 0, 1) := by decide +kernel
theorem d_X6_reads_95 : decode mt_X6_reads.2.1 95 = .ok (.getfield 30, 3) := by decide +kernel
theorem d_X6_reads_98 : decode mt_X6_reads.2.1 98 = .ok (.ifCond .eq 14, 3) := by decide +kernel
theorem d_X6_reads_101 : decode mt_X6_reads.2.1 101 = .ok (.aload_n 0, 1) := by decide +kernel
theorem d_X6_reads_102 : decode mt_X6_reads.2.1 102 = .ok (.getfield 22, 3) := by decide +kernel
theorem d_X6_reads_105 : decode mt_X6_reads.2.1 105 = .ok (.iconst 2, 1) := by decide +kernel
theorem d_X6_reads_106 : decode mt_X6_reads.2.1 106 = .ok (.invokevirtual 60, 3) := by decide +kernel
theorem d_X6_reads_109 : decode mt_X6_reads.2.1 109 = .ok (.ifCond .eq 7, 3) := by decide +kernel
theorem d_X6_reads_112 : decode mt_X6_reads.2.1 112 = .ok (.iconst 1, 1) := by decide +kernel
theorem d_X6_reads_113 : decode mt_X6_reads.2.1 113 = .ok (.goto 4, 3) := by decide +kernel
theorem d_X6_reads_116 : decode mt_X6_reads.2.1 116 = .ok (.iconst 0, 1) := by decide +kernel
theorem d_X6_reads_117 : decode mt_X6_reads.2.1 117 = .ok (.ireturn, 1) := by decide +kernel
noncomputable def f_X6_reads_b83 (k24 : (Int → Int → Int → Mem → Option (Int × Mem))) (v0 v2 s0 : Int) (σ : Mem) : Option (Int × Mem) :=
  k24 v0 s0 (w32 (v2 + 1)) σ
theorem L_X6_reads_b83 {sc : Nat × (Nat → Int32)} {o : Int × Mem} {k24 : (Int → Int → Int → Mem → Option (Int × Mem))} (hk24 : ∀ {v0 v1 v2 : Int} {σ : Mem}, k24 v0 v1 v2 σ = some o → E sc (Fm Sh (some (0, o.1)) Sh o.2) mt_X6_reads 7 Sh Sh 24 [(2, v0), (0, v1), (0, v2)] [] Sh σ) {v0 v2 s0 : Int} {σ : Mem} (h : f_X6_reads_b83 k24 v0 v2 s0 σ = some o) : E sc (Fm Sh (some (0, o.1)) Sh o.2) mt_X6_reads 7 Sh Sh 83 [(2, v0), (9, 0), (0, v2)] [(0, s0)] Sh σ := by
  unfold f_X6_reads_b83 at h
  refine E_istore_n d_X6_reads_83 (ls' := [(2, v0), (0, s0), (0, v2)]) ⟨by decide, rfl⟩ ?_
  refine E_iinc d_X6_reads_84 (ls' := [(2, v0), (0, s0), (0, w32 (v2 + 1))]) rfl ⟨by decide, rfl⟩ ?_
  refine E_goto (tgt := 24) d_X6_reads_87 (by decide) ?_
  exact (hk24 h)
noncomputable def f_X6_reads_b82 (k24 : (Int → Int → Int → Mem → Option (Int × Mem))) (v0 v2 : Int) (σ : Mem) : Option (Int × Mem) :=
  f_X6_reads_b83 k24 v0 v2 0 σ
theorem L_X6_reads_b82 {sc : Nat × (Nat → Int32)} {o : Int × Mem} {k24 : (Int → Int → Int → Mem → Option (Int × Mem))} (hk24 : ∀ {v0 v1 v2 : Int} {σ : Mem}, k24 v0 v1 v2 σ = some o → E sc (Fm Sh (some (0, o.1)) Sh o.2) mt_X6_reads 7 Sh Sh 24 [(2, v0), (0, v1), (0, v2)] [] Sh σ) {v0 v2 : Int} {σ : Mem} (h : f_X6_reads_b82 k24 v0 v2 σ = some o) : E sc (Fm Sh (some (0, o.1)) Sh o.2) mt_X6_reads 7 Sh Sh 82 [(2, v0), (9, 0), (0, v2)] [] Sh σ := by
  unfold f_X6_reads_b82 at h
  refine E_iconst d_X6_reads_82 (c32 rfl) ?_
  exact (L_X6_reads_b83 hk24 h)
noncomputable def f_X6_reads_b112 (σ : Mem) : Option (Int × Mem) :=
  some (1, σ)
theorem L_X6_reads_b112 {sc : Nat × (Nat → Int32)} {o : Int × Mem} {σ : Mem} (h : f_X6_reads_b112  σ = some o) : E sc (Fm Sh (some (0, o.1)) Sh o.2) mt_X6_reads 7 Sh Sh 112 [(9, 0), (9, 0), (9, 0)] [] Sh σ := by
  unfold f_X6_reads_b112 at h
  refine E_iconst d_X6_reads_112 (c32 rfl) ?_
  refine E_goto (tgt := 117) d_X6_reads_113 (by decide) ?_
  cases h
  exact E_zret d_X6_reads_117 rfl (Or.inr rfl)
noncomputable def f_X6_reads_b90 (v0 v1 : Int) (σ : Mem) : Option (Int × Mem) :=
  if v1 = 0 then
    some (0, σ)
  else
    (gf Sh σ 6 v0 4).bind fun x19 =>
    if x19 = 0 then
      f_X6_reads_b112  σ
    else
      (gf Sh σ 6 v0 0).bind fun x20 =>
      (f_X7_refuse x20 2 σ).bind fun r21 =>
      if r21.1 = 0 then
        some (0, r21.2)
      else
        f_X6_reads_b112  r21.2
theorem L_X6_reads_b90 {sc : Nat × (Nat → Int32)} {o : Int × Mem} {v0 v1 : Int} {σ : Mem} (h : f_X6_reads_b90 v0 v1 σ = some o) : E sc (Fm Sh (some (0, o.1)) Sh o.2) mt_X6_reads 7 Sh Sh 90 [(2, v0), (0, v1), (9, 0)] [] Sh σ := by
  unfold f_X6_reads_b90 at h
  refine E_iload_n d_X6_reads_90 rfl ?_
  refine E_if_eq (tgt := 116) d_X6_reads_91 (by decide) h (fun _ h => ?_) (fun _ h => ?_)
  · refine E_iconst d_X6_reads_116 (c32 rfl) ?_
    cases h
    exact E_zret d_X6_reads_117 rfl (Or.inl rfl)
  · refine E_aload_n d_X6_reads_94 rfl (by decide) ?_
    refine E_get d_X6_reads_95 okX6 fl_X6_30 ⟨by decide, rfl⟩ h (fun x19 h => ?_)
    refine E_if_eq (tgt := 112) d_X6_reads_98 (by decide) h (fun _ h => ?_) (fun _ h => ?_)
    · exact E_weak (ls' := [(9, 0), (9, 0), (9, 0)]) ⟨Or.inl rfl, Or.inl rfl, Or.inl rfl, trivial⟩ (L_X6_reads_b112 h)
    · refine E_aload_n d_X6_reads_101 rfl (by decide) ?_
      refine E_get d_X6_reads_102 okX6 fl_X6_22 ⟨by decide, rfl⟩ h (fun x20 h => ?_)
      refine E_iconst d_X6_reads_105 (c32 rfl) ?_
      refine bd h (fun r21 q22 h => ?_)
      refine E_cV (as := [(0, 2)]) (st := []) (a := x20) d_X6_reads_106 mk_X7_refuse nl_X6_60 (by omega) ⟨rfl, rfl, Nat.le_of_ble_eq_true rfl⟩ okX7 rfl (L_X7_refuse q22) ?_
      refine E_if_eq (tgt := 116) d_X6_reads_109 (by decide) h (fun _ h => ?_) (fun _ h => ?_)
      · refine E_iconst d_X6_reads_116 (c32 rfl) ?_
        cases h
        exact E_zret d_X6_reads_117 rfl (Or.inl rfl)
      · exact E_weak (ls' := [(9, 0), (9, 0), (9, 0)]) ⟨Or.inl rfl, Or.inl rfl, Or.inl rfl, trivial⟩ (L_X6_reads_b112 h)
noncomputable def f_X6_reads_b24 (k24 : (Int → Int → Int → Mem → Option (Int × Mem))) (v0 v1 v2 : Int) (σ : Mem) : Option (Int × Mem) :=
  if 300 < v2 then
    f_X6_reads_b90 v0 v1 σ
  else
    if v1 = 0 then
      f_X6_reads_b90 v0 v1 σ
    else
      (gf Sh σ 6 v0 0).bind fun x7 =>
      (f_X7_isAtEnd x7 σ).bind fun r8 =>
      if r8 = 0 then
        (gf Sh σ 6 v0 0).bind fun x10 =>
        (f_X7_isWord x10 21 σ).bind fun r11 =>
        if r11 = 0 then
          (f_X6_beginsStep v0 σ).bind fun r13 =>
          if r13.1 = 0 then
            f_X6_reads_b82 k24 v0 v2 r13.2
          else
            (f_X6_readStep v0 r13.2).bind fun r15 =>
            if r15.1 = 0 then
              f_X6_reads_b82 k24 v0 v2 r15.2
            else
              f_X6_reads_b83 k24 v0 v2 1 r15.2
        else
          (f_X6_readEnd v0 σ).bind fun r17 =>
          f_X6_reads_b83 k24 v0 v2 r17.1 r17.2
      else
        f_X6_reads_b90 v0 v1 σ
theorem L_X6_reads_b24 {sc : Nat × (Nat → Int32)} {o : Int × Mem} {k24 : (Int → Int → Int → Mem → Option (Int × Mem))} (hk24 : ∀ {v0 v1 v2 : Int} {σ : Mem}, k24 v0 v1 v2 σ = some o → E sc (Fm Sh (some (0, o.1)) Sh o.2) mt_X6_reads 7 Sh Sh 24 [(2, v0), (0, v1), (0, v2)] [] Sh σ) {v0 v1 v2 : Int} {σ : Mem} (h : f_X6_reads_b24 k24 v0 v1 v2 σ = some o) : E sc (Fm Sh (some (0, o.1)) Sh o.2) mt_X6_reads 7 Sh Sh 24 [(2, v0), (0, v1), (0, v2)] [] Sh σ := by
  unfold f_X6_reads_b24 at h
  refine E_iload_n d_X6_reads_24 rfl ?_
  refine E_sipush d_X6_reads_25 (c16 rfl) ?_
  refine E_icmp_gt (tgt := 90) d_X6_reads_28 (by decide) h (fun _ h => ?_) (fun _ h => ?_)
  · exact E_weak (ls' := [(2, v0), (0, v1), (9, 0)]) ⟨Or.inr rfl, Or.inr rfl, Or.inl rfl, trivial⟩ (L_X6_reads_b90 h)
  · refine E_iload_n d_X6_reads_31 rfl ?_
    refine E_if_eq (tgt := 90) d_X6_reads_32 (by decide) h (fun _ h => ?_) (fun _ h => ?_)
    · exact E_weak (ls' := [(2, v0), (0, v1), (9, 0)]) ⟨Or.inr rfl, Or.inr rfl, Or.inl rfl, trivial⟩ (L_X6_reads_b90 h)
    · refine E_aload_n d_X6_reads_35 rfl (by decide) ?_
      refine E_get d_X6_reads_36 okX6 fl_X6_22 ⟨by decide, rfl⟩ h (fun x7 h => ?_)
      refine bd h (fun r8 q9 h => ?_)
      refine E_cV (as := []) (st := []) (a := x7) d_X6_reads_39 mk_X7_isAtEnd nl_X6_41 (by omega) ⟨rfl, rfl, Nat.le_of_ble_eq_true rfl⟩ okX7 rfl (L_X7_isAtEnd q9) ?_
      refine E_if_ne (tgt := 90) d_X6_reads_42 (by decide) h (fun _ h => ?_) (fun _ h => ?_)
      · refine E_aload_n d_X6_reads_45 rfl (by decide) ?_
        refine E_get d_X6_reads_46 okX6 fl_X6_22 ⟨by decide, rfl⟩ h (fun x10 h => ?_)
        refine E_bipush d_X6_reads_49 (c8 rfl) ?_
        refine bd h (fun r11 q12 h => ?_)
        refine E_cV (as := [(0, 21)]) (st := []) (a := x10) d_X6_reads_51 mk_X7_isWord nl_X6_47 (by omega) ⟨rfl, rfl, Nat.le_of_ble_eq_true rfl⟩ okX7 rfl (L_X7_isWord q12) ?_
        refine E_if_eq (tgt := 64) d_X6_reads_54 (by decide) h (fun _ h => ?_) (fun _ h => ?_)
        · refine E_aload_n d_X6_reads_64 rfl (by decide) ?_
          refine bd h (fun r13 q14 h => ?_)
          refine E_cV (as := []) (st := []) (a := v0) d_X6_reads_65 mk_X6_beginsStep nl_X6_54 (by omega) ⟨rfl, rfl, Nat.le_of_ble_eq_true rfl⟩ okX6 rfl (L_X6_beginsStep q14) ?_
          refine E_if_eq (tgt := 82) d_X6_reads_68 (by decide) h (fun _ h => ?_) (fun _ h => ?_)
          · exact E_weak (ls' := [(2, v0), (9, 0), (0, v2)]) ⟨Or.inr rfl, Or.inl rfl, Or.inr rfl, trivial⟩ (L_X6_reads_b82 hk24 h)
          · refine E_aload_n d_X6_reads_71 rfl (by decide) ?_
            refine bd h (fun r15 q16 h => ?_)
            refine E_cV (as := []) (st := []) (a := v0) d_X6_reads_72 mk_X6_readStep nl_X6_57 (by omega) ⟨rfl, rfl, Nat.le_of_ble_eq_true rfl⟩ okX6 rfl (L_X6_readStep q16) ?_
            refine E_if_eq (tgt := 82) d_X6_reads_75 (by decide) h (fun _ h => ?_) (fun _ h => ?_)
            · exact E_weak (ls' := [(2, v0), (9, 0), (0, v2)]) ⟨Or.inr rfl, Or.inl rfl, Or.inr rfl, trivial⟩ (L_X6_reads_b82 hk24 h)
            · refine E_iconst d_X6_reads_78 (c32 rfl) ?_
              refine E_goto (tgt := 83) d_X6_reads_79 (by decide) ?_
              exact E_weak (ls' := [(2, v0), (9, 0), (0, v2)]) ⟨Or.inr rfl, Or.inl rfl, Or.inr rfl, trivial⟩ (L_X6_reads_b83 hk24 h)
        · refine E_aload_n d_X6_reads_57 rfl (by decide) ?_
          refine bd h (fun r17 q18 h => ?_)
          refine E_cV (as := []) (st := []) (a := v0) d_X6_reads_58 mk_X6_readEnd nl_X6_51 (by omega) ⟨rfl, rfl, Nat.le_of_ble_eq_true rfl⟩ okX6 rfl (L_X6_readEnd q18) ?_
          refine E_goto (tgt := 83) d_X6_reads_61 (by decide) ?_
          exact E_weak (ls' := [(2, v0), (9, 0), (0, v2)]) ⟨Or.inr rfl, Or.inl rfl, Or.inr rfl, trivial⟩ (L_X6_reads_b83 hk24 h)
      · exact E_weak (ls' := [(2, v0), (0, v1), (9, 0)]) ⟨Or.inr rfl, Or.inr rfl, Or.inl rfl, trivial⟩ (L_X6_reads_b90 h)
noncomputable def f_X6_reads_h24 (n : Nat) : Int → Int → Int → Mem → Option (Int × Mem) := Nat.rec (motive := fun _ => Int → Int → Int → Mem → Option (Int × Mem)) (fun _ _ _ _ => none) (fun _ ih => f_X6_reads_b24 (ih)) n
theorem L_X6_reads_h24 {sc : Nat × (Nat → Int32)} {o : Int × Mem} : ∀ (n : Nat) {v0 v1 v2 : Int} {σ : Mem}, f_X6_reads_h24 n v0 v1 v2 σ = some o → E sc (Fm Sh (some (0, o.1)) Sh o.2) mt_X6_reads 7 Sh Sh 24 [(2, v0), (0, v1), (0, v2)] [] Sh σ := by
  intro n
  induction n with
  | zero => intro v0 v1 v2 σ h; cases h
  | succ n ih => intro v0 v1 v2 σ h; exact L_X6_reads_b24 (@ih) h
noncomputable def f_X6_reads_b0 (v0 : Int) (σ : Mem) : Option (Int × Mem) :=
  (pf Sh σ 6 v0 4 0).bind fun σ1 =>
  (gf Sh σ1 6 v0 2).bind fun x2 =>
  (f_X5_forget x2 σ1).bind fun r3 =>
  (gf Sh r3 6 v0 2).bind fun x5 =>
  (pf Sh r3 5 x5 0 1).bind fun σ6 =>
  f_X6_reads_h24 FU v0 1 0 σ6
theorem L_X6_reads_b0 {sc : Nat × (Nat → Int32)} {o : Int × Mem} {v0 : Int} {σ : Mem} (h : f_X6_reads_b0 v0 σ = some o) : E sc (Fm Sh (some (0, o.1)) Sh o.2) mt_X6_reads 7 Sh Sh 0 [(2, v0), (9, 0), (9, 0)] [] Sh σ := by
  unfold f_X6_reads_b0 at h
  refine E_aload_n d_X6_reads_0 rfl (by decide) ?_
  refine E_iconst d_X6_reads_1 (c32 rfl) ?_
  refine E_put d_X6_reads_2 okX6 fl_X6_30 ⟨by decide, rfl⟩ (Or.inl ⟨rfl, rfl⟩) (Or.inl rfl) h (fun σ1 h => ?_)
  refine E_aload_n d_X6_reads_5 rfl (by decide) ?_
  refine E_get d_X6_reads_6 okX6 fl_X6_12 ⟨by decide, rfl⟩ h (fun x2 h => ?_)
  refine bd h (fun r3 q4 h => ?_)
  refine E_cVv (as := []) (st := []) (a := x2) d_X6_reads_9 mk_X5_forget nl_X6_34 (by omega) ⟨rfl, rfl, Nat.le_of_ble_eq_true rfl⟩ okX5 rfl (L_X5_forget q4) ?_
  refine E_aload_n d_X6_reads_12 rfl (by decide) ?_
  refine E_get d_X6_reads_13 okX6 fl_X6_12 ⟨by decide, rfl⟩ h (fun x5 h => ?_)
  refine E_iconst d_X6_reads_16 (c32 rfl) ?_
  refine E_put d_X6_reads_17 okX5 fl_X6_37 ⟨by decide, rfl⟩ (Or.inr (Or.inr (Or.inl ⟨rfl, rfl, (Or.inr rfl)⟩))) (Or.inl rfl) h (fun σ6 h => ?_)
  refine E_iconst d_X6_reads_20 (c32 rfl) ?_
  refine E_istore_n d_X6_reads_21 (ls' := [(2, v0), (0, 1), (9, 0)]) ⟨by decide, rfl⟩ ?_
  refine E_iconst d_X6_reads_22 (c32 rfl) ?_
  refine E_istore_n d_X6_reads_23 (ls' := [(2, v0), (0, 1), (0, 0)]) ⟨by decide, rfl⟩ ?_
  exact (L_X6_reads_h24 FU h)
noncomputable def f_X6_reads (v0 : Int) (σ : Mem) : Option (Int × Mem) := if isO Sh 6 v0 = true then f_X6_reads_b0 v0 σ else none
theorem L_X6_reads {o : Int × Mem} {v0 : Int} {σ : Mem} (h : f_X6_reads v0 σ = some o) : (isO Sh 6 v0 = true ∧ Cn mt_X6_reads 7 [(2, v0)] Sh σ (some (0, o.1)) Sh o.2) := ⟨(ite_ok h).1, Cn_of mk_X6_reads.1.2.2.1 (Nat.le_of_ble_eq_true rfl) (fun sc => L_X6_reads_b0 (ite_ok h).2)⟩
theorem d_X5_copyFrom_0 : decode mt_X5_copyFrom.2.1 0 = .ok (.aload_n 0, 1) := by decide +kernel
theorem d_X5_copyFrom_1 : decode mt_X5_copyFrom.2.1 1 = .ok (.aload_n 1, 1) := by decide +kernel
theorem d_X5_copyFrom_2 : decode mt_X5_copyFrom.2.1 2 = .ok (.getfield 27, 3) := by decide +kernel
theorem d_X5_copyFrom_5 : decode mt_X5_copyFrom.2.1 5 = .ok (.putfield 27, 3) := by decide +kernel
theorem d_X5_copyFrom_8 : decode mt_X5_copyFrom.2.1 8 = .ok (.aload_n 0, 1) := by decide +kernel
theorem d_X5_copyFrom_9 : decode mt_X5_copyFrom.2.1 9 = .ok (.aload_n 1, 1) := by decide +kernel
theorem d_X5_copyFrom_10 : decode mt_X5_copyFrom.2.1 10 = .ok (.getfield 31, 3) := by decide +kernel
theorem d_X5_copyFrom_13 : decode mt_X5_copyFrom.2.1 13 = .ok (.putfield 31, 3) := by decide +kernel
theorem d_X5_copyFrom_16 : decode mt_X5_copyFrom.2.1 16 = .ok (.aload_n 0, 1) := by decide +kernel
theorem d_X5_copyFrom_17 : decode mt_X5_copyFrom.2.1 17 = .ok (.aload_n 1, 1) := by decide +kernel
theorem d_X5_copyFrom_18 : decode mt_X5_copyFrom.2.1 18 = .ok (.getfield 35, 3) := by decide +kernel
theorem d_X5_copyFrom_21 : decode mt_X5_copyFrom.2.1 21 = .ok (.putfield 35, 3) := by decide +kernel
theorem d_X5_copyFrom_24 : decode mt_X5_copyFrom.2.1 24 = .ok (.iconst 0, 1) := by decide +kernel
theorem d_X5_copyFrom_25 : decode mt_X5_copyFrom.2.1 25 = .ok (.istore_n 2, 1) := by decide +kernel
theorem d_X5_copyFrom_26 : decode mt_X5_copyFrom.2.1 26 = .ok (.iload_n 2, 1) := by decide +kernel
theorem d_X5_copyFrom_27 : decode mt_X5_copyFrom.2.1 27 = .ok (.aload_n 1, 1) := by decide +kernel
theorem d_X5_copyFrom_28 : decode mt_X5_copyFrom.2.1 28 = .ok (.getfield 35, 3) := by decide +kernel
theorem d_X5_copyFrom_31 : decode mt_X5_copyFrom.2.1 31 = .ok (.if_icmp .ge 75, 3) := by decide +kernel
theorem d_X5_copyFrom_34 : decode mt_X5_copyFrom.2.1 34 = .ok (.iload_n 2, 1) := by decide +kernel
theorem d_X5_copyFrom_35 : decode mt_X5_copyFrom.2.1 35 = .ok (.bipush 60, 2) := by decide +kernel
theorem d_X5_copyFrom_37 : decode mt_X5_copyFrom.2.1 37 = .ok (.if_icmp .ge 69, 3) := by decide +kernel
theorem d_X5_copyFrom_40 : decode mt_X5_copyFrom.2.1 40 = .ok (.aload_n 0, 1) := by decide +kernel
theorem d_X5_copyFrom_41 : decode mt_X5_copyFrom.2.1 41 = .ok (.getfield 9, 3) := by decide +kernel
theorem d_X5_copyFrom_44 : decode mt_X5_copyFrom.2.1 44 = .ok (.iload_n 2, 1) := by decide +kernel
theorem d_X5_copyFrom_45 : decode mt_X5_copyFrom.2.1 45 = .ok (.aload_n 1, 1) := by decide +kernel
theorem d_X5_copyFrom_46 : decode mt_X5_copyFrom.2.1 46 = .ok (.getfield 9, 3) := by decide +kernel
theorem d_X5_copyFrom_49 : decode mt_X5_copyFrom.2.1 49 = .ok (.iload_n 2, 1) := by decide +kernel
theorem d_X5_copyFrom_50 : decode mt_X5_copyFrom.2.1 50 = .ok (.iaload, 1) := by decide +kernel
theorem d_X5_copyFrom_51 : decode mt_X5_copyFrom.2.1 51 = .ok (.iastore, 1) := by decide +kernel
theorem d_X5_copyFrom_52 : decode mt_X5_copyFrom.2.1 52 = .ok (.aload_n 0, 1) := by decide +kernel
theorem d_X5_copyFrom_53 : decode mt_X5_copyFrom.2.1 53 = .ok (.getfield 15, 3) := by decide +kernel
theorem d_X5_copyFrom_56 : decode mt_X5_copyFrom.2.1 56 = .ok (.iload_n 2, 1) := by decide +kernel
theorem d_X5_copyFrom_57 : decode mt_X5_copyFrom.2.1 57 = .ok (.aload_n 1, 1) := by decide +kernel
theorem d_X5_copyFrom_58 : decode mt_X5_copyFrom.2.1 58 = .ok (.getfield 15, 3) := by decide +kernel
theorem d_X5_copyFrom_61 : decode mt_X5_copyFrom.2.1 61 = .ok (.iload_n 2, 1) := by decide +kernel
theorem d_X5_copyFrom_62 : decode mt_X5_copyFrom.2.1 62 = .ok (.iaload, 1) := by decide +kernel
theorem d_X5_copyFrom_63 : decode mt_X5_copyFrom.2.1 63 = .ok (.iastore, 1) := by decide +kernel
theorem d_X5_copyFrom_64 : decode mt_X5_copyFrom.2.1 64 = .ok (.aload_n 0, 1) := by decide +kernel
theorem d_X5_copyFrom_65 : decode mt_X5_copyFrom.2.1 65 = .ok (.getfield 18, 3) := by decide +kernel
theorem d_X5_copyFrom_68 : decode mt_X5_copyFrom.2.1 68 = .ok (.iload_n 2, 1) := by decide +kernel
theorem d_X5_copyFrom_69 : decode mt_X5_copyFrom.2.1 69 = .ok (.aload_n 1, 1) := by decide +kernel
theorem d_X5_copyFrom_70 : decode mt_X5_copyFrom.2.1 70 = .ok (.getfield 18, 3) := by decide +kernel
theorem d_X5_copyFrom_73 : decode mt_X5_copyFrom.2.1 73 = .ok (.iload_n 2, 1) := by decide +kernel
theorem d_X5_copyFrom_74 : decode mt_X5_copyFrom.2.1 74 = .ok (.iaload, 1) := by decide +kernel
theorem d_X5_copyFrom_75 : decode mt_X5_copyFrom.2.1 75 = .ok (.iastore, 1) := by decide +kernel
theorem d_X5_copyFrom_76 : decode mt_X5_copyFrom.2.1 76 = .ok (.aload_n 0, 1) := by decide +kernel
theorem d_X5_copyFrom_77 : decode mt_X5_copyFrom.2.1 77 = .ok (.getfield 21, 3) := by decide +kernel
theorem d_X5_copyFrom_80 : decode mt_X5_copyFrom.2.1 80 = .ok (.iload_n 2, 1) := by decide +kernel
theorem d_X5_copyFrom_81 : decode mt_X5_copyFrom.2.1 81 = .ok (.aload_n 1, 1) := by decide +kernel
theorem d_X5_copyFrom_82 : decode mt_X5_copyFrom.2.1 82 = .ok (.getfield 21, 3) := by decide +kernel
theorem d_X5_copyFrom_85 : decode mt_X5_copyFrom.2.1 85 = .ok (.iload_n 2, 1) := by decide +kernel
theorem d_X5_copyFrom_86 : decode mt_X5_copyFrom.2.1 86 = .ok (.iaload, 1) := by decide +kernel
theorem d_X5_copyFrom_87 : decode mt_X5_copyFrom.2.1 87 = .ok (.iastore, 1) := by decide +kernel
theorem d_X5_copyFrom_88 : decode mt_X5_copyFrom.2.1 88 = .ok (.aload_n 0, 1) := by decide +kernel
theorem d_X5_copyFrom_89 : decode mt_X5_copyFrom.2.1 89 = .ok (.getfield 24, 3) := by decide +kernel
theorem d_X5_copyFrom_92 : decode mt_X5_copyFrom.2.1 92 = .ok (.iload_n 2, 1) := by decide +kernel
theorem d_X5_copyFrom_93 : decode mt_X5_copyFrom.2.1 93 = .ok (.aload_n 1, 1) := by decide +kernel
theorem d_X5_copyFrom_94 : decode mt_X5_copyFrom.2.1 94 = .ok (.getfield 24, 3) := by decide +kernel
theorem d_X5_copyFrom_97 : decode mt_X5_copyFrom.2.1 97 = .ok (.iload_n 2, 1) := by decide +kernel
theorem d_X5_copyFrom_98 : decode mt_X5_copyFrom.2.1 98 = .ok (.iaload, 1) := by decide +kernel
theorem d_X5_copyFrom_99 : decode mt_X5_copyFrom.2.1 99 = .ok (.iastore, 1) := by decide +kernel
theorem d_X5_copyFrom_100 : decode mt_X5_copyFrom.2.1 100 = .ok (.iinc 2 1, 3) := by decide +kernel
theorem d_X5_copyFrom_103 : decode mt_X5_copyFrom.2.1 103 = .ok (.goto (-77), 3) := by decide +kernel
theorem d_X5_copyFrom_106 : decode mt_X5_copyFrom.2.1 106 = .ok (.return_, 1) := by decide +kernel
noncomputable def f_X5_copyFrom_b26 (k26 : (Int → Int → Int → Mem → Option (Mem))) (v0 v1 v2 : Int) (σ : Mem) : Option (Mem) :=
  (gf Sh σ 5 v1 2).bind fun x8 =>
  if x8 ≤ v2 then
    some σ
  else
    if 60 ≤ v2 then
      some σ
    else
      (gf Sh σ 5 v0 3).bind fun x9 =>
      (gf Sh σ 5 v1 3).bind fun x10 =>
      (al Sh σ 20 x10 v2).bind fun x11 =>
      (st_ Sh σ 20 x9 v2 x11).bind fun σ12 =>
      (gf Sh σ12 5 v0 4).bind fun x13 =>
      (gf Sh σ12 5 v1 4).bind fun x14 =>
      (al Sh σ12 20 x14 v2).bind fun x15 =>
      (st_ Sh σ12 20 x13 v2 x15).bind fun σ16 =>
      (gf Sh σ16 5 v0 5).bind fun x17 =>
      (gf Sh σ16 5 v1 5).bind fun x18 =>
      (al Sh σ16 20 x18 v2).bind fun x19 =>
      (st_ Sh σ16 20 x17 v2 x19).bind fun σ20 =>
      (gf Sh σ20 5 v0 6).bind fun x21 =>
      (gf Sh σ20 5 v1 6).bind fun x22 =>
      (al Sh σ20 20 x22 v2).bind fun x23 =>
      (st_ Sh σ20 20 x21 v2 x23).bind fun σ24 =>
      (gf Sh σ24 5 v0 7).bind fun x25 =>
      (gf Sh σ24 5 v1 7).bind fun x26 =>
      (al Sh σ24 20 x26 v2).bind fun x27 =>
      (st_ Sh σ24 20 x25 v2 x27).bind fun σ28 =>
      k26 v0 v1 (w32 (v2 + 1)) σ28
theorem L_X5_copyFrom_b26 {sc : Nat × (Nat → Int32)} {o : Mem} {k26 : (Int → Int → Int → Mem → Option (Mem))} (hk26 : ∀ {v0 v1 v2 : Int} {σ : Mem}, k26 v0 v1 v2 σ = some o → E sc (Fm Sh none Sh o) mt_X5_copyFrom 1 Sh Sh 26 [(2, v0), (2, v1), (0, v2)] [] Sh σ) {v0 v1 v2 : Int} {σ : Mem} (h : f_X5_copyFrom_b26 k26 v0 v1 v2 σ = some o) : E sc (Fm Sh none Sh o) mt_X5_copyFrom 1 Sh Sh 26 [(2, v0), (2, v1), (0, v2)] [] Sh σ := by
  unfold f_X5_copyFrom_b26 at h
  refine E_iload_n d_X5_copyFrom_26 rfl ?_
  refine E_aload_n d_X5_copyFrom_27 rfl (by decide) ?_
  refine E_get d_X5_copyFrom_28 okX5 fl_X5_35 ⟨by decide, rfl⟩ h (fun x8 h => ?_)
  refine E_icmp_ge (tgt := 106) d_X5_copyFrom_31 (by decide) h (fun _ h => ?_) (fun _ h => ?_)
  · cases h
    exact E_vret d_X5_copyFrom_106 rfl
  · refine E_iload_n d_X5_copyFrom_34 rfl ?_
    refine E_bipush d_X5_copyFrom_35 (c8 rfl) ?_
    refine E_icmp_ge (tgt := 106) d_X5_copyFrom_37 (by decide) h (fun _ h => ?_) (fun _ h => ?_)
    · cases h
      exact E_vret d_X5_copyFrom_106 rfl
    · refine E_aload_n d_X5_copyFrom_40 rfl (by decide) ?_
      refine E_get d_X5_copyFrom_41 okX5 fl_X5_9 ⟨by decide, rfl⟩ h (fun x9 h => ?_)
      refine E_iload_n d_X5_copyFrom_44 rfl ?_
      refine E_aload_n d_X5_copyFrom_45 rfl (by decide) ?_
      refine E_get d_X5_copyFrom_46 okX5 fl_X5_9 ⟨by decide, rfl⟩ h (fun x10 h => ?_)
      refine E_iload_n d_X5_copyFrom_49 rfl ?_
      refine E_iaload d_X5_copyFrom_50 h (fun x11 h => ?_)
      refine E_iastore d_X5_copyFrom_51 h (fun σ12 h => ?_)
      refine E_aload_n d_X5_copyFrom_52 rfl (by decide) ?_
      refine E_get d_X5_copyFrom_53 okX5 fl_X5_15 ⟨by decide, rfl⟩ h (fun x13 h => ?_)
      refine E_iload_n d_X5_copyFrom_56 rfl ?_
      refine E_aload_n d_X5_copyFrom_57 rfl (by decide) ?_
      refine E_get d_X5_copyFrom_58 okX5 fl_X5_15 ⟨by decide, rfl⟩ h (fun x14 h => ?_)
      refine E_iload_n d_X5_copyFrom_61 rfl ?_
      refine E_iaload d_X5_copyFrom_62 h (fun x15 h => ?_)
      refine E_iastore d_X5_copyFrom_63 h (fun σ16 h => ?_)
      refine E_aload_n d_X5_copyFrom_64 rfl (by decide) ?_
      refine E_get d_X5_copyFrom_65 okX5 fl_X5_18 ⟨by decide, rfl⟩ h (fun x17 h => ?_)
      refine E_iload_n d_X5_copyFrom_68 rfl ?_
      refine E_aload_n d_X5_copyFrom_69 rfl (by decide) ?_
      refine E_get d_X5_copyFrom_70 okX5 fl_X5_18 ⟨by decide, rfl⟩ h (fun x18 h => ?_)
      refine E_iload_n d_X5_copyFrom_73 rfl ?_
      refine E_iaload d_X5_copyFrom_74 h (fun x19 h => ?_)
      refine E_iastore d_X5_copyFrom_75 h (fun σ20 h => ?_)
      refine E_aload_n d_X5_copyFrom_76 rfl (by decide) ?_
      refine E_get d_X5_copyFrom_77 okX5 fl_X5_21 ⟨by decide, rfl⟩ h (fun x21 h => ?_)
      refine E_iload_n d_X5_copyFrom_80 rfl ?_
      refine E_aload_n d_X5_copyFrom_81 rfl (by decide) ?_
      refine E_get d_X5_copyFrom_82 okX5 fl_X5_21 ⟨by decide, rfl⟩ h (fun x22 h => ?_)
      refine E_iload_n d_X5_copyFrom_85 rfl ?_
      refine E_iaload d_X5_copyFrom_86 h (fun x23 h => ?_)
      refine E_iastore d_X5_copyFrom_87 h (fun σ24 h => ?_)
      refine E_aload_n d_X5_copyFrom_88 rfl (by decide) ?_
      refine E_get d_X5_copyFrom_89 okX5 fl_X5_24 ⟨by decide, rfl⟩ h (fun x25 h => ?_)
      refine E_iload_n d_X5_copyFrom_92 rfl ?_
      refine E_aload_n d_X5_copyFrom_93 rfl (by decide) ?_
      refine E_get d_X5_copyFrom_94 okX5 fl_X5_24 ⟨by decide, rfl⟩ h (fun x26 h => ?_)
      refine E_iload_n d_X5_copyFrom_97 rfl ?_
      refine E_iaload d_X5_copyFrom_98 h (fun x27 h => ?_)
      refine E_iastore d_X5_copyFrom_99 h (fun σ28 h => ?_)
      refine E_iinc d_X5_copyFrom_100 (ls' := [(2, v0), (2, v1), (0, w32 (v2 + 1))]) rfl ⟨by decide, rfl⟩ ?_
      refine E_goto (tgt := 26) d_X5_copyFrom_103 (by decide) ?_
      exact (hk26 h)
noncomputable def f_X5_copyFrom_h26 (n : Nat) : Int → Int → Int → Mem → Option (Mem) := Nat.rec (motive := fun _ => Int → Int → Int → Mem → Option (Mem)) (fun _ _ _ _ => none) (fun _ ih => f_X5_copyFrom_b26 (ih)) n
theorem L_X5_copyFrom_h26 {sc : Nat × (Nat → Int32)} {o : Mem} : ∀ (n : Nat) {v0 v1 v2 : Int} {σ : Mem}, f_X5_copyFrom_h26 n v0 v1 v2 σ = some o → E sc (Fm Sh none Sh o) mt_X5_copyFrom 1 Sh Sh 26 [(2, v0), (2, v1), (0, v2)] [] Sh σ := by
  intro n
  induction n with
  | zero => intro v0 v1 v2 σ h; cases h
  | succ n ih => intro v0 v1 v2 σ h; exact L_X5_copyFrom_b26 (@ih) h
noncomputable def f_X5_copyFrom_b0 (v0 v1 : Int) (σ : Mem) : Option (Mem) :=
  (gf Sh σ 5 v1 0).bind fun x1 =>
  (bz x1).bind fun _ =>
  (pf Sh σ 5 v0 0 x1).bind fun σ2 =>
  (gf Sh σ2 5 v1 1).bind fun x4 =>
  (pf Sh σ2 5 v0 1 x4).bind fun σ5 =>
  (gf Sh σ5 5 v1 2).bind fun x6 =>
  (pf Sh σ5 5 v0 2 x6).bind fun σ7 =>
  f_X5_copyFrom_h26 FU v0 v1 0 σ7
theorem L_X5_copyFrom_b0 {sc : Nat × (Nat → Int32)} {o : Mem} {v0 v1 : Int} {σ : Mem} (h : f_X5_copyFrom_b0 v0 v1 σ = some o) : E sc (Fm Sh none Sh o) mt_X5_copyFrom 1 Sh Sh 0 [(2, v0), (2, v1), (9, 0)] [] Sh σ := by
  unfold f_X5_copyFrom_b0 at h
  refine E_aload_n d_X5_copyFrom_0 rfl (by decide) ?_
  refine E_aload_n d_X5_copyFrom_1 rfl (by decide) ?_
  refine E_get d_X5_copyFrom_2 okX5 fl_X5_27 ⟨by decide, rfl⟩ h (fun x1 h => ?_)
  refine bd_bz h (fun q3 h => ?_)
  refine E_put d_X5_copyFrom_5 okX5 fl_X5_27 ⟨by decide, rfl⟩ (Or.inr (Or.inr (Or.inl ⟨rfl, rfl, q3⟩))) (Or.inl rfl) h (fun σ2 h => ?_)
  refine E_aload_n d_X5_copyFrom_8 rfl (by decide) ?_
  refine E_aload_n d_X5_copyFrom_9 rfl (by decide) ?_
  refine E_get d_X5_copyFrom_10 okX5 fl_X5_31 ⟨by decide, rfl⟩ h (fun x4 h => ?_)
  refine E_put d_X5_copyFrom_13 okX5 fl_X5_31 ⟨by decide, rfl⟩ (Or.inl ⟨rfl, rfl⟩) (Or.inl rfl) h (fun σ5 h => ?_)
  refine E_aload_n d_X5_copyFrom_16 rfl (by decide) ?_
  refine E_aload_n d_X5_copyFrom_17 rfl (by decide) ?_
  refine E_get d_X5_copyFrom_18 okX5 fl_X5_35 ⟨by decide, rfl⟩ h (fun x6 h => ?_)
  refine E_put d_X5_copyFrom_21 okX5 fl_X5_35 ⟨by decide, rfl⟩ (Or.inl ⟨rfl, rfl⟩) (Or.inl rfl) h (fun σ7 h => ?_)
  refine E_iconst d_X5_copyFrom_24 (c32 rfl) ?_
  refine E_istore_n d_X5_copyFrom_25 (ls' := [(2, v0), (2, v1), (0, 0)]) ⟨by decide, rfl⟩ ?_
  exact (L_X5_copyFrom_h26 FU h)
noncomputable def f_X5_copyFrom (v0 v1 : Int) (σ : Mem) : Option (Mem) := if isO Sh 5 v0 = true then f_X5_copyFrom_b0 v0 v1 σ else none
theorem L_X5_copyFrom {o : Mem} {v0 v1 : Int} {σ : Mem} (h : f_X5_copyFrom v0 v1 σ = some o) : (isO Sh 5 v0 = true ∧ Cn mt_X5_copyFrom 1 [(2, v0), (2, v1)] Sh σ none Sh o) := ⟨(ite_ok h).1, Cn_of mk_X5_copyFrom.1.2.2.1 (Nat.le_of_ble_eq_true rfl) (fun sc => L_X5_copyFrom_b0 (ite_ok h).2)⟩
theorem d_X9_stoneCount_0 : decode mt_X9_stoneCount.2.1 0 = .ok (.aload_n 0, 1) := by decide +kernel
theorem d_X9_stoneCount_1 : decode mt_X9_stoneCount.2.1 1 = .ok (.getfield 45, 3) := by decide +kernel
theorem d_X9_stoneCount_4 : decode mt_X9_stoneCount.2.1 4 = .ok (.invokestatic 63, 3) := by decide +kernel
theorem d_X9_stoneCount_7 : decode mt_X9_stoneCount.2.1 7 = .ok (.ireturn, 1) := by decide +kernel
noncomputable def f_X9_stoneCount_b0 (v0 : Int) (σ : Mem) : Option (Int) :=
  (gf Sh σ 9 v0 1).bind fun x1 =>
  (f_JI_bitCount x1 σ).bind fun r2 =>
  some (r2)
theorem L_X9_stoneCount_b0 {sc : Nat × (Nat → Int32)} {o : Int} {σ : Mem} {v0 : Int} (h : f_X9_stoneCount_b0 v0 σ = some o) : E sc (Fm Sh (some (0, o)) Sh σ) mt_X9_stoneCount 2 Sh Sh 0 [(2, v0)] [] Sh σ := by
  unfold f_X9_stoneCount_b0 at h
  refine E_aload_n d_X9_stoneCount_0 rfl (by decide) ?_
  refine E_get d_X9_stoneCount_1 okX9 fl_X9_45 ⟨by decide, rfl⟩ h (fun x1 h => ?_)
  refine bd h (fun r2 q3 h => ?_)
  refine E_cS (as := [(0, x1)]) (st := []) d_X9_stoneCount_4 mk_JI_bitCount nl_X9_63 (by omega) ⟨rfl, rfl, Nat.le_of_ble_eq_true rfl⟩ (L_JI_bitCount q3) ?_
  cases h
  exact E_iret d_X9_stoneCount_7 rfl
noncomputable def f_X9_stoneCount (v0 : Int) (σ : Mem) : Option (Int) := if isO Sh 9 v0 = true then f_X9_stoneCount_b0 v0 σ else none
theorem L_X9_stoneCount {o : Int} {v0 : Int} {σ : Mem} (h : f_X9_stoneCount v0 σ = some o) : (isO Sh 9 v0 = true ∧ Cn mt_X9_stoneCount 2 [(2, v0)] Sh σ (some (0, o)) Sh σ) := ⟨(ite_ok h).1, Cn_of mk_X9_stoneCount.1.2.2.1 (Nat.le_of_ble_eq_true rfl) (fun sc => L_X9_stoneCount_b0 (ite_ok h).2)⟩
theorem d_X9_mossOfAll_0 : decode mt_X9_mossOfAll.2.1 0 = .ok (.iconst 0, 1) := by decide +kernel
theorem d_X9_mossOfAll_1 : decode mt_X9_mossOfAll.2.1 1 = .ok (.istore_n 1, 1) := by decide +kernel
theorem d_X9_mossOfAll_2 : decode mt_X9_mossOfAll.2.1 2 = .ok (.iconst 0, 1) := by decide +kernel
theorem d_X9_mossOfAll_3 : decode mt_X9_mossOfAll.2.1 3 = .ok (.istore_n 2, 1) := by decide +kernel
theorem d_X9_mossOfAll_4 : decode mt_X9_mossOfAll.2.1 4 = .ok (.iload_n 2, 1) := by decide +kernel
theorem d_X9_mossOfAll_5 : decode mt_X9_mossOfAll.2.1 5 = .ok (.aload_n 0, 1) := by decide +kernel
theorem d_X9_mossOfAll_6 : decode mt_X9_mossOfAll.2.1 6 = .ok (.getfield 42, 3) := by decide +kernel
theorem d_X9_mossOfAll_9 : decode mt_X9_mossOfAll.2.1 9 = .ok (.if_icmp .ge 18, 3) := by decide +kernel
theorem d_X9_mossOfAll_12 : decode mt_X9_mossOfAll.2.1 12 = .ok (.iload_n 1, 1) := by decide +kernel
theorem d_X9_mossOfAll_13 : decode mt_X9_mossOfAll.2.1 13 = .ok (.aload_n 0, 1) := by decide +kernel
theorem d_X9_mossOfAll_14 : decode mt_X9_mossOfAll.2.1 14 = .ok (.getfield 15, 3) := by decide +kernel
theorem d_X9_mossOfAll_17 : decode mt_X9_mossOfAll.2.1 17 = .ok (.iload_n 2, 1) := by decide +kernel
theorem d_X9_mossOfAll_18 : decode mt_X9_mossOfAll.2.1 18 = .ok (.iaload, 1) := by decide +kernel
theorem d_X9_mossOfAll_19 : decode mt_X9_mossOfAll.2.1 19 = .ok (.iadd, 1) := by decide +kernel
theorem d_X9_mossOfAll_20 : decode mt_X9_mossOfAll.2.1 20 = .ok (.istore_n 1, 1) := by decide +kernel
theorem d_X9_mossOfAll_21 : decode mt_X9_mossOfAll.2.1 21 = .ok (.iinc 2 1, 3) := by decide +kernel
theorem d_X9_mossOfAll_24 : decode mt_X9_mossOfAll.2.1 24 = .ok (.goto (-20), 3) := by decide +kernel
theorem d_X9_mossOfAll_27 : decode mt_X9_mossOfAll.2.1 27 = .ok (.iload_n 1, 1) := by decide +kernel
theorem d_X9_mossOfAll_28 : decode mt_X9_mossOfAll.2.1 28 = .ok (.ireturn, 1) := by decide +kernel
noncomputable def f_X9_mossOfAll_b4 (k4 : (Int → Int → Int → Mem → Option (Int))) (v0 v1 v2 : Int) (σ : Mem) : Option (Int) :=
  (gf Sh σ 9 v0 0).bind fun x1 =>
  if x1 ≤ v2 then
    some (v1)
  else
    (gf Sh σ 9 v0 3).bind fun x2 =>
    (al Sh σ 20 x2 v2).bind fun x3 =>
    k4 v0 (w32 (v1 + x3)) (w32 (v2 + 1)) σ
theorem L_X9_mossOfAll_b4 {sc : Nat × (Nat → Int32)} {o : Int} {σ : Mem} {k4 : (Int → Int → Int → Mem → Option (Int))} (hk4 : ∀ {v0 v1 v2 : Int}, k4 v0 v1 v2 σ = some o → E sc (Fm Sh (some (0, o)) Sh σ) mt_X9_mossOfAll 1 Sh Sh 4 [(2, v0), (0, v1), (0, v2)] [] Sh σ) {v0 v1 v2 : Int} (h : f_X9_mossOfAll_b4 k4 v0 v1 v2 σ = some o) : E sc (Fm Sh (some (0, o)) Sh σ) mt_X9_mossOfAll 1 Sh Sh 4 [(2, v0), (0, v1), (0, v2)] [] Sh σ := by
  unfold f_X9_mossOfAll_b4 at h
  refine E_iload_n d_X9_mossOfAll_4 rfl ?_
  refine E_aload_n d_X9_mossOfAll_5 rfl (by decide) ?_
  refine E_get d_X9_mossOfAll_6 okX9 fl_X9_42 ⟨by decide, rfl⟩ h (fun x1 h => ?_)
  refine E_icmp_ge (tgt := 27) d_X9_mossOfAll_9 (by decide) h (fun _ h => ?_) (fun _ h => ?_)
  · refine E_iload_n d_X9_mossOfAll_27 rfl ?_
    cases h
    exact E_iret d_X9_mossOfAll_28 rfl
  · refine E_iload_n d_X9_mossOfAll_12 rfl ?_
    refine E_aload_n d_X9_mossOfAll_13 rfl (by decide) ?_
    refine E_get d_X9_mossOfAll_14 okX9 fl_X9_15 ⟨by decide, rfl⟩ h (fun x2 h => ?_)
    refine E_iload_n d_X9_mossOfAll_17 rfl ?_
    refine E_iaload d_X9_mossOfAll_18 h (fun x3 h => ?_)
    refine E_iadd d_X9_mossOfAll_19 ?_
    refine E_istore_n d_X9_mossOfAll_20 (ls' := [(2, v0), (0, w32 (v1 + x3)), (0, v2)]) ⟨by decide, rfl⟩ ?_
    refine E_iinc d_X9_mossOfAll_21 (ls' := [(2, v0), (0, w32 (v1 + x3)), (0, w32 (v2 + 1))]) rfl ⟨by decide, rfl⟩ ?_
    refine E_goto (tgt := 4) d_X9_mossOfAll_24 (by decide) ?_
    exact (hk4 h)
noncomputable def f_X9_mossOfAll_h4 (n : Nat) : Int → Int → Int → Mem → Option (Int) := Nat.rec (motive := fun _ => Int → Int → Int → Mem → Option (Int)) (fun _ _ _ _ => none) (fun _ ih => f_X9_mossOfAll_b4 (ih)) n
theorem L_X9_mossOfAll_h4 {sc : Nat × (Nat → Int32)} {o : Int} {σ : Mem} : ∀ (n : Nat) {v0 v1 v2 : Int}, f_X9_mossOfAll_h4 n v0 v1 v2 σ = some o → E sc (Fm Sh (some (0, o)) Sh σ) mt_X9_mossOfAll 1 Sh Sh 4 [(2, v0), (0, v1), (0, v2)] [] Sh σ := by
  intro n
  induction n with
  | zero => intro v0 v1 v2 h; cases h
  | succ n ih => intro v0 v1 v2 h; exact L_X9_mossOfAll_b4 (@ih) h
noncomputable def f_X9_mossOfAll_b0 (v0 : Int) (σ : Mem) : Option (Int) :=
  f_X9_mossOfAll_h4 FU v0 0 0 σ
theorem L_X9_mossOfAll_b0 {sc : Nat × (Nat → Int32)} {o : Int} {σ : Mem} {v0 : Int} (h : f_X9_mossOfAll_b0 v0 σ = some o) : E sc (Fm Sh (some (0, o)) Sh σ) mt_X9_mossOfAll 1 Sh Sh 0 [(2, v0), (9, 0), (9, 0)] [] Sh σ := by
  unfold f_X9_mossOfAll_b0 at h
  refine E_iconst d_X9_mossOfAll_0 (c32 rfl) ?_
  refine E_istore_n d_X9_mossOfAll_1 (ls' := [(2, v0), (0, 0), (9, 0)]) ⟨by decide, rfl⟩ ?_
  refine E_iconst d_X9_mossOfAll_2 (c32 rfl) ?_
  refine E_istore_n d_X9_mossOfAll_3 (ls' := [(2, v0), (0, 0), (0, 0)]) ⟨by decide, rfl⟩ ?_
  exact (L_X9_mossOfAll_h4 FU h)
noncomputable def f_X9_mossOfAll (v0 : Int) (σ : Mem) : Option (Int) := if isO Sh 9 v0 = true then f_X9_mossOfAll_b0 v0 σ else none
theorem L_X9_mossOfAll {o : Int} {v0 : Int} {σ : Mem} (h : f_X9_mossOfAll v0 σ = some o) : (isO Sh 9 v0 = true ∧ Cn mt_X9_mossOfAll 1 [(2, v0)] Sh σ (some (0, o)) Sh σ) := ⟨(ite_ok h).1, Cn_of mk_X9_mossOfAll.1.2.2.1 (Nat.le_of_ble_eq_true rfl) (fun sc => L_X9_mossOfAll_b0 (ite_ok h).2)⟩
theorem d_X9_isPlace_0 : decode mt_X9_isPlace.2.1 0 = .ok (.lload_n 1, 1) := by decide +kernel
theorem d_X9_isPlace_1 : decode mt_X9_isPlace.2.1 1 = .ok (.lconst 0, 1) := by decide +kernel
theorem d_X9_isPlace_2 : decode mt_X9_isPlace.2.1 2 = .ok (.lcmp, 1) := by decide +kernel
theorem d_X9_isPlace_3 : decode mt_X9_isPlace.2.1 3 = .ok (.ifCond .lt 17, 3) := by decide +kernel
theorem d_X9_isPlace_6 : decode mt_X9_isPlace.2.1 6 = .ok (.lload_n 1, 1) := by decide +kernel
theorem d_X9_isPlace_7 : decode mt_X9_isPlace.2.1 7 = .ok (.aload_n 0, 1) := by decide +kernel
theorem d_X9_isPlace_8 : decode mt_X9_isPlace.2.1 8 = .ok (.getfield 42, 3) := by decide +kernel
theorem d_X9_isPlace_11 : decode mt_X9_isPlace.2.1 11 = .ok (.i2l, 1) := by decide +kernel
theorem d_X9_isPlace_12 : decode mt_X9_isPlace.2.1 12 = .ok (.lcmp, 1) := by decide +kernel
theorem d_X9_isPlace_13 : decode mt_X9_isPlace.2.1 13 = .ok (.ifCond .ge 7, 3) := by decide +kernel
theorem d_X9_isPlace_16 : decode mt_X9_isPlace.2.1 16 = .ok (.iconst 1, 1) := by decide +kernel
theorem d_X9_isPlace_17 : decode mt_X9_isPlace.2.1 17 = .ok (.goto 4, 3) := by decide +kernel
theorem d_X9_isPlace_20 : decode mt_X9_isPlace.2.1 20 = .ok (.iconst 0, 1) := by decide +kernel
theorem d_X9_isPlace_21 : decode mt_X9_isPlace.2.1 21 = .ok (.ireturn, 1) := by decide +kernel
noncomputable def f_X9_isPlace_b0 (v0 v1 : Int) (σ : Mem) : Option (Int) :=
  if lcmp v1 0 < 0 then
    some (0)
  else
    (gf Sh σ 9 v0 0).bind fun x1 =>
    if 0 ≤ lcmp v1 x1 then
      some (0)
    else
      some (1)
theorem L_X9_isPlace_b0 {sc : Nat × (Nat → Int32)} {o : Int} {σ : Mem} {v0 v1 : Int} (h : f_X9_isPlace_b0 v0 v1 σ = some o) : E sc (Fm Sh (some (0, o)) Sh σ) mt_X9_isPlace 1 Sh Sh 0 [(2, v0), (1, v1), (9, 0)] [] Sh σ := by
  unfold f_X9_isPlace_b0 at h
  refine E_lload_n d_X9_isPlace_0 rfl ?_
  refine E_lconst d_X9_isPlace_1 cl0 ?_
  refine E_lcmp d_X9_isPlace_2 ?_
  refine E_if_lt (tgt := 20) d_X9_isPlace_3 (by decide) h (fun _ h => ?_) (fun _ h => ?_)
  · refine E_iconst d_X9_isPlace_20 (c32 rfl) ?_
    cases h
    exact E_zret d_X9_isPlace_21 rfl (Or.inl rfl)
  · refine E_lload_n d_X9_isPlace_6 rfl ?_
    refine E_aload_n d_X9_isPlace_7 rfl (by decide) ?_
    refine E_get d_X9_isPlace_8 okX9 fl_X9_42 ⟨by decide, rfl⟩ h (fun x1 h => ?_)
    refine E_i2l d_X9_isPlace_11 ?_
    refine E_lcmp d_X9_isPlace_12 ?_
    refine E_if_ge (tgt := 20) d_X9_isPlace_13 (by decide) h (fun _ h => ?_) (fun _ h => ?_)
    · refine E_iconst d_X9_isPlace_20 (c32 rfl) ?_
      cases h
      exact E_zret d_X9_isPlace_21 rfl (Or.inl rfl)
    · refine E_iconst d_X9_isPlace_16 (c32 rfl) ?_
      refine E_goto (tgt := 21) d_X9_isPlace_17 (by decide) ?_
      cases h
      exact E_zret d_X9_isPlace_21 rfl (Or.inr rfl)
noncomputable def f_X9_isPlace (v0 v1 : Int) (σ : Mem) : Option (Int) := if isO Sh 9 v0 = true then f_X9_isPlace_b0 v0 v1 σ else none
theorem L_X9_isPlace {o : Int} {v0 v1 : Int} {σ : Mem} (h : f_X9_isPlace v0 v1 σ = some o) : (isO Sh 9 v0 = true ∧ Cn mt_X9_isPlace 1 [(2, v0), (1, v1)] Sh σ (some (0, o)) Sh σ) := ⟨(ite_ok h).1, Cn_of mk_X9_isPlace.1.2.2.1 (Nat.le_of_ble_eq_true rfl) (fun sc => L_X9_isPlace_b0 (ite_ok h).2)⟩
theorem d_X9_isStone_0 : decode mt_X9_isStone.2.1 0 = .ok (.lload_n 1, 1) := by decide +kernel
theorem d_X9_isStone_1 : decode mt_X9_isStone.2.1 1 = .ok (.lconst 0, 1) := by decide +kernel
theorem d_X9_isStone_2 : decode mt_X9_isStone.2.1 2 = .ok (.lcmp, 1) := by decide +kernel
theorem d_X9_isStone_3 : decode mt_X9_isStone.2.1 3 = .ok (.ifCond .lt 30, 3) := by decide +kernel
theorem d_X9_isStone_6 : decode mt_X9_isStone.2.1 6 = .ok (.lload_n 1, 1) := by decide +kernel
theorem d_X9_isStone_7 : decode mt_X9_isStone.2.1 7 = .ok (.aload_n 0, 1) := by decide +kernel
theorem d_X9_isStone_8 : decode mt_X9_isStone.2.1 8 = .ok (.getfield 42, 3) := by decide +kernel
theorem d_X9_isStone_11 : decode mt_X9_isStone.2.1 11 = .ok (.i2l, 1) := by decide +kernel
theorem d_X9_isStone_12 : decode mt_X9_isStone.2.1 12 = .ok (.lcmp, 1) := by decide +kernel
theorem d_X9_isStone_13 : decode mt_X9_isStone.2.1 13 = .ok (.ifCond .ge 20, 3) := by decide +kernel
theorem d_X9_isStone_16 : decode mt_X9_isStone.2.1 16 = .ok (.aload_n 0, 1) := by decide +kernel
theorem d_X9_isStone_17 : decode mt_X9_isStone.2.1 17 = .ok (.getfield 45, 3) := by decide +kernel
theorem d_X9_isStone_20 : decode mt_X9_isStone.2.1 20 = .ok (.lload_n 1, 1) := by decide +kernel
theorem d_X9_isStone_21 : decode mt_X9_isStone.2.1 21 = .ok (.l2i, 1) := by decide +kernel
theorem d_X9_isStone_22 : decode mt_X9_isStone.2.1 22 = .ok (.ishr, 1) := by decide +kernel
theorem d_X9_isStone_23 : decode mt_X9_isStone.2.1 23 = .ok (.iconst 1, 1) := by decide +kernel
theorem d_X9_isStone_24 : decode mt_X9_isStone.2.1 24 = .ok (.iand, 1) := by decide +kernel
theorem d_X9_isStone_25 : decode mt_X9_isStone.2.1 25 = .ok (.iconst 1, 1) := by decide +kernel
theorem d_X9_isStone_26 : decode mt_X9_isStone.2.1 26 = .ok (.if_icmp .ne 7, 3) := by decide +kernel
theorem d_X9_isStone_29 : decode mt_X9_isStone.2.1 29 = .ok (.iconst 1, 1) := by decide +kernel
theorem d_X9_isStone_30 : decode mt_X9_isStone.2.1 30 = .ok (.goto 4, 3) := by decide +kernel
theorem d_X9_isStone_33 : decode mt_X9_isStone.2.1 33 = .ok (.iconst 0, 1) := by decide +kernel
theorem d_X9_isStone_34 : decode mt_X9_isStone.2.1 34 = .ok (.ireturn, 1) := by decide +kernel
noncomputable def f_X9_isStone_b0 (v0 v1 : Int) (σ : Mem) : Option (Int) :=
  if lcmp v1 0 < 0 then
    some (0)
  else
    (gf Sh σ 9 v0 0).bind fun x1 =>
    if 0 ≤ lcmp v1 x1 then
      some (0)
    else
      (gf Sh σ 9 v0 1).bind fun x2 =>
      if iand (ishr x2 (w32 v1)) 1 = 1 then
        some (1)
      else
        some (0)
theorem L_X9_isStone_b0 {sc : Nat × (Nat → Int32)} {o : Int} {σ : Mem} {v0 v1 : Int} (h : f_X9_isStone_b0 v0 v1 σ = some o) : E sc (Fm Sh (some (0, o)) Sh σ) mt_X9_isStone 1 Sh Sh 0 [(2, v0), (1, v1), (9, 0)] [] Sh σ := by
  unfold f_X9_isStone_b0 at h
  refine E_lload_n d_X9_isStone_0 rfl ?_
  refine E_lconst d_X9_isStone_1 cl0 ?_
  refine E_lcmp d_X9_isStone_2 ?_
  refine E_if_lt (tgt := 33) d_X9_isStone_3 (by decide) h (fun _ h => ?_) (fun _ h => ?_)
  · refine E_iconst d_X9_isStone_33 (c32 rfl) ?_
    cases h
    exact E_zret d_X9_isStone_34 rfl (Or.inl rfl)
  · refine E_lload_n d_X9_isStone_6 rfl ?_
    refine E_aload_n d_X9_isStone_7 rfl (by decide) ?_
    refine E_get d_X9_isStone_8 okX9 fl_X9_42 ⟨by decide, rfl⟩ h (fun x1 h => ?_)
    refine E_i2l d_X9_isStone_11 ?_
    refine E_lcmp d_X9_isStone_12 ?_
    refine E_if_ge (tgt := 33) d_X9_isStone_13 (by decide) h (fun _ h => ?_) (fun _ h => ?_)
    · refine E_iconst d_X9_isStone_33 (c32 rfl) ?_
      cases h
      exact E_zret d_X9_isStone_34 rfl (Or.inl rfl)
    · refine E_aload_n d_X9_isStone_16 rfl (by decide) ?_
      refine E_get d_X9_isStone_17 okX9 fl_X9_45 ⟨by decide, rfl⟩ h (fun x2 h => ?_)
      refine E_lload_n d_X9_isStone_20 rfl ?_
      refine E_l2i d_X9_isStone_21 ?_
      refine E_ishr d_X9_isStone_22 ?_
      refine E_iconst d_X9_isStone_23 (c32 rfl) ?_
      refine E_iand d_X9_isStone_24 ?_
      refine E_iconst d_X9_isStone_25 (c32 rfl) ?_
      refine E_icmp_ne (tgt := 33) d_X9_isStone_26 (by decide) h (fun _ h => ?_) (fun _ h => ?_)
      · refine E_iconst d_X9_isStone_29 (c32 rfl) ?_
        refine E_goto (tgt := 34) d_X9_isStone_30 (by decide) ?_
        cases h
        exact E_zret d_X9_isStone_34 rfl (Or.inr rfl)
      · refine E_iconst d_X9_isStone_33 (c32 rfl) ?_
        cases h
        exact E_zret d_X9_isStone_34 rfl (Or.inl rfl)
noncomputable def f_X9_isStone (v0 v1 : Int) (σ : Mem) : Option (Int) := if isO Sh 9 v0 = true then f_X9_isStone_b0 v0 v1 σ else none
theorem L_X9_isStone {o : Int} {v0 v1 : Int} {σ : Mem} (h : f_X9_isStone v0 v1 σ = some o) : (isO Sh 9 v0 = true ∧ Cn mt_X9_isStone 1 [(2, v0), (1, v1)] Sh σ (some (0, o)) Sh σ) := ⟨(ite_ok h).1, Cn_of mk_X9_isStone.1.2.2.1 (Nat.le_of_ble_eq_true rfl) (fun sc => L_X9_isStone_b0 (ite_ok h).2)⟩
theorem d_X9_crowsOn_0 : decode mt_X9_crowsOn.2.1 0 = .ok (.iconst 0, 1) := by decide +kernel
theorem d_X9_crowsOn_1 : decode mt_X9_crowsOn.2.1 1 = .ok (.istore_n 2, 1) := by decide +kernel
theorem d_X9_crowsOn_2 : decode mt_X9_crowsOn.2.1 2 = .ok (.iconst 0, 1) := by decide +kernel
theorem d_X9_crowsOn_3 : decode mt_X9_crowsOn.2.1 3 = .ok (.istore_n 3, 1) := by decide +kernel
theorem d_X9_crowsOn_4 : decode mt_X9_crowsOn.2.1 4 = .ok (.iload_n 3, 1) := by decide +kernel
theorem d_X9_crowsOn_5 : decode mt_X9_crowsOn.2.1 5 = .ok (.aload_n 0, 1) := by decide +kernel
theorem d_X9_crowsOn_6 : decode mt_X9_crowsOn.2.1 6 = .ok (.getfield 48, 3) := by decide +kernel
theorem d_X9_crowsOn_9 : decode mt_X9_crowsOn.2.1 9 = .ok (.if_icmp .ge 25, 3) := by decide +kernel
theorem d_X9_crowsOn_12 : decode mt_X9_crowsOn.2.1 12 = .ok (.aload_n 0, 1) := by decide +kernel
theorem d_X9_crowsOn_13 : decode mt_X9_crowsOn.2.1 13 = .ok (.getfield 28, 3) := by decide +kernel
theorem d_X9_crowsOn_16 : decode mt_X9_crowsOn.2.1 16 = .ok (.iload_n 3, 1) := by decide +kernel
theorem d_X9_crowsOn_17 : decode mt_X9_crowsOn.2.1 17 = .ok (.iaload, 1) := by decide +kernel
theorem d_X9_crowsOn_18 : decode mt_X9_crowsOn.2.1 18 = .ok (.iload_n 1, 1) := by decide +kernel
theorem d_X9_crowsOn_19 : decode mt_X9_crowsOn.2.1 19 = .ok (.if_icmp .ne 9, 3) := by decide +kernel
theorem d_X9_crowsOn_22 : decode mt_X9_crowsOn.2.1 22 = .ok (.iload_n 2, 1) := by decide +kernel
theorem d_X9_crowsOn_23 : decode mt_X9_crowsOn.2.1 23 = .ok (.iconst 1, 1) := by decide +kernel
theorem d_X9_crowsOn_24 : decode mt_X9_crowsOn.2.1 24 = .ok (.iload_n 3, 1) := by decide +kernel
theorem d_X9_crowsOn_25 : decode mt_X9_crowsOn.2.1 25 = .ok (.ishl, 1) := by decide +kernel
theorem d_X9_crowsOn_26 : decode mt_X9_crowsOn.2.1 26 = .ok (.ior, 1) := by decide +kernel
theorem d_X9_crowsOn_27 : decode mt_X9_crowsOn.2.1 27 = .ok (.istore_n 2, 1) := by decide +kernel
theorem d_X9_crowsOn_28 : decode mt_X9_crowsOn.2.1 28 = .ok (.iinc 3 1, 3) := by decide +kernel
theorem d_X9_crowsOn_31 : decode mt_X9_crowsOn.2.1 31 = .ok (.goto (-27), 3) := by decide +kernel
theorem d_X9_crowsOn_34 : decode mt_X9_crowsOn.2.1 34 = .ok (.iload_n 2, 1) := by decide +kernel
theorem d_X9_crowsOn_35 : decode mt_X9_crowsOn.2.1 35 = .ok (.ireturn, 1) := by decide +kernel
noncomputable def f_X9_crowsOn_b28 (k4 : (Int → Int → Int → Int → Mem → Option (Int))) (v0 v1 v2 v3 : Int) (σ : Mem) : Option (Int) :=
  k4 v0 v1 v2 (w32 (v3 + 1)) σ
theorem L_X9_crowsOn_b28 {sc : Nat × (Nat → Int32)} {o : Int} {σ : Mem} {k4 : (Int → Int → Int → Int → Mem → Option (Int))} (hk4 : ∀ {v0 v1 v2 v3 : Int}, k4 v0 v1 v2 v3 σ = some o → E sc (Fm Sh (some (0, o)) Sh σ) mt_X9_crowsOn 1 Sh Sh 4 [(2, v0), (0, v1), (0, v2), (0, v3)] [] Sh σ) {v0 v1 v2 v3 : Int} (h : f_X9_crowsOn_b28 k4 v0 v1 v2 v3 σ = some o) : E sc (Fm Sh (some (0, o)) Sh σ) mt_X9_crowsOn 1 Sh Sh 28 [(2, v0), (0, v1), (0, v2), (0, v3)] [] Sh σ := by
  unfold f_X9_crowsOn_b28 at h
  refine E_iinc d_X9_crowsOn_28 (ls' := [(2, v0), (0, v1), (0, v2), (0, w32 (v3 + 1))]) rfl ⟨by decide, rfl⟩ ?_
  refine E_goto (tgt := 4) d_X9_crowsOn_31 (by decide) ?_
  exact (hk4 h)
noncomputable def f_X9_crowsOn_b4 (k4 : (Int → Int → Int → Int → Mem → Option (Int))) (v0 v1 v2 v3 : Int) (σ : Mem) : Option (Int) :=
  (gf Sh σ 9 v0 7).bind fun x1 =>
  if x1 ≤ v3 then
    some (v2)
  else
    (gf Sh σ 9 v0 8).bind fun x2 =>
    (al Sh σ 20 x2 v3).bind fun x3 =>
    if x3 = v1 then
      f_X9_crowsOn_b28 k4 v0 v1 (ior v2 (ishl 1 v3)) v3 σ
    else
      f_X9_crowsOn_b28 k4 v0 v1 v2 v3 σ
theorem L_X9_crowsOn_b4 {sc : Nat × (Nat → Int32)} {o : Int} {σ : Mem} {k4 : (Int → Int → Int → Int → Mem → Option (Int))} (hk4 : ∀ {v0 v1 v2 v3 : Int}, k4 v0 v1 v2 v3 σ = some o → E sc (Fm Sh (some (0, o)) Sh σ) mt_X9_crowsOn 1 Sh Sh 4 [(2, v0), (0, v1), (0, v2), (0, v3)] [] Sh σ) {v0 v1 v2 v3 : Int} (h : f_X9_crowsOn_b4 k4 v0 v1 v2 v3 σ = some o) : E sc (Fm Sh (some (0, o)) Sh σ) mt_X9_crowsOn 1 Sh Sh 4 [(2, v0), (0, v1), (0, v2), (0, v3)] [] Sh σ := by
  unfold f_X9_crowsOn_b4 at h
  refine E_iload_n d_X9_crowsOn_4 rfl ?_
  refine E_aload_n d_X9_crowsOn_5 rfl (by decide) ?_
  refine E_get d_X9_crowsOn_6 okX9 fl_X9_48 ⟨by decide, rfl⟩ h (fun x1 h => ?_)
  refine E_icmp_ge (tgt := 34) d_X9_crowsOn_9 (by decide) h (fun _ h => ?_) (fun _ h => ?_)
  · refine E_iload_n d_X9_crowsOn_34 rfl ?_
    cases h
    exact E_iret d_X9_crowsOn_35 rfl
  · refine E_aload_n d_X9_crowsOn_12 rfl (by decide) ?_
    refine E_get d_X9_crowsOn_13 okX9 fl_X9_28 ⟨by decide, rfl⟩ h (fun x2 h => ?_)
    refine E_iload_n d_X9_crowsOn_16 rfl ?_
    refine E_iaload d_X9_crowsOn_17 h (fun x3 h => ?_)
    refine E_iload_n d_X9_crowsOn_18 rfl ?_
    refine E_icmp_ne (tgt := 28) d_X9_crowsOn_19 (by decide) h (fun _ h => ?_) (fun _ h => ?_)
    · refine E_iload_n d_X9_crowsOn_22 rfl ?_
      refine E_iconst d_X9_crowsOn_23 (c32 rfl) ?_
      refine E_iload_n d_X9_crowsOn_24 rfl ?_
      refine E_ishl d_X9_crowsOn_25 ?_
      refine E_ior d_X9_crowsOn_26 ?_
      refine E_istore_n d_X9_crowsOn_27 (ls' := [(2, v0), (0, v1), (0, ior v2 (ishl 1 v3)), (0, v3)]) ⟨by decide, rfl⟩ ?_
      exact (L_X9_crowsOn_b28 hk4 h)
    · exact (L_X9_crowsOn_b28 hk4 h)
noncomputable def f_X9_crowsOn_h4 (n : Nat) : Int → Int → Int → Int → Mem → Option (Int) := Nat.rec (motive := fun _ => Int → Int → Int → Int → Mem → Option (Int)) (fun _ _ _ _ _ => none) (fun _ ih => f_X9_crowsOn_b4 (ih)) n
theorem L_X9_crowsOn_h4 {sc : Nat × (Nat → Int32)} {o : Int} {σ : Mem} : ∀ (n : Nat) {v0 v1 v2 v3 : Int}, f_X9_crowsOn_h4 n v0 v1 v2 v3 σ = some o → E sc (Fm Sh (some (0, o)) Sh σ) mt_X9_crowsOn 1 Sh Sh 4 [(2, v0), (0, v1), (0, v2), (0, v3)] [] Sh σ := by
  intro n
  induction n with
  | zero => intro v0 v1 v2 v3 h; cases h
  | succ n ih => intro v0 v1 v2 v3 h; exact L_X9_crowsOn_b4 (@ih) h
noncomputable def f_X9_crowsOn_b0 (v0 v1 : Int) (σ : Mem) : Option (Int) :=
  f_X9_crowsOn_h4 FU v0 v1 0 0 σ
theorem L_X9_crowsOn_b0 {sc : Nat × (Nat → Int32)} {o : Int} {σ : Mem} {v0 v1 : Int} (h : f_X9_crowsOn_b0 v0 v1 σ = some o) : E sc (Fm Sh (some (0, o)) Sh σ) mt_X9_crowsOn 1 Sh Sh 0 [(2, v0), (0, v1), (9, 0), (9, 0)] [] Sh σ := by
  unfold f_X9_crowsOn_b0 at h
  refine E_iconst d_X9_crowsOn_0 (c32 rfl) ?_
  refine E_istore_n d_X9_crowsOn_1 (ls' := [(2, v0), (0, v1), (0, 0), (9, 0)]) ⟨by decide, rfl⟩ ?_
  refine E_iconst d_X9_crowsOn_2 (c32 rfl) ?_
  refine E_istore_n d_X9_crowsOn_3 (ls' := [(2, v0), (0, v1), (0, 0), (0, 0)]) ⟨by decide, rfl⟩ ?_
  exact (L_X9_crowsOn_h4 FU h)
noncomputable def f_X9_crowsOn (v0 v1 : Int) (σ : Mem) : Option (Int) := if isO Sh 9 v0 = true then f_X9_crowsOn_b0 v0 v1 σ else none
theorem L_X9_crowsOn {o : Int} {v0 v1 : Int} {σ : Mem} (h : f_X9_crowsOn v0 v1 σ = some o) : (isO Sh 9 v0 = true ∧ Cn mt_X9_crowsOn 1 [(2, v0), (0, v1)] Sh σ (some (0, o)) Sh σ) := ⟨(ite_ok h).1, Cn_of mk_X9_crowsOn.1.2.2.1 (Nat.le_of_ble_eq_true rfl) (fun sc => L_X9_crowsOn_b0 (ite_ok h).2)⟩
theorem d_X9_mercyFor_0 : decode mt_X9_mercyFor.2.1 0 = .ok (.iload_n 1, 1) := by decide +kernel
theorem d_X9_mercyFor_1 : decode mt_X9_mercyFor.2.1 1 = .ok (.iload_n 2, 1) := by decide +kernel
theorem d_X9_mercyFor_2 : decode mt_X9_mercyFor.2.1 2 = .ok (.isub, 1) := by decide +kernel
theorem d_X9_mercyFor_3 : decode mt_X9_mercyFor.2.1 3 = .ok (.invokestatic 97, 3) := by decide +kernel
theorem d_X9_mercyFor_6 : decode mt_X9_mercyFor.2.1 6 = .ok (.istore 4, 2) := by decide +kernel
theorem d_X9_mercyFor_8 : decode mt_X9_mercyFor.2.1 8 = .ok (.iload 4, 2) := by decide +kernel
theorem d_X9_mercyFor_10 : decode mt_X9_mercyFor.2.1 10 = .ok (.aload_n 0, 1) := by decide +kernel
theorem d_X9_mercyFor_11 : decode mt_X9_mercyFor.2.1 11 = .ok (.getfield 42, 3) := by decide +kernel
theorem d_X9_mercyFor_14 : decode mt_X9_mercyFor.2.1 14 = .ok (.iload 4, 2) := by decide +kernel
theorem d_X9_mercyFor_16 : decode mt_X9_mercyFor.2.1 16 = .ok (.isub, 1) := by decide +kernel
theorem d_X9_mercyFor_17 : decode mt_X9_mercyFor.2.1 17 = .ok (.invokestatic 91, 3) := by decide +kernel
theorem d_X9_mercyFor_20 : decode mt_X9_mercyFor.2.1 20 = .ok (.istore 5, 2) := by decide +kernel
theorem d_X9_mercyFor_22 : decode mt_X9_mercyFor.2.1 22 = .ok (.aload_n 0, 1) := by decide +kernel
theorem d_X9_mercyFor_23 : decode mt_X9_mercyFor.2.1 23 = .ok (.getfield 9, 3) := by decide +kernel
theorem d_X9_mercyFor_26 : decode mt_X9_mercyFor.2.1 26 = .ok (.iload_n 1, 1) := by decide +kernel
theorem d_X9_mercyFor_27 : decode mt_X9_mercyFor.2.1 27 = .ok (.iaload, 1) := by decide +kernel
theorem d_X9_mercyFor_28 : decode mt_X9_mercyFor.2.1 28 = .ok (.bipush 9, 2) := by decide +kernel
theorem d_X9_mercyFor_30 : decode mt_X9_mercyFor.2.1 30 = .ok (.aload_n 0, 1) := by decide +kernel
theorem d_X9_mercyFor_31 : decode mt_X9_mercyFor.2.1 31 = .ok (.getfield 15, 3) := by decide +kernel
theorem d_X9_mercyFor_34 : decode mt_X9_mercyFor.2.1 34 = .ok (.iload_n 1, 1) := by decide +kernel
theorem d_X9_mercyFor_35 : decode mt_X9_mercyFor.2.1 35 = .ok (.iaload, 1) := by decide +kernel
theorem d_X9_mercyFor_36 : decode mt_X9_mercyFor.2.1 36 = .ok (.iload_n 3, 1) := by decide +kernel
theorem d_X9_mercyFor_37 : decode mt_X9_mercyFor.2.1 37 = .ok (.iadd, 1) := by decide +kernel
theorem d_X9_mercyFor_38 : decode mt_X9_mercyFor.2.1 38 = .ok (.invokestatic 91, 3) := by decide +kernel
theorem d_X9_mercyFor_41 : decode mt_X9_mercyFor.2.1 41 = .ok (.iadd, 1) := by decide +kernel
theorem d_X9_mercyFor_42 : decode mt_X9_mercyFor.2.1 42 = .ok (.iload 5, 2) := by decide +kernel
theorem d_X9_mercyFor_44 : decode mt_X9_mercyFor.2.1 44 = .ok (.iadd, 1) := by decide +kernel
theorem d_X9_mercyFor_45 : decode mt_X9_mercyFor.2.1 45 = .ok (.aload_n 0, 1) := by decide +kernel
theorem d_X9_mercyFor_46 : decode mt_X9_mercyFor.2.1 46 = .ok (.getfield 21, 3) := by decide +kernel
theorem d_X9_mercyFor_49 : decode mt_X9_mercyFor.2.1 49 = .ok (.iload_n 1, 1) := by decide +kernel
theorem d_X9_mercyFor_50 : decode mt_X9_mercyFor.2.1 50 = .ok (.iaload, 1) := by decide +kernel
theorem d_X9_mercyFor_51 : decode mt_X9_mercyFor.2.1 51 = .ok (.iadd, 1) := by decide +kernel
theorem d_X9_mercyFor_52 : decode mt_X9_mercyFor.2.1 52 = .ok (.ireturn, 1) := by decide +kernel
noncomputable def f_X9_mercyFor_b0 (v0 v1 v2 v3 : Int) (σ : Mem) : Option (Int) :=
  (gf Sh σ 9 v0 0).bind fun x1 =>
  (gf Sh σ 9 v0 2).bind fun x2 =>
  (al Sh σ 20 x2 v1).bind fun x3 =>
  (gf Sh σ 9 v0 3).bind fun x4 =>
  (al Sh σ 20 x4 v1).bind fun x5 =>
  (gf Sh σ 9 v0 5).bind fun x6 =>
  (al Sh σ 20 x6 v1).bind fun x7 =>
  some (w32 (w32 (w32 (x3 + (imin 9 (w32 (x5 + v3)))) + (imin (iabs (w32 (v1 - v2))) (w32 (x1 - (iabs (w32 (v1 - v2))))))) + x7))
theorem L_X9_mercyFor_b0 {sc : Nat × (Nat → Int32)} {o : Int} {σ : Mem} {v0 v1 v2 v3 : Int} (h : f_X9_mercyFor_b0 v0 v1 v2 v3 σ = some o) : E sc (Fm Sh (some (0, o)) Sh σ) mt_X9_mercyFor 2 Sh Sh 0 [(2, v0), (0, v1), (0, v2), (0, v3), (9, 0), (9, 0)] [] Sh σ := by
  unfold f_X9_mercyFor_b0 at h
  refine E_iload_n d_X9_mercyFor_0 rfl ?_
  refine E_iload_n d_X9_mercyFor_1 rfl ?_
  refine E_isub d_X9_mercyFor_2 ?_
  refine E_iabs d_X9_mercyFor_3 nl_X9_97 (by omega) (Nat.le_of_ble_eq_true rfl) ?_
  refine E_istore d_X9_mercyFor_6 (ls' := [(2, v0), (0, v1), (0, v2), (0, v3), (0, iabs (w32 (v1 - v2))), (9, 0)]) ⟨by decide, rfl⟩ ?_
  refine E_iload d_X9_mercyFor_8 rfl ?_
  refine E_aload_n d_X9_mercyFor_10 rfl (by decide) ?_
  refine E_get d_X9_mercyFor_11 okX9 fl_X9_42 ⟨by decide, rfl⟩ h (fun x1 h => ?_)
  refine E_iload d_X9_mercyFor_14 rfl ?_
  refine E_isub d_X9_mercyFor_16 ?_
  refine E_imin d_X9_mercyFor_17 nl_X9_91 (by omega) (Nat.le_of_ble_eq_true rfl) ?_
  refine E_istore d_X9_mercyFor_20 (ls' := [(2, v0), (0, v1), (0, v2), (0, v3), (0, iabs (w32 (v1 - v2))), (0, imin (iabs (w32 (v1 - v2))) (w32 (x1 - (iabs (w32 (v1 - v2))))))]) ⟨by decide, rfl⟩ ?_
  refine E_aload_n d_X9_mercyFor_22 rfl (by decide) ?_
  refine E_get d_X9_mercyFor_23 okX9 fl_X9_9 ⟨by decide, rfl⟩ h (fun x2 h => ?_)
  refine E_iload_n d_X9_mercyFor_26 rfl ?_
  refine E_iaload d_X9_mercyFor_27 h (fun x3 h => ?_)
  refine E_bipush d_X9_mercyFor_28 (c8 rfl) ?_
  refine E_aload_n d_X9_mercyFor_30 rfl (by decide) ?_
  refine E_get d_X9_mercyFor_31 okX9 fl_X9_15 ⟨by decide, rfl⟩ h (fun x4 h => ?_)
  refine E_iload_n d_X9_mercyFor_34 rfl ?_
  refine E_iaload d_X9_mercyFor_35 h (fun x5 h => ?_)
  refine E_iload_n d_X9_mercyFor_36 rfl ?_
  refine E_iadd d_X9_mercyFor_37 ?_
  refine E_imin d_X9_mercyFor_38 nl_X9_91 (by omega) (Nat.le_of_ble_eq_true rfl) ?_
  refine E_iadd d_X9_mercyFor_41 ?_
  refine E_iload d_X9_mercyFor_42 rfl ?_
  refine E_iadd d_X9_mercyFor_44 ?_
  refine E_aload_n d_X9_mercyFor_45 rfl (by decide) ?_
  refine E_get d_X9_mercyFor_46 okX9 fl_X9_21 ⟨by decide, rfl⟩ h (fun x6 h => ?_)
  refine E_iload_n d_X9_mercyFor_49 rfl ?_
  refine E_iaload d_X9_mercyFor_50 h (fun x7 h => ?_)
  refine E_iadd d_X9_mercyFor_51 ?_
  cases h
  exact E_iret d_X9_mercyFor_52 rfl
noncomputable def f_X9_mercyFor (v0 v1 v2 v3 : Int) (σ : Mem) : Option (Int) := if isO Sh 9 v0 = true then f_X9_mercyFor_b0 v0 v1 v2 v3 σ else none
theorem L_X9_mercyFor {o : Int} {v0 v1 v2 v3 : Int} {σ : Mem} (h : f_X9_mercyFor v0 v1 v2 v3 σ = some o) : (isO Sh 9 v0 = true ∧ Cn mt_X9_mercyFor 2 [(2, v0), (0, v1), (0, v2), (0, v3)] Sh σ (some (0, o)) Sh σ) := ⟨(ite_ok h).1, Cn_of mk_X9_mercyFor.1.2.2.1 (Nat.le_of_ble_eq_true rfl) (fun sc => L_X9_mercyFor_b0 (ite_ok h).2)⟩
