theorem d_X12_readStep_0 : decode mt_X12_readStep.2.1 0 = .ok (.aload_n 0, 1) := by decide +kernel
theorem d_X12_readStep_1 : decode mt_X12_readStep.2.1 1 = .ok (.invokevirtual 188, 3) := by decide +kernel
theorem d_X12_readStep_4 : decode mt_X12_readStep.2.1 4 = .ok (.istore_n 2, 1) := by decide +kernel
theorem d_X12_readStep_5 : decode mt_X12_readStep.2.1 5 = .ok (.iload_n 2, 1) := by decide +kernel
theorem d_X12_readStep_6 : decode mt_X12_readStep.2.1 6 = .ok (.bipush 7, 2) := by decide +kernel
theorem d_X12_readStep_8 : decode mt_X12_readStep.2.1 8 = .ok (.if_icmp .eq 9, 3) := by decide +kernel
theorem d_X12_readStep_11 : decode mt_X12_readStep.2.1 11 = .ok (.iload_n 2, 1) := by decide +kernel
theorem d_X12_readStep_12 : decode mt_X12_readStep.2.1 12 = .ok (.bipush 8, 2) := by decide +kernel
theorem d_X12_readStep_14 : decode mt_X12_readStep.2.1 14 = .ok (.if_icmp .ne 7, 3) := by decide +kernel
theorem d_X12_readStep_17 : decode mt_X12_readStep.2.1 17 = .ok (.iconst 1, 1) := by decide +kernel
theorem d_X12_readStep_18 : decode mt_X12_readStep.2.1 18 = .ok (.goto 4, 3) := by decide +kernel
theorem d_X12_readStep_21 : decode mt_X12_readStep.2.1 21 = .ok (.iconst 0, 1) := by decide +kernel
theorem d_X12_readStep_22 : decode mt_X12_readStep.2.1 22 = .ok (.istore_n 3, 1) := by decide +kernel
theorem d_X12_readStep_23 : decode mt_X12_readStep.2.1 23 = .ok (.iload_n 2, 1) := by decide +kernel
theorem d_X12_readStep_24 : decode mt_X12_readStep.2.1 24 = .ok (.ifCond .ge 7, 3) := by decide +kernel
theorem d_X12_readStep_27 : decode mt_X12_readStep.2.1 27 = .ok (.aload_n 0, 1) := by decide +kernel
theorem d_X12_readStep_28 : decode mt_X12_readStep.2.1 28 = .ok (.invokevirtual 213, 3) := by decide +kernel
theorem d_X12_readStep_31 : decode mt_X12_readStep.2.1 31 = .ok (.aload_n 0, 1) := by decide +kernel
theorem d_X12_readStep_32 : decode mt_X12_readStep.2.1 32 = .ok (.getfield 200, 3) := by decide +kernel
theorem d_X12_readStep_35 : decode mt_X12_readStep.2.1 35 = .ok (.ifCond .ne 22, 3) := by decide +kernel
theorem d_X12_readStep_38 : decode mt_X12_readStep.2.1 38 = .ok (.aload_n 0, 1) := by decide +kernel
theorem d_X12_readStep_39 : decode mt_X12_readStep.2.1 39 = .ok (.getfield 296, 3) := by decide +kernel
theorem d_X12_readStep_42 : decode mt_X12_readStep.2.1 42 = .ok (.bipush 30, 2) := by decide +kernel
theorem d_X12_readStep_44 : decode mt_X12_readStep.2.1 44 = .ok (.if_icmp .ne 13, 3) := by decide +kernel
theorem d_X12_readStep_47 : decode mt_X12_readStep.2.1 47 = .ok (.aload_n 0, 1) := by decide +kernel
theorem d_X12_readStep_48 : decode mt_X12_readStep.2.1 48 = .ok (.bipush 6, 2) := by decide +kernel
theorem d_X12_readStep_50 : decode mt_X12_readStep.2.1 50 = .ok (.aload_n 0, 1) := by decide +kernel
theorem d_X12_readStep_51 : decode mt_X12_readStep.2.1 51 = .ok (.getfield 118, 3) := by decide +kernel
theorem d_X12_readStep_54 : decode mt_X12_readStep.2.1 54 = .ok (.invokevirtual 206, 3) := by decide +kernel
theorem d_X12_readStep_57 : decode mt_X12_readStep.2.1 57 = .ok (.aload_n 0, 1) := by decide +kernel
theorem d_X12_readStep_58 : decode mt_X12_readStep.2.1 58 = .ok (.getfield 200, 3) := by decide +kernel
theorem d_X12_readStep_61 : decode mt_X12_readStep.2.1 61 = .ok (.ifCond .ne 22, 3) := by decide +kernel
theorem d_X12_readStep_64 : decode mt_X12_readStep.2.1 64 = .ok (.iload_n 3, 1) := by decide +kernel
theorem d_X12_readStep_65 : decode mt_X12_readStep.2.1 65 = .ok (.ifCond .eq 18, 3) := by decide +kernel
theorem d_X12_readStep_68 : decode mt_X12_readStep.2.1 68 = .ok (.iload_n 1, 1) := by decide +kernel
theorem d_X12_readStep_69 : decode mt_X12_readStep.2.1 69 = .ok (.iconst 3, 1) := by decide +kernel
theorem d_X12_readStep_70 : decode mt_X12_readStep.2.1 70 = .ok (.if_icmp .ne 13, 3) := by decide +kernel
theorem d_X12_readStep_73 : decode mt_X12_readStep.2.1 73 = .ok (.aload_n 0, 1) := by decide +kernel
theorem d_X12_readStep_74 : decode mt_X12_readStep.2.1 74 = .ok (.bipush 7, 2) := by decide +kernel
theorem d_X12_readStep_76 : decode mt_X12_readStep.2.1 76 = .ok (.aload_n 0, 1) := by decide +kernel
theorem d_X12_readStep_77 : decode mt_X12_readStep.2.1 77 = .ok (.getfield 118, 3) := by decide +kernel
theorem d_X12_readStep_80 : decode mt_X12_readStep.2.1 80 = .ok (.invokevirtual 206, 3) := by decide +kernel
theorem d_X12_readStep_83 : decode mt_X12_readStep.2.1 83 = .ok (.aload_n 0, 1) := by decide +kernel
theorem d_X12_readStep_84 : decode mt_X12_readStep.2.1 84 = .ok (.getfield 200, 3) := by decide +kernel
theorem d_X12_readStep_87 : decode mt_X12_readStep.2.1 87 = .ok (.ifCond .le 4, 3) := by decide +kernel
theorem d_X12_readStep_90 : decode mt_X12_readStep.2.1 90 = .ok (.return_, 1) := by decide +kernel
theorem d_X12_readStep_91 : decode mt_X12_readStep.2.1 91 = .ok (.sipush 1365, 3) := by decide +kernel
theorem d_X12_readStep_94 : decode mt_X12_readStep.2.1 94 = .ok (.bipush 9, 2) := by decide +kernel
theorem d_X12_readStep_96 : decode mt_X12_readStep.2.1 96 = .ok (.aload_n 0, 1) := by decide +kernel
theorem d_X12_readStep_97 : decode mt_X12_readStep.2.1 97 = .ok (.getfield 296, 3) := by decide +kernel
theorem d_X12_readStep_100 : decode mt_X12_readStep.2.1 100 = .ok (.imul, 1) := by decide +kernel
theorem d_X12_readStep_101 : decode mt_X12_readStep.2.1 101 = .ok (.iadd, 1) := by decide +kernel
theorem d_X12_readStep_102 : decode mt_X12_readStep.2.1 102 = .ok (.istore 4, 2) := by decide +kernel
theorem d_X12_readStep_104 : decode mt_X12_readStep.2.1 104 = .ok (.aload_n 0, 1) := by decide +kernel
theorem d_X12_readStep_105 : decode mt_X12_readStep.2.1 105 = .ok (.dup, 1) := by decide +kernel
theorem d_X12_readStep_106 : decode mt_X12_readStep.2.1 106 = .ok (.getfield 296, 3) := by decide +kernel
theorem d_X12_readStep_109 : decode mt_X12_readStep.2.1 109 = .ok (.iconst 1, 1) := by decide +kernel
theorem d_X12_readStep_110 : decode mt_X12_readStep.2.1 110 = .ok (.iadd, 1) := by decide +kernel
theorem d_X12_readStep_111 : decode mt_X12_readStep.2.1 111 = .ok (.putfield 296, 3) := by decide +kernel
theorem d_X12_readStep_114 : decode mt_X12_readStep.2.1 114 = .ok (.aload_n 0, 1) := by decide +kernel
theorem d_X12_readStep_115 : decode mt_X12_readStep.2.1 115 = .ok (.invokevirtual 210, 3) := by decide +kernel
theorem d_X12_readStep_118 : decode mt_X12_readStep.2.1 118 = .ok (.aload_n 0, 1) := by decide +kernel
theorem d_X12_readStep_119 : decode mt_X12_readStep.2.1 119 = .ok (.getfield 35, 3) := by decide +kernel
theorem d_X12_readStep_122 : decode mt_X12_readStep.2.1 122 = .ok (.iload 4, 2) := by decide +kernel
theorem d_X12_readStep_124 : decode mt_X12_readStep.2.1 124 = .ok (.iload_n 2, 1) := by decide +kernel
theorem d_X12_readStep_125 : decode mt_X12_readStep.2.1 125 = .ok (.iastore, 1) := by decide +kernel
theorem d_X12_readStep_126 : decode mt_X12_readStep.2.1 126 = .ok (.aload_n 0, 1) := by decide +kernel
theorem d_X12_readStep_127 : decode mt_X12_readStep.2.1 127 = .ok (.iload 4, 2) := by decide +kernel
theorem d_X12_readStep_129 : decode mt_X12_readStep.2.1 129 = .ok (.invokevirtual 299, 3) := by decide +kernel
theorem d_X12_readStep_132 : decode mt_X12_readStep.2.1 132 = .ok (.aload_n 0, 1) := by decide +kernel
theorem d_X12_readStep_133 : decode mt_X12_readStep.2.1 133 = .ok (.aload_n 0, 1) := by decide +kernel
theorem d_X12_readStep_134 : decode mt_X12_readStep.2.1 134 = .ok (.bipush 59, 2) := by decide +kernel
theorem d_X12_readStep_136 : decode mt_X12_readStep.2.1 136 = .ok (.invokevirtual 281, 3) := by decide +kernel
theorem d_X12_readStep_139 : decode mt_X12_readStep.2.1 139 = .ok (.invokevirtual 216, 3) := by decide +kernel
theorem d_X12_readStep_142 : decode mt_X12_readStep.2.1 142 = .ok (.iload_n 3, 1) := by decide +kernel
theorem d_X12_readStep_143 : decode mt_X12_readStep.2.1 143 = .ok (.ifCond .eq 27, 3) := by decide +kernel
theorem d_X12_readStep_146 : decode mt_X12_readStep.2.1 146 = .ok (.aload_n 0, 1) := by decide +kernel
theorem d_X12_readStep_147 : decode mt_X12_readStep.2.1 147 = .ok (.getfield 200, 3) := by decide +kernel
theorem d_X12_readStep_150 : decode mt_X12_readStep.2.1 150 = .ok (.ifCond .ne 20, 3) := by decide +kernel
theorem d_X12_readStep_153 : decode mt_X12_readStep.2.1 153 = .ok (.aload_n 0, 1) := by decide +kernel
theorem d_X12_readStep_154 : decode mt_X12_readStep.2.1 154 = .ok (.invokevirtual 194, 3) := by decide +kernel
theorem d_X12_readStep_157 : decode mt_X12_readStep.2.1 157 = .ok (.ifCond .ne 13, 3) := by decide +kernel
theorem d_X12_readStep_160 : decode mt_X12_readStep.2.1 160 = .ok (.aload_n 0, 1) := by decide +kernel
theorem d_X12_readStep_161 : decode mt_X12_readStep.2.1 161 = .ok (.iload_n 1, 1) := by decide +kernel
theorem d_X12_readStep_162 : decode mt_X12_readStep.2.1 162 = .ok (.iconst 1, 1) := by decide +kernel
theorem d_X12_readStep_163 : decode mt_X12_readStep.2.1 163 = .ok (.iadd, 1) := by decide +kernel
theorem d_X12_readStep_164 : decode mt_X12_readStep.2.1 164 = .ok (.invokevirtual 302, 3) := by decide +kernel
theorem d_X12_readStep_167 : decode mt_X12_readStep.2.1 167 = .ok (.goto (-25), 3) := by decide +kernel
theorem d_X12_readStep_170 : decode mt_X12_readStep.2.1 170 = .ok (.iload_n 3, 1) := by decide +kernel
theorem d_X12_readStep_171 : decode mt_X12_readStep.2.1 171 = .ok (.ifCond .eq 21, 3) := by decide +kernel
theorem d_X12_readStep_174 : decode mt_X12_readStep.2.1 174 = .ok (.aload_n 0, 1) := by decide +kernel
theorem d_X12_readStep_175 : decode mt_X12_readStep.2.1 175 = .ok (.aload_n 0, 1) := by decide +kernel
theorem d_X12_readStep_176 : decode mt_X12_readStep.2.1 176 = .ok (.invokevirtual 194, 3) := by decide +kernel
theorem d_X12_readStep_179 : decode mt_X12_readStep.2.1 179 = .ok (.invokevirtual 216, 3) := by decide +kernel
theorem d_X12_readStep_182 : decode mt_X12_readStep.2.1 182 = .ok (.aload_n 0, 1) := by decide +kernel
theorem d_X12_readStep_183 : decode mt_X12_readStep.2.1 183 = .ok (.aload_n 0, 1) := by decide +kernel
theorem d_X12_readStep_184 : decode mt_X12_readStep.2.1 184 = .ok (.bipush 59, 2) := by decide +kernel
theorem d_X12_readStep_186 : decode mt_X12_readStep.2.1 186 = .ok (.invokevirtual 281, 3) := by decide +kernel
theorem d_X12_readStep_189 : decode mt_X12_readStep.2.1 189 = .ok (.invokevirtual 216, 3) := by decide +kernel
theorem d_X12_readStep_192 : decode mt_X12_readStep.2.1 192 = .ok (.aload_n 0, 1) := by decide +kernel
theorem d_X12_readStep_193 : decode mt_X12_readStep.2.1 193 = .ok (.getfield 35, 3) := by decide +kernel
theorem d_X12_readStep_196 : decode mt_X12_readStep.2.1 196 = .ok (.iload 4, 2) := by decide +kernel
theorem d_X12_readStep_198 : decode mt_X12_readStep.2.1 198 = .ok (.bipush 8, 2) := by decide +kernel
theorem d_X12_readStep_200 : decode mt_X12_readStep.2.1 200 = .ok (.iadd, 1) := by decide +kernel
theorem d_X12_readStep_201 : decode mt_X12_readStep.2.1 201 = .ok (.aload_n 0, 1) := by decide +kernel
theorem d_X12_readStep_202 : decode mt_X12_readStep.2.1 202 = .ok (.getfield 296, 3) := by decide +kernel
theorem d_X12_readStep_205 : decode mt_X12_readStep.2.1 205 = .ok (.iastore, 1) := by decide +kernel
theorem d_X12_readStep_206 : decode mt_X12_readStep.2.1 206 = .ok (.return_, 1) := by decide +kernel
noncomputable def f_X12_readStep_b192 (r_X12_readStep : (Int → Int → Mem → Option (Mem))) (v0 v4 : Int) (σ : Mem) : Option (Mem) :=
  (gf Sh σ 12 v0 20).bind fun x41 =>
  (gf Sh σ 12 v0 25).bind fun x42 =>
  (st_ Sh σ 20 x41 (w32 (v4 + 8)) x42).bind fun σ43 =>
  some σ43
theorem L_X12_readStep_b192 {sc : Nat × (Nat → Int32)} {D : Nat} {o : Mem} {r_X12_readStep : (Int → Int → Mem → Option (Mem))} (hr_X12_readStep : ∀ {y0 y1 : Int} {σ : Mem} {o : Mem}, r_X12_readStep y0 y1 σ = some o → (isO Sh 12 y0 = true ∧ Cn mt_X12_readStep D [(2, y0), (0, y1)] Sh σ none Sh o)) {v0 v4 : Int} {σ : Mem} (h : f_X12_readStep_b192 r_X12_readStep v0 v4 σ = some o) : E sc (Fm Sh none Sh o) mt_X12_readStep (D + 9) Sh Sh 192 [(2, v0), (9, 0), (9, 0), (9, 0), (0, v4)] [] Sh σ := by
  unfold f_X12_readStep_b192 at h
  refine E_aload_n d_X12_readStep_192 rfl (by decide) ?_
  refine E_get d_X12_readStep_193 okX12 fl_X12_35 ⟨by decide, rfl⟩ h (fun x41 h => ?_)
  refine E_iload d_X12_readStep_196 rfl ?_
  refine E_bipush d_X12_readStep_198 (c8 rfl) ?_
  refine E_iadd d_X12_readStep_200 ?_
  refine E_aload_n d_X12_readStep_201 rfl (by decide) ?_
  refine E_get d_X12_readStep_202 okX12 fl_X12_296 ⟨by decide, rfl⟩ h (fun x42 h => ?_)
  refine E_iastore d_X12_readStep_205 h (fun σ43 h => ?_)
  cases h
  exact E_vret d_X12_readStep_206 rfl
noncomputable def f_X12_readStep_b170 (r_X12_readStep : (Int → Int → Mem → Option (Mem))) (v0 v3 v4 : Int) (σ : Mem) : Option (Mem) :=
  if v3 = 0 then
    f_X12_readStep_b192 r_X12_readStep v0 v4 σ
  else
    (f_X12_isEnd v0 σ).bind fun r33 =>
    (f_X12_must v0 r33 σ).bind fun r35 =>
    (f_X12_isSign v0 59 r35).bind fun r37 =>
    (f_X12_must v0 r37 r35).bind fun r39 =>
    f_X12_readStep_b192 r_X12_readStep v0 v4 r39
theorem L_X12_readStep_b170 {sc : Nat × (Nat → Int32)} {D : Nat} {o : Mem} {r_X12_readStep : (Int → Int → Mem → Option (Mem))} (hr_X12_readStep : ∀ {y0 y1 : Int} {σ : Mem} {o : Mem}, r_X12_readStep y0 y1 σ = some o → (isO Sh 12 y0 = true ∧ Cn mt_X12_readStep D [(2, y0), (0, y1)] Sh σ none Sh o)) {v0 v3 v4 : Int} {σ : Mem} (h : f_X12_readStep_b170 r_X12_readStep v0 v3 v4 σ = some o) : E sc (Fm Sh none Sh o) mt_X12_readStep (D + 9) Sh Sh 170 [(2, v0), (9, 0), (9, 0), (0, v3), (0, v4)] [] Sh σ := by
  unfold f_X12_readStep_b170 at h
  refine E_iload_n d_X12_readStep_170 rfl ?_
  refine E_if_eq (tgt := 192) d_X12_readStep_171 (by decide) h (fun _ h => ?_) (fun _ h => ?_)
  · exact E_weak (ls' := [(2, v0), (9, 0), (9, 0), (9, 0), (0, v4)]) ⟨Or.inr rfl, Or.inl rfl, Or.inl rfl, Or.inl rfl, Or.inr rfl, trivial⟩ (L_X12_readStep_b192 hr_X12_readStep h)
  · refine E_aload_n d_X12_readStep_174 rfl (by decide) ?_
    refine E_aload_n d_X12_readStep_175 rfl (by decide) ?_
    refine bd h (fun r33 q34 h => ?_)
    refine E_cV (as := []) (st := [(2, v0)]) (a := v0) d_X12_readStep_176 mk_X12_isEnd nl_X12_194 (by omega) ⟨rfl, rfl, Nat.le_of_ble_eq_true rfl⟩ okX12 rfl (L_X12_isEnd q34) ?_
    refine bd h (fun r35 q36 h => ?_)
    refine E_cVv (as := [(0, r33)]) (st := []) (a := v0) d_X12_readStep_179 mk_X12_must nl_X12_216 (by omega) ⟨rfl, rfl, Nat.le_of_ble_eq_true rfl⟩ okX12 rfl (L_X12_must q36) ?_
    refine E_aload_n d_X12_readStep_182 rfl (by decide) ?_
    refine E_aload_n d_X12_readStep_183 rfl (by decide) ?_
    refine E_bipush d_X12_readStep_184 (c8 rfl) ?_
    refine bd h (fun r37 q38 h => ?_)
    refine E_cV (as := [(0, 59)]) (st := [(2, v0)]) (a := v0) d_X12_readStep_186 mk_X12_isSign nl_X12_281 (by omega) ⟨rfl, rfl, Nat.le_of_ble_eq_true rfl⟩ okX12 rfl (L_X12_isSign q38) ?_
    refine bd h (fun r39 q40 h => ?_)
    refine E_cVv (as := [(0, r37)]) (st := []) (a := v0) d_X12_readStep_189 mk_X12_must nl_X12_216 (by omega) ⟨rfl, rfl, Nat.le_of_ble_eq_true rfl⟩ okX12 rfl (L_X12_must q40) ?_
    exact E_weak (ls' := [(2, v0), (9, 0), (9, 0), (9, 0), (0, v4)]) ⟨Or.inr rfl, Or.inl rfl, Or.inl rfl, Or.inl rfl, Or.inr rfl, trivial⟩ (L_X12_readStep_b192 hr_X12_readStep h)
noncomputable def f_X12_readStep_b142 (r_X12_readStep : (Int → Int → Mem → Option (Mem))) (k142 : (Int → Int → Int → Int → Mem → Option (Mem))) (v0 v1 v3 v4 : Int) (σ : Mem) : Option (Mem) :=
  if v3 = 0 then
    f_X12_readStep_b170 r_X12_readStep v0 v3 v4 σ
  else
    (gf Sh σ 12 v0 12).bind fun x28 =>
    if x28 = 0 then
      (f_X12_isEnd v0 σ).bind fun r29 =>
      if r29 = 0 then
        (r_X12_readStep v0 (w32 (v1 + 1)) σ).bind fun r31 =>
        k142 v0 v1 v3 v4 r31
      else
        f_X12_readStep_b170 r_X12_readStep v0 v3 v4 σ
    else
      f_X12_readStep_b170 r_X12_readStep v0 v3 v4 σ
theorem L_X12_readStep_b142 {sc : Nat × (Nat → Int32)} {D : Nat} {o : Mem} {r_X12_readStep : (Int → Int → Mem → Option (Mem))} (hr_X12_readStep : ∀ {y0 y1 : Int} {σ : Mem} {o : Mem}, r_X12_readStep y0 y1 σ = some o → (isO Sh 12 y0 = true ∧ Cn mt_X12_readStep D [(2, y0), (0, y1)] Sh σ none Sh o)) {k142 : (Int → Int → Int → Int → Mem → Option (Mem))} (hk142 : ∀ {v0 v1 v3 v4 : Int} {σ : Mem}, k142 v0 v1 v3 v4 σ = some o → E sc (Fm Sh none Sh o) mt_X12_readStep (D + 9) Sh Sh 142 [(2, v0), (0, v1), (9, 0), (0, v3), (0, v4)] [] Sh σ) {v0 v1 v3 v4 : Int} {σ : Mem} (h : f_X12_readStep_b142 r_X12_readStep k142 v0 v1 v3 v4 σ = some o) : E sc (Fm Sh none Sh o) mt_X12_readStep (D + 9) Sh Sh 142 [(2, v0), (0, v1), (9, 0), (0, v3), (0, v4)] [] Sh σ := by
  unfold f_X12_readStep_b142 at h
  refine E_iload_n d_X12_readStep_142 rfl ?_
  refine E_if_eq (tgt := 170) d_X12_readStep_143 (by decide) h (fun _ h => ?_) (fun _ h => ?_)
  · exact E_weak (ls' := [(2, v0), (9, 0), (9, 0), (0, v3), (0, v4)]) ⟨Or.inr rfl, Or.inl rfl, Or.inl rfl, Or.inr rfl, Or.inr rfl, trivial⟩ (L_X12_readStep_b170 hr_X12_readStep h)
  · refine E_aload_n d_X12_readStep_146 rfl (by decide) ?_
    refine E_get d_X12_readStep_147 okX12 fl_X12_200 ⟨by decide, rfl⟩ h (fun x28 h => ?_)
    refine E_if_ne (tgt := 170) d_X12_readStep_150 (by decide) h (fun _ h => ?_) (fun _ h => ?_)
    · refine E_aload_n d_X12_readStep_153 rfl (by decide) ?_
      refine bd h (fun r29 q30 h => ?_)
      refine E_cV (as := []) (st := []) (a := v0) d_X12_readStep_154 mk_X12_isEnd nl_X12_194 (by omega) ⟨rfl, rfl, Nat.le_of_ble_eq_true rfl⟩ okX12 rfl (L_X12_isEnd q30) ?_
      refine E_if_ne (tgt := 170) d_X12_readStep_157 (by decide) h (fun _ h => ?_) (fun _ h => ?_)
      · refine E_aload_n d_X12_readStep_160 rfl (by decide) ?_
        refine E_iload_n d_X12_readStep_161 rfl ?_
        refine E_iconst d_X12_readStep_162 (c32 rfl) ?_
        refine E_iadd d_X12_readStep_163 ?_
        refine bd h (fun r31 q32 h => ?_)
        refine E_cVv (as := [(0, w32 (v1 + 1))]) (st := []) (a := v0) d_X12_readStep_164 mk_X12_readStep nl_X12_302 (by omega) ⟨rfl, rfl, Nat.le_of_ble_eq_true rfl⟩ okX12 rfl (hr_X12_readStep q32) ?_
        refine E_goto (tgt := 142) d_X12_readStep_167 (by decide) ?_
        exact (hk142 h)
      · exact E_weak (ls' := [(2, v0), (9, 0), (9, 0), (0, v3), (0, v4)]) ⟨Or.inr rfl, Or.inl rfl, Or.inl rfl, Or.inr rfl, Or.inr rfl, trivial⟩ (L_X12_readStep_b170 hr_X12_readStep h)
    · exact E_weak (ls' := [(2, v0), (9, 0), (9, 0), (0, v3), (0, v4)]) ⟨Or.inr rfl, Or.inl rfl, Or.inl rfl, Or.inr rfl, Or.inr rfl, trivial⟩ (L_X12_readStep_b170 hr_X12_readStep h)
noncomputable def f_X12_readStep_h142 (r_X12_readStep : (Int → Int → Mem → Option (Mem))) (n : Nat) : Int → Int → Int → Int → Mem → Option (Mem) := Nat.rec (motive := fun _ => Int → Int → Int → Int → Mem → Option (Mem)) (fun _ _ _ _ _ => none) (fun _ ih => f_X12_readStep_b142 r_X12_readStep (ih)) n
theorem L_X12_readStep_h142 {sc : Nat × (Nat → Int32)} {D : Nat} {o : Mem} {r_X12_readStep : (Int → Int → Mem → Option (Mem))} (hr_X12_readStep : ∀ {y0 y1 : Int} {σ : Mem} {o : Mem}, r_X12_readStep y0 y1 σ = some o → (isO Sh 12 y0 = true ∧ Cn mt_X12_readStep D [(2, y0), (0, y1)] Sh σ none Sh o)) : ∀ (n : Nat) {v0 v1 v3 v4 : Int} {σ : Mem}, f_X12_readStep_h142 r_X12_readStep n v0 v1 v3 v4 σ = some o → E sc (Fm Sh none Sh o) mt_X12_readStep (D + 9) Sh Sh 142 [(2, v0), (0, v1), (9, 0), (0, v3), (0, v4)] [] Sh σ := by
  intro n
  induction n with
  | zero => intro v0 v1 v3 v4 σ h; cases h
  | succ n ih => intro v0 v1 v3 v4 σ h; exact L_X12_readStep_b142 hr_X12_readStep (@ih) h
noncomputable def f_X12_readStep_b83 (r_X12_readStep : (Int → Int → Mem → Option (Mem))) (v0 v1 v2 v3 : Int) (σ : Mem) : Option (Mem) :=
  (gf Sh σ 12 v0 12).bind fun x14 =>
  if x14 ≤ 0 then
    (gf Sh σ 12 v0 25).bind fun x15 =>
    (gf Sh σ 12 v0 25).bind fun x16 =>
    (pf Sh σ 12 v0 25 (w32 (x16 + 1))).bind fun σ17 =>
    (f_X12_advance v0 σ17).bind fun r18 =>
    (gf Sh r18 12 v0 20).bind fun x20 =>
    (st_ Sh r18 20 x20 (w32 (1365 + (w32 (9 * x15)))) v2).bind fun σ21 =>
    (f_X12_readRest v0 (w32 (1365 + (w32 (9 * x15)))) σ21).bind fun r22 =>
    (f_X12_isSign v0 59 r22).bind fun r24 =>
    (f_X12_must v0 r24 r22).bind fun r26 =>
    f_X12_readStep_h142 r_X12_readStep FU v0 v1 v3 (w32 (1365 + (w32 (9 * x15)))) r26
  else
    some σ
theorem L_X12_readStep_b83 {sc : Nat × (Nat → Int32)} {D : Nat} {o : Mem} {r_X12_readStep : (Int → Int → Mem → Option (Mem))} (hr_X12_readStep : ∀ {y0 y1 : Int} {σ : Mem} {o : Mem}, r_X12_readStep y0 y1 σ = some o → (isO Sh 12 y0 = true ∧ Cn mt_X12_readStep D [(2, y0), (0, y1)] Sh σ none Sh o)) {v0 v1 v2 v3 : Int} {σ : Mem} (h : f_X12_readStep_b83 r_X12_readStep v0 v1 v2 v3 σ = some o) : E sc (Fm Sh none Sh o) mt_X12_readStep (D + 9) Sh Sh 83 [(2, v0), (0, v1), (0, v2), (0, v3), (9, 0)] [] Sh σ := by
  unfold f_X12_readStep_b83 at h
  refine E_aload_n d_X12_readStep_83 rfl (by decide) ?_
  refine E_get d_X12_readStep_84 okX12 fl_X12_200 ⟨by decide, rfl⟩ h (fun x14 h => ?_)
  refine E_if_le (tgt := 91) d_X12_readStep_87 (by decide) h (fun _ h => ?_) (fun _ h => ?_)
  · refine E_sipush d_X12_readStep_91 (c16 rfl) ?_
    refine E_bipush d_X12_readStep_94 (c8 rfl) ?_
    refine E_aload_n d_X12_readStep_96 rfl (by decide) ?_
    refine E_get d_X12_readStep_97 okX12 fl_X12_296 ⟨by decide, rfl⟩ h (fun x15 h => ?_)
    refine E_imul d_X12_readStep_100 ?_
    refine E_iadd d_X12_readStep_101 ?_
    refine E_istore d_X12_readStep_102 (ls' := [(2, v0), (0, v1), (0, v2), (0, v3), (0, w32 (1365 + (w32 (9 * x15))))]) ⟨by decide, rfl⟩ ?_
    refine E_aload_n d_X12_readStep_104 rfl (by decide) ?_
    refine E_dupT d_X12_readStep_105 (by decide) ?_
    refine E_get d_X12_readStep_106 okX12 fl_X12_296 ⟨by decide, rfl⟩ h (fun x16 h => ?_)
    refine E_iconst d_X12_readStep_109 (c32 rfl) ?_
    refine E_iadd d_X12_readStep_110 ?_
    refine E_put d_X12_readStep_111 okX12 fl_X12_296 ⟨by decide, rfl⟩ (Or.inl ⟨rfl, rfl⟩) (Or.inl rfl) h (fun σ17 h => ?_)
    refine E_aload_n d_X12_readStep_114 rfl (by decide) ?_
    refine bd h (fun r18 q19 h => ?_)
    refine E_cVv (as := []) (st := []) (a := v0) d_X12_readStep_115 mk_X12_advance nl_X12_210 (by omega) ⟨rfl, rfl, Nat.le_of_ble_eq_true rfl⟩ okX12 rfl (L_X12_advance q19) ?_
    refine E_aload_n d_X12_readStep_118 rfl (by decide) ?_
    refine E_get d_X12_readStep_119 okX12 fl_X12_35 ⟨by decide, rfl⟩ h (fun x20 h => ?_)
    refine E_iload d_X12_readStep_122 rfl ?_
    refine E_iload_n d_X12_readStep_124 rfl ?_
    refine E_iastore d_X12_readStep_125 h (fun σ21 h => ?_)
    refine E_aload_n d_X12_readStep_126 rfl (by decide) ?_
    refine E_iload d_X12_readStep_127 rfl ?_
    refine bd h (fun r22 q23 h => ?_)
    refine E_cVv (as := [(0, w32 (1365 + (w32 (9 * x15))))]) (st := []) (a := v0) d_X12_readStep_129 mk_X12_readRest nl_X12_299 (by omega) ⟨rfl, rfl, Nat.le_of_ble_eq_true rfl⟩ okX12 rfl (L_X12_readRest q23) ?_
    refine E_aload_n d_X12_readStep_132 rfl (by decide) ?_
    refine E_aload_n d_X12_readStep_133 rfl (by decide) ?_
    refine E_bipush d_X12_readStep_134 (c8 rfl) ?_
    refine bd h (fun r24 q25 h => ?_)
    refine E_cV (as := [(0, 59)]) (st := [(2, v0)]) (a := v0) d_X12_readStep_136 mk_X12_isSign nl_X12_281 (by omega) ⟨rfl, rfl, Nat.le_of_ble_eq_true rfl⟩ okX12 rfl (L_X12_isSign q25) ?_
    refine bd h (fun r26 q27 h => ?_)
    refine E_cVv (as := [(0, r24)]) (st := []) (a := v0) d_X12_readStep_139 mk_X12_must nl_X12_216 (by omega) ⟨rfl, rfl, Nat.le_of_ble_eq_true rfl⟩ okX12 rfl (L_X12_must q27) ?_
    exact E_weak (ls' := [(2, v0), (0, v1), (9, 0), (0, v3), (0, w32 (1365 + (w32 (9 * x15))))]) ⟨Or.inr rfl, Or.inr rfl, Or.inl rfl, Or.inr rfl, Or.inr rfl, trivial⟩ (L_X12_readStep_h142 hr_X12_readStep FU h)
  · cases h
    exact E_vret d_X12_readStep_90 rfl
noncomputable def f_X12_readStep_b57 (r_X12_readStep : (Int → Int → Mem → Option (Mem))) (v0 v1 v2 v3 : Int) (σ : Mem) : Option (Mem) :=
  (gf Sh σ 12 v0 12).bind fun x10 =>
  if x10 = 0 then
    if v3 = 0 then
      f_X12_readStep_b83 r_X12_readStep v0 v1 v2 v3 σ
    else
      if v1 = 3 then
        (gf Sh σ 12 v0 15).bind fun x11 =>
        (f_X12_fail v0 7 x11 σ).bind fun r12 =>
        f_X12_readStep_b83 r_X12_readStep v0 v1 v2 v3 r12
      else
        f_X12_readStep_b83 r_X12_readStep v0 v1 v2 v3 σ
  else
    f_X12_readStep_b83 r_X12_readStep v0 v1 v2 v3 σ
theorem L_X12_readStep_b57 {sc : Nat × (Nat → Int32)} {D : Nat} {o : Mem} {r_X12_readStep : (Int → Int → Mem → Option (Mem))} (hr_X12_readStep : ∀ {y0 y1 : Int} {σ : Mem} {o : Mem}, r_X12_readStep y0 y1 σ = some o → (isO Sh 12 y0 = true ∧ Cn mt_X12_readStep D [(2, y0), (0, y1)] Sh σ none Sh o)) {v0 v1 v2 v3 : Int} {σ : Mem} (h : f_X12_readStep_b57 r_X12_readStep v0 v1 v2 v3 σ = some o) : E sc (Fm Sh none Sh o) mt_X12_readStep (D + 9) Sh Sh 57 [(2, v0), (0, v1), (0, v2), (0, v3), (9, 0)] [] Sh σ := by
  unfold f_X12_readStep_b57 at h
  refine E_aload_n d_X12_readStep_57 rfl (by decide) ?_
  refine E_get d_X12_readStep_58 okX12 fl_X12_200 ⟨by decide, rfl⟩ h (fun x10 h => ?_)
  refine E_if_ne (tgt := 83) d_X12_readStep_61 (by decide) h (fun _ h => ?_) (fun _ h => ?_)
  · refine E_iload_n d_X12_readStep_64 rfl ?_
    refine E_if_eq (tgt := 83) d_X12_readStep_65 (by decide) h (fun _ h => ?_) (fun _ h => ?_)
    · exact (L_X12_readStep_b83 hr_X12_readStep h)
    · refine E_iload_n d_X12_readStep_68 rfl ?_
      refine E_iconst d_X12_readStep_69 (c32 rfl) ?_
      refine E_icmp_ne (tgt := 83) d_X12_readStep_70 (by decide) h (fun _ h => ?_) (fun _ h => ?_)
      · refine E_aload_n d_X12_readStep_73 rfl (by decide) ?_
        refine E_bipush d_X12_readStep_74 (c8 rfl) ?_
        refine E_aload_n d_X12_readStep_76 rfl (by decide) ?_
        refine E_get d_X12_readStep_77 okX12 fl_X12_118 ⟨by decide, rfl⟩ h (fun x11 h => ?_)
        refine bd h (fun r12 q13 h => ?_)
        refine E_cVv (as := [(0, 7), (0, x11)]) (st := []) (a := v0) d_X12_readStep_80 mk_X12_fail nl_X12_206 (by omega) ⟨rfl, rfl, Nat.le_of_ble_eq_true rfl⟩ okX12 rfl (L_X12_fail q13) ?_
        exact (L_X12_readStep_b83 hr_X12_readStep h)
      · exact (L_X12_readStep_b83 hr_X12_readStep h)
  · exact (L_X12_readStep_b83 hr_X12_readStep h)
noncomputable def f_X12_readStep_b31 (r_X12_readStep : (Int → Int → Mem → Option (Mem))) (v0 v1 v2 v3 : Int) (σ : Mem) : Option (Mem) :=
  (gf Sh σ 12 v0 12).bind fun x5 =>
  if x5 = 0 then
    (gf Sh σ 12 v0 25).bind fun x6 =>
    if x6 = 30 then
      (gf Sh σ 12 v0 15).bind fun x7 =>
      (f_X12_fail v0 6 x7 σ).bind fun r8 =>
      f_X12_readStep_b57 r_X12_readStep v0 v1 v2 v3 r8
    else
      f_X12_readStep_b57 r_X12_readStep v0 v1 v2 v3 σ
  else
    f_X12_readStep_b57 r_X12_readStep v0 v1 v2 v3 σ
theorem L_X12_readStep_b31 {sc : Nat × (Nat → Int32)} {D : Nat} {o : Mem} {r_X12_readStep : (Int → Int → Mem → Option (Mem))} (hr_X12_readStep : ∀ {y0 y1 : Int} {σ : Mem} {o : Mem}, r_X12_readStep y0 y1 σ = some o → (isO Sh 12 y0 = true ∧ Cn mt_X12_readStep D [(2, y0), (0, y1)] Sh σ none Sh o)) {v0 v1 v2 v3 : Int} {σ : Mem} (h : f_X12_readStep_b31 r_X12_readStep v0 v1 v2 v3 σ = some o) : E sc (Fm Sh none Sh o) mt_X12_readStep (D + 9) Sh Sh 31 [(2, v0), (0, v1), (0, v2), (0, v3), (9, 0)] [] Sh σ := by
  unfold f_X12_readStep_b31 at h
  refine E_aload_n d_X12_readStep_31 rfl (by decide) ?_
  refine E_get d_X12_readStep_32 okX12 fl_X12_200 ⟨by decide, rfl⟩ h (fun x5 h => ?_)
  refine E_if_ne (tgt := 57) d_X12_readStep_35 (by decide) h (fun _ h => ?_) (fun _ h => ?_)
  · refine E_aload_n d_X12_readStep_38 rfl (by decide) ?_
    refine E_get d_X12_readStep_39 okX12 fl_X12_296 ⟨by decide, rfl⟩ h (fun x6 h => ?_)
    refine E_bipush d_X12_readStep_42 (c8 rfl) ?_
    refine E_icmp_ne (tgt := 57) d_X12_readStep_44 (by decide) h (fun _ h => ?_) (fun _ h => ?_)
    · refine E_aload_n d_X12_readStep_47 rfl (by decide) ?_
      refine E_bipush d_X12_readStep_48 (c8 rfl) ?_
      refine E_aload_n d_X12_readStep_50 rfl (by decide) ?_
      refine E_get d_X12_readStep_51 okX12 fl_X12_118 ⟨by decide, rfl⟩ h (fun x7 h => ?_)
      refine bd h (fun r8 q9 h => ?_)
      refine E_cVv (as := [(0, 6), (0, x7)]) (st := []) (a := v0) d_X12_readStep_54 mk_X12_fail nl_X12_206 (by omega) ⟨rfl, rfl, Nat.le_of_ble_eq_true rfl⟩ okX12 rfl (L_X12_fail q9) ?_
      exact (L_X12_readStep_b57 hr_X12_readStep h)
    · exact (L_X12_readStep_b57 hr_X12_readStep h)
  · exact (L_X12_readStep_b57 hr_X12_readStep h)
noncomputable def f_X12_readStep_b22 (r_X12_readStep : (Int → Int → Mem → Option (Mem))) (v0 v1 v2 s0 : Int) (σ : Mem) : Option (Mem) :=
  if 0 ≤ v2 then
    f_X12_readStep_b31 r_X12_readStep v0 v1 v2 s0 σ
  else
    (f_X12_amiss v0 σ).bind fun r3 =>
    f_X12_readStep_b31 r_X12_readStep v0 v1 v2 s0 r3
theorem L_X12_readStep_b22 {sc : Nat × (Nat → Int32)} {D : Nat} {o : Mem} {r_X12_readStep : (Int → Int → Mem → Option (Mem))} (hr_X12_readStep : ∀ {y0 y1 : Int} {σ : Mem} {o : Mem}, r_X12_readStep y0 y1 σ = some o → (isO Sh 12 y0 = true ∧ Cn mt_X12_readStep D [(2, y0), (0, y1)] Sh σ none Sh o)) {v0 v1 v2 s0 : Int} {σ : Mem} (h : f_X12_readStep_b22 r_X12_readStep v0 v1 v2 s0 σ = some o) : E sc (Fm Sh none Sh o) mt_X12_readStep (D + 9) Sh Sh 22 [(2, v0), (0, v1), (0, v2), (9, 0), (9, 0)] [(0, s0)] Sh σ := by
  unfold f_X12_readStep_b22 at h
  refine E_istore_n d_X12_readStep_22 (ls' := [(2, v0), (0, v1), (0, v2), (0, s0), (9, 0)]) ⟨by decide, rfl⟩ ?_
  refine E_iload_n d_X12_readStep_23 rfl ?_
  refine E_if_ge (tgt := 31) d_X12_readStep_24 (by decide) h (fun _ h => ?_) (fun _ h => ?_)
  · exact (L_X12_readStep_b31 hr_X12_readStep h)
  · refine E_aload_n d_X12_readStep_27 rfl (by decide) ?_
    refine bd h (fun r3 q4 h => ?_)
    refine E_cVv (as := []) (st := []) (a := v0) d_X12_readStep_28 mk_X12_amiss nl_X12_213 (by omega) ⟨rfl, rfl, Nat.le_of_ble_eq_true rfl⟩ okX12 rfl (L_X12_amiss q4) ?_
    exact (L_X12_readStep_b31 hr_X12_readStep h)
noncomputable def f_X12_readStep_b17 (r_X12_readStep : (Int → Int → Mem → Option (Mem))) (v0 v1 v2 : Int) (σ : Mem) : Option (Mem) :=
  f_X12_readStep_b22 r_X12_readStep v0 v1 v2 1 σ
theorem L_X12_readStep_b17 {sc : Nat × (Nat → Int32)} {D : Nat} {o : Mem} {r_X12_readStep : (Int → Int → Mem → Option (Mem))} (hr_X12_readStep : ∀ {y0 y1 : Int} {σ : Mem} {o : Mem}, r_X12_readStep y0 y1 σ = some o → (isO Sh 12 y0 = true ∧ Cn mt_X12_readStep D [(2, y0), (0, y1)] Sh σ none Sh o)) {v0 v1 v2 : Int} {σ : Mem} (h : f_X12_readStep_b17 r_X12_readStep v0 v1 v2 σ = some o) : E sc (Fm Sh none Sh o) mt_X12_readStep (D + 9) Sh Sh 17 [(2, v0), (0, v1), (0, v2), (9, 0), (9, 0)] [] Sh σ := by
  unfold f_X12_readStep_b17 at h
  refine E_iconst d_X12_readStep_17 (c32 rfl) ?_
  refine E_goto (tgt := 22) d_X12_readStep_18 (by decide) ?_
  exact (L_X12_readStep_b22 hr_X12_readStep h)
noncomputable def f_X12_readStep_b0 (r_X12_readStep : (Int → Int → Mem → Option (Mem))) (v0 v1 : Int) (σ : Mem) : Option (Mem) :=
  (f_X12_stepWord v0 σ).bind fun r1 =>
  if r1 = 7 then
    f_X12_readStep_b17 r_X12_readStep v0 v1 r1 σ
  else
    if r1 = 8 then
      f_X12_readStep_b17 r_X12_readStep v0 v1 r1 σ
    else
      f_X12_readStep_b22 r_X12_readStep v0 v1 r1 0 σ
theorem L_X12_readStep_b0 {sc : Nat × (Nat → Int32)} {D : Nat} {o : Mem} {r_X12_readStep : (Int → Int → Mem → Option (Mem))} (hr_X12_readStep : ∀ {y0 y1 : Int} {σ : Mem} {o : Mem}, r_X12_readStep y0 y1 σ = some o → (isO Sh 12 y0 = true ∧ Cn mt_X12_readStep D [(2, y0), (0, y1)] Sh σ none Sh o)) {v0 v1 : Int} {σ : Mem} (h : f_X12_readStep_b0 r_X12_readStep v0 v1 σ = some o) : E sc (Fm Sh none Sh o) mt_X12_readStep (D + 9) Sh Sh 0 [(2, v0), (0, v1), (9, 0), (9, 0), (9, 0)] [] Sh σ := by
  unfold f_X12_readStep_b0 at h
  refine E_aload_n d_X12_readStep_0 rfl (by decide) ?_
  refine bd h (fun r1 q2 h => ?_)
  refine E_cV (as := []) (st := []) (a := v0) d_X12_readStep_1 mk_X12_stepWord nl_X12_188 (by omega) ⟨rfl, rfl, Nat.le_of_ble_eq_true rfl⟩ okX12 rfl (L_X12_stepWord q2) ?_
  refine E_istore_n d_X12_readStep_4 (ls' := [(2, v0), (0, v1), (0, r1), (9, 0), (9, 0)]) ⟨by decide, rfl⟩ ?_
  refine E_iload_n d_X12_readStep_5 rfl ?_
  refine E_bipush d_X12_readStep_6 (c8 rfl) ?_
  refine E_icmp_eq (tgt := 17) d_X12_readStep_8 (by decide) h (fun _ h => ?_) (fun _ h => ?_)
  · exact (L_X12_readStep_b17 hr_X12_readStep h)
  · refine E_iload_n d_X12_readStep_11 rfl ?_
    refine E_bipush d_X12_readStep_12 (c8 rfl) ?_
    refine E_icmp_ne (tgt := 21) d_X12_readStep_14 (by decide) h (fun _ h => ?_) (fun _ h => ?_)
    · exact (L_X12_readStep_b17 hr_X12_readStep h)
    · refine E_iconst d_X12_readStep_21 (c32 rfl) ?_
      exact (L_X12_readStep_b22 hr_X12_readStep h)
noncomputable def f_X12_readStep_body (r_X12_readStep : (Int → Int → Mem → Option (Mem))) (v0 v1 : Int) (σ : Mem) : Option (Mem) := if isO Sh 12 v0 = true then f_X12_readStep_b0 r_X12_readStep v0 v1 σ else none
theorem L_X12_readStep_body {D : Nat} {o : Mem} {r_X12_readStep : (Int → Int → Mem → Option (Mem))} (hr_X12_readStep : ∀ {y0 y1 : Int} {σ : Mem} {o : Mem}, r_X12_readStep y0 y1 σ = some o → (isO Sh 12 y0 = true ∧ Cn mt_X12_readStep D [(2, y0), (0, y1)] Sh σ none Sh o)) {v0 v1 : Int} {σ : Mem} (h : f_X12_readStep_body r_X12_readStep v0 v1 σ = some o) : (isO Sh 12 v0 = true ∧ Cn mt_X12_readStep (D + 9) [(2, v0), (0, v1)] Sh σ none Sh o) := ⟨(ite_ok h).1, Cn_of mk_X12_readStep.1.2.2.1 (Nat.le_of_ble_eq_true rfl) (fun sc => L_X12_readStep_b0 hr_X12_readStep (ite_ok h).2)⟩
noncomputable def f_X12_readStep (n : Nat) : Int → Int → Mem → Option (Mem) := Nat.rec (motive := fun _ => Int → Int → Mem → Option (Mem)) (fun _ _ _ => none) (fun _ ih => f_X12_readStep_body ih) n
theorem L_X12_readStep : ∀ (n : Nat) {v0 v1 : Int} {σ : Mem} {o : Mem}, f_X12_readStep n v0 v1 σ = some o → (isO Sh 12 v0 = true ∧ Cn mt_X12_readStep (n * 9) [(2, v0), (0, v1)] Sh σ none Sh o) := by
  intro n
  induction n with
  | zero => intro v0 v1 σ o h; cases h
  | succ n ih => intro v0 v1 σ o h; rw [Nat.succ_mul]; exact L_X12_readStep_body (@ih) h
theorem d_X12_terms_0 : decode mt_X12_terms.2.1 0 = .ok (.aload_n 0, 1) := by decide +kernel
theorem d_X12_terms_1 : decode mt_X12_terms.2.1 1 = .ok (.iconst 0, 1) := by decide +kernel
theorem d_X12_terms_2 : decode mt_X12_terms.2.1 2 = .ok (.putfield 70, 3) := by decide +kernel
theorem d_X12_terms_5 : decode mt_X12_terms.2.1 5 = .ok (.aload_n 0, 1) := by decide +kernel
theorem d_X12_terms_6 : decode mt_X12_terms.2.1 6 = .ok (.iconst 0, 1) := by decide +kernel
theorem d_X12_terms_7 : decode mt_X12_terms.2.1 7 = .ok (.putfield 73, 3) := by decide +kernel
theorem d_X12_terms_10 : decode mt_X12_terms.2.1 10 = .ok (.aload_n 0, 1) := by decide +kernel
theorem d_X12_terms_11 : decode mt_X12_terms.2.1 11 = .ok (.iload_n 1, 1) := by decide +kernel
theorem d_X12_terms_12 : decode mt_X12_terms.2.1 12 = .ok (.sipush 300, 3) := by decide +kernel
theorem d_X12_terms_15 : decode mt_X12_terms.2.1 15 = .ok (.invokevirtual 275, 3) := by decide +kernel
theorem d_X12_terms_18 : decode mt_X12_terms.2.1 18 = .ok (.ifCond .ne 5, 3) := by decide +kernel
theorem d_X12_terms_21 : decode mt_X12_terms.2.1 21 = .ok (.iconst (-1), 1) := by decide +kernel
theorem d_X12_terms_22 : decode mt_X12_terms.2.1 22 = .ok (.ireturn, 1) := by decide +kernel
theorem d_X12_terms_23 : decode mt_X12_terms.2.1 23 = .ok (.aload_n 0, 1) := by decide +kernel
theorem d_X12_terms_24 : decode mt_X12_terms.2.1 24 = .ok (.iconst 0, 1) := by decide +kernel
theorem d_X12_terms_25 : decode mt_X12_terms.2.1 25 = .ok (.putfield 296, 3) := by decide +kernel
theorem d_X12_terms_28 : decode mt_X12_terms.2.1 28 = .ok (.aload_n 0, 1) := by decide +kernel
theorem d_X12_terms_29 : decode mt_X12_terms.2.1 29 = .ok (.getfield 200, 3) := by decide +kernel
theorem d_X12_terms_32 : decode mt_X12_terms.2.1 32 = .ok (.ifCond .ne 18, 3) := by decide +kernel
theorem d_X12_terms_35 : decode mt_X12_terms.2.1 35 = .ok (.aload_n 0, 1) := by decide +kernel
theorem d_X12_terms_36 : decode mt_X12_terms.2.1 36 = .ok (.getfield 124, 3) := by decide +kernel
theorem d_X12_terms_39 : decode mt_X12_terms.2.1 39 = .ok (.ifCond .eq 11, 3) := by decide +kernel
theorem d_X12_terms_42 : decode mt_X12_terms.2.1 42 = .ok (.aload_n 0, 1) := by decide +kernel
theorem d_X12_terms_43 : decode mt_X12_terms.2.1 43 = .ok (.iconst 0, 1) := by decide +kernel
theorem d_X12_terms_44 : decode mt_X12_terms.2.1 44 = .ok (.invokevirtual 302, 3) := by decide +kernel
theorem d_X12_terms_47 : decode mt_X12_terms.2.1 47 = .ok (.goto (-19), 3) := by decide +kernel
theorem d_X12_terms_50 : decode mt_X12_terms.2.1 50 = .ok (.aload_n 0, 1) := by decide +kernel
theorem d_X12_terms_51 : decode mt_X12_terms.2.1 51 = .ok (.invokevirtual 284, 3) := by decide +kernel
theorem d_X12_terms_54 : decode mt_X12_terms.2.1 54 = .ok (.ifCond .ne 5, 3) := by decide +kernel
theorem d_X12_terms_57 : decode mt_X12_terms.2.1 57 = .ok (.iconst (-1), 1) := by decide +kernel
theorem d_X12_terms_58 : decode mt_X12_terms.2.1 58 = .ok (.ireturn, 1) := by decide +kernel
theorem d_X12_terms_59 : decode mt_X12_terms.2.1 59 = .ok (.aload_n 0, 1) := by decide +kernel
theorem d_X12_terms_60 : decode mt_X12_terms.2.1 60 = .ok (.getfield 35, 3) := by decide +kernel
theorem d_X12_terms_63 : decode mt_X12_terms.2.1 63 = .ok (.bipush 55, 2) := by decide +kernel
theorem d_X12_terms_65 : decode mt_X12_terms.2.1 65 = .ok (.iconst 1, 1) := by decide +kernel
theorem d_X12_terms_66 : decode mt_X12_terms.2.1 66 = .ok (.iastore, 1) := by decide +kernel
theorem d_X12_terms_67 : decode mt_X12_terms.2.1 67 = .ok (.aload_n 0, 1) := by decide +kernel
theorem d_X12_terms_68 : decode mt_X12_terms.2.1 68 = .ok (.getfield 35, 3) := by decide +kernel
theorem d_X12_terms_71 : decode mt_X12_terms.2.1 71 = .ok (.bipush 56, 2) := by decide +kernel
theorem d_X12_terms_73 : decode mt_X12_terms.2.1 73 = .ok (.aload_n 0, 1) := by decide +kernel
theorem d_X12_terms_74 : decode mt_X12_terms.2.1 74 = .ok (.getfield 296, 3) := by decide +kernel
theorem d_X12_terms_77 : decode mt_X12_terms.2.1 77 = .ok (.iastore, 1) := by decide +kernel
theorem d_X12_terms_78 : decode mt_X12_terms.2.1 78 = .ok (.iconst 0, 1) := by decide +kernel
theorem d_X12_terms_79 : decode mt_X12_terms.2.1 79 = .ok (.istore_n 2, 1) := by decide +kernel
theorem d_X12_terms_80 : decode mt_X12_terms.2.1 80 = .ok (.iload_n 2, 1) := by decide +kernel
theorem d_X12_terms_81 : decode mt_X12_terms.2.1 81 = .ok (.bipush 9, 2) := by decide +kernel
theorem d_X12_terms_83 : decode mt_X12_terms.2.1 83 = .ok (.aload_n 0, 1) := by decide +kernel
theorem d_X12_terms_84 : decode mt_X12_terms.2.1 84 = .ok (.getfield 296, 3) := by decide +kernel
theorem d_X12_terms_87 : decode mt_X12_terms.2.1 87 = .ok (.imul, 1) := by decide +kernel
theorem d_X12_terms_88 : decode mt_X12_terms.2.1 88 = .ok (.if_icmp .ge 28, 3) := by decide +kernel
theorem d_X12_terms_91 : decode mt_X12_terms.2.1 91 = .ok (.aload_n 0, 1) := by decide +kernel
theorem d_X12_terms_92 : decode mt_X12_terms.2.1 92 = .ok (.getfield 35, 3) := by decide +kernel
theorem d_X12_terms_95 : decode mt_X12_terms.2.1 95 = .ok (.bipush 57, 2) := by decide +kernel
theorem d_X12_terms_97 : decode mt_X12_terms.2.1 97 = .ok (.iload_n 2, 1) := by decide +kernel
theorem d_X12_terms_98 : decode mt_X12_terms.2.1 98 = .ok (.iadd, 1) := by decide +kernel
theorem d_X12_terms_99 : decode mt_X12_terms.2.1 99 = .ok (.aload_n 0, 1) := by decide +kernel
theorem d_X12_terms_100 : decode mt_X12_terms.2.1 100 = .ok (.getfield 35, 3) := by decide +kernel
theorem d_X12_terms_103 : decode mt_X12_terms.2.1 103 = .ok (.sipush 1365, 3) := by decide +kernel
theorem d_X12_terms_106 : decode mt_X12_terms.2.1 106 = .ok (.iload_n 2, 1) := by decide +kernel
theorem d_X12_terms_107 : decode mt_X12_terms.2.1 107 = .ok (.iadd, 1) := by decide +kernel
theorem d_X12_terms_108 : decode mt_X12_terms.2.1 108 = .ok (.iaload, 1) := by decide +kernel
theorem d_X12_terms_109 : decode mt_X12_terms.2.1 109 = .ok (.iastore, 1) := by decide +kernel
theorem d_X12_terms_110 : decode mt_X12_terms.2.1 110 = .ok (.iinc 2 1, 3) := by decide +kernel
theorem d_X12_terms_113 : decode mt_X12_terms.2.1 113 = .ok (.goto (-33), 3) := by decide +kernel
theorem d_X12_terms_116 : decode mt_X12_terms.2.1 116 = .ok (.aload_n 0, 1) := by decide +kernel
theorem d_X12_terms_117 : decode mt_X12_terms.2.1 117 = .ok (.getfield 296, 3) := by decide +kernel
theorem d_X12_terms_120 : decode mt_X12_terms.2.1 120 = .ok (.ireturn, 1) := by decide +kernel
noncomputable def f_X12_terms_b80 (k80 : (Int → Int → Mem → Option (Int × Mem))) (v0 v2 : Int) (σ : Mem) : Option (Int × Mem) :=
  (gf Sh σ 12 v0 25).bind fun x17 =>
  if w32 (9 * x17) ≤ v2 then
    (gf Sh σ 12 v0 25).bind fun x18 =>
    some (x18, σ)
  else
    (gf Sh σ 12 v0 20).bind fun x19 =>
    (gf Sh σ 12 v0 20).bind fun x20 =>
    (al Sh σ 20 x20 (w32 (1365 + v2))).bind fun x21 =>
    (st_ Sh σ 20 x19 (w32 (57 + v2)) x21).bind fun σ22 =>
    k80 v0 (w32 (v2 + 1)) σ22
theorem L_X12_terms_b80 {sc : Nat × (Nat → Int32)} {o : Int × Mem} {k80 : (Int → Int → Mem → Option (Int × Mem))} (hk80 : ∀ {v0 v2 : Int} {σ : Mem}, k80 v0 v2 σ = some o → E sc (Fm Sh (some (0, o.1)) Sh o.2) mt_X12_terms 361 Sh Sh 80 [(2, v0), (9, 0), (0, v2)] [] Sh σ) {v0 v2 : Int} {σ : Mem} (h : f_X12_terms_b80 k80 v0 v2 σ = some o) : E sc (Fm Sh (some (0, o.1)) Sh o.2) mt_X12_terms 361 Sh Sh 80 [(2, v0), (9, 0), (0, v2)] [] Sh σ := by
  unfold f_X12_terms_b80 at h
  refine E_iload_n d_X12_terms_80 rfl ?_
  refine E_bipush d_X12_terms_81 (c8 rfl) ?_
  refine E_aload_n d_X12_terms_83 rfl (by decide) ?_
  refine E_get d_X12_terms_84 okX12 fl_X12_296 ⟨by decide, rfl⟩ h (fun x17 h => ?_)
  refine E_imul d_X12_terms_87 ?_
  refine E_icmp_ge (tgt := 116) d_X12_terms_88 (by decide) h (fun _ h => ?_) (fun _ h => ?_)
  · refine E_aload_n d_X12_terms_116 rfl (by decide) ?_
    refine E_get d_X12_terms_117 okX12 fl_X12_296 ⟨by decide, rfl⟩ h (fun x18 h => ?_)
    cases h
    exact E_iret d_X12_terms_120 rfl
  · refine E_aload_n d_X12_terms_91 rfl (by decide) ?_
    refine E_get d_X12_terms_92 okX12 fl_X12_35 ⟨by decide, rfl⟩ h (fun x19 h => ?_)
    refine E_bipush d_X12_terms_95 (c8 rfl) ?_
    refine E_iload_n d_X12_terms_97 rfl ?_
    refine E_iadd d_X12_terms_98 ?_
    refine E_aload_n d_X12_terms_99 rfl (by decide) ?_
    refine E_get d_X12_terms_100 okX12 fl_X12_35 ⟨by decide, rfl⟩ h (fun x20 h => ?_)
    refine E_sipush d_X12_terms_103 (c16 rfl) ?_
    refine E_iload_n d_X12_terms_106 rfl ?_
    refine E_iadd d_X12_terms_107 ?_
    refine E_iaload d_X12_terms_108 h (fun x21 h => ?_)
    refine E_iastore d_X12_terms_109 h (fun σ22 h => ?_)
    refine E_iinc d_X12_terms_110 (ls' := [(2, v0), (9, 0), (0, w32 (v2 + 1))]) rfl ⟨by decide, rfl⟩ ?_
    refine E_goto (tgt := 80) d_X12_terms_113 (by decide) ?_
    exact (hk80 h)
noncomputable def f_X12_terms_h80 (n : Nat) : Int → Int → Mem → Option (Int × Mem) := Nat.rec (motive := fun _ => Int → Int → Mem → Option (Int × Mem)) (fun _ _ _ => none) (fun _ ih => f_X12_terms_b80 (ih)) n
theorem L_X12_terms_h80 {sc : Nat × (Nat → Int32)} {o : Int × Mem} : ∀ (n : Nat) {v0 v2 : Int} {σ : Mem}, f_X12_terms_h80 n v0 v2 σ = some o → E sc (Fm Sh (some (0, o.1)) Sh o.2) mt_X12_terms 361 Sh Sh 80 [(2, v0), (9, 0), (0, v2)] [] Sh σ := by
  intro n
  induction n with
  | zero => intro v0 v2 σ h; cases h
  | succ n ih => intro v0 v2 σ h; exact L_X12_terms_b80 (@ih) h
noncomputable def f_X12_terms_b50 (v0 : Int) (σ : Mem) : Option (Int × Mem) :=
  (f_X12_isWell v0 σ).bind fun r10 =>
  if r10.1 = 0 then
    some ((-1), r10.2)
  else
    (gf Sh r10.2 12 v0 20).bind fun x12 =>
    (st_ Sh r10.2 20 x12 55 1).bind fun σ13 =>
    (gf Sh σ13 12 v0 20).bind fun x14 =>
    (gf Sh σ13 12 v0 25).bind fun x15 =>
    (st_ Sh σ13 20 x14 56 x15).bind fun σ16 =>
    f_X12_terms_h80 FU v0 0 σ16
theorem L_X12_terms_b50 {sc : Nat × (Nat → Int32)} {o : Int × Mem} {v0 : Int} {σ : Mem} (h : f_X12_terms_b50 v0 σ = some o) : E sc (Fm Sh (some (0, o.1)) Sh o.2) mt_X12_terms 361 Sh Sh 50 [(2, v0), (9, 0), (9, 0)] [] Sh σ := by
  unfold f_X12_terms_b50 at h
  refine E_aload_n d_X12_terms_50 rfl (by decide) ?_
  refine bd h (fun r10 q11 h => ?_)
  refine E_cV (as := []) (st := []) (a := v0) d_X12_terms_51 mk_X12_isWell nl_X12_284 (by omega) ⟨rfl, rfl, Nat.le_of_ble_eq_true rfl⟩ okX12 rfl (L_X12_isWell q11) ?_
  refine E_if_ne (tgt := 59) d_X12_terms_54 (by decide) h (fun _ h => ?_) (fun _ h => ?_)
  · refine E_iconst d_X12_terms_57 (c32 rfl) ?_
    cases h
    exact E_iret d_X12_terms_58 rfl
  · refine E_aload_n d_X12_terms_59 rfl (by decide) ?_
    refine E_get d_X12_terms_60 okX12 fl_X12_35 ⟨by decide, rfl⟩ h (fun x12 h => ?_)
    refine E_bipush d_X12_terms_63 (c8 rfl) ?_
    refine E_iconst d_X12_terms_65 (c32 rfl) ?_
    refine E_iastore d_X12_terms_66 h (fun σ13 h => ?_)
    refine E_aload_n d_X12_terms_67 rfl (by decide) ?_
    refine E_get d_X12_terms_68 okX12 fl_X12_35 ⟨by decide, rfl⟩ h (fun x14 h => ?_)
    refine E_bipush d_X12_terms_71 (c8 rfl) ?_
    refine E_aload_n d_X12_terms_73 rfl (by decide) ?_
    refine E_get d_X12_terms_74 okX12 fl_X12_296 ⟨by decide, rfl⟩ h (fun x15 h => ?_)
    refine E_iastore d_X12_terms_77 h (fun σ16 h => ?_)
    refine E_iconst d_X12_terms_78 (c32 rfl) ?_
    refine E_istore_n d_X12_terms_79 (ls' := [(2, v0), (9, 0), (0, 0)]) ⟨by decide, rfl⟩ ?_
    exact (L_X12_terms_h80 FU h)
noncomputable def f_X12_terms_b28 (k28 : (Int → Mem → Option (Int × Mem))) (v0 : Int) (σ : Mem) : Option (Int × Mem) :=
  (gf Sh σ 12 v0 12).bind fun x6 =>
  if x6 = 0 then
    (gf Sh σ 12 v0 14).bind fun x7 =>
    if x7 = 0 then
      f_X12_terms_b50 v0 σ
    else
      (f_X12_readStep FR v0 0 σ).bind fun r8 =>
      k28 v0 r8
  else
    f_X12_terms_b50 v0 σ
theorem L_X12_terms_b28 {sc : Nat × (Nat → Int32)} {o : Int × Mem} {k28 : (Int → Mem → Option (Int × Mem))} (hk28 : ∀ {v0 : Int} {σ : Mem}, k28 v0 σ = some o → E sc (Fm Sh (some (0, o.1)) Sh o.2) mt_X12_terms 361 Sh Sh 28 [(2, v0), (9, 0), (9, 0)] [] Sh σ) {v0 : Int} {σ : Mem} (h : f_X12_terms_b28 k28 v0 σ = some o) : E sc (Fm Sh (some (0, o.1)) Sh o.2) mt_X12_terms 361 Sh Sh 28 [(2, v0), (9, 0), (9, 0)] [] Sh σ := by
  unfold f_X12_terms_b28 at h
  refine E_aload_n d_X12_terms_28 rfl (by decide) ?_
  refine E_get d_X12_terms_29 okX12 fl_X12_200 ⟨by decide, rfl⟩ h (fun x6 h => ?_)
  refine E_if_ne (tgt := 50) d_X12_terms_32 (by decide) h (fun _ h => ?_) (fun _ h => ?_)
  · refine E_aload_n d_X12_terms_35 rfl (by decide) ?_
    refine E_get d_X12_terms_36 okX12 fl_X12_124 ⟨by decide, rfl⟩ h (fun x7 h => ?_)
    refine E_if_eq (tgt := 50) d_X12_terms_39 (by decide) h (fun _ h => ?_) (fun _ h => ?_)
    · exact (L_X12_terms_b50 h)
    · refine E_aload_n d_X12_terms_42 rfl (by decide) ?_
      refine E_iconst d_X12_terms_43 (c32 rfl) ?_
      refine bd h (fun r8 q9 h => ?_)
      refine E_cVv (as := [(0, 0)]) (st := []) (a := v0) d_X12_terms_44 mk_X12_readStep nl_X12_302 (by decide) ⟨rfl, rfl, Nat.le_of_ble_eq_true rfl⟩ okX12 rfl (L_X12_readStep FR q9) ?_
      refine E_goto (tgt := 28) d_X12_terms_47 (by decide) ?_
      exact (hk28 h)
  · exact (L_X12_terms_b50 h)
noncomputable def f_X12_terms_h28 (n : Nat) : Int → Mem → Option (Int × Mem) := Nat.rec (motive := fun _ => Int → Mem → Option (Int × Mem)) (fun _ _ => none) (fun _ ih => f_X12_terms_b28 (ih)) n
theorem L_X12_terms_h28 {sc : Nat × (Nat → Int32)} {o : Int × Mem} : ∀ (n : Nat) {v0 : Int} {σ : Mem}, f_X12_terms_h28 n v0 σ = some o → E sc (Fm Sh (some (0, o.1)) Sh o.2) mt_X12_terms 361 Sh Sh 28 [(2, v0), (9, 0), (9, 0)] [] Sh σ := by
  intro n
  induction n with
  | zero => intro v0 σ h; cases h
  | succ n ih => intro v0 σ h; exact L_X12_terms_b28 (@ih) h
noncomputable def f_X12_terms_b0 (v0 v1 : Int) (σ : Mem) : Option (Int × Mem) :=
  (pf Sh σ 12 v0 1 0).bind fun σ1 =>
  (pf Sh σ1 12 v0 0 0).bind fun σ2 =>
  (f_X12_starts v0 v1 300 σ2).bind fun r3 =>
  if r3.1 = 0 then
    some ((-1), r3.2)
  else
    (pf Sh r3.2 12 v0 25 0).bind fun σ5 =>
    f_X12_terms_h28 FU v0 σ5
theorem L_X12_terms_b0 {sc : Nat × (Nat → Int32)} {o : Int × Mem} {v0 v1 : Int} {σ : Mem} (h : f_X12_terms_b0 v0 v1 σ = some o) : E sc (Fm Sh (some (0, o.1)) Sh o.2) mt_X12_terms 361 Sh Sh 0 [(2, v0), (0, v1), (9, 0)] [] Sh σ := by
  unfold f_X12_terms_b0 at h
  refine E_aload_n d_X12_terms_0 rfl (by decide) ?_
  refine E_iconst d_X12_terms_1 (c32 rfl) ?_
  refine E_put d_X12_terms_2 okX12 fl_X12_70 ⟨by decide, rfl⟩ (Or.inl ⟨rfl, rfl⟩) (Or.inl rfl) h (fun σ1 h => ?_)
  refine E_aload_n d_X12_terms_5 rfl (by decide) ?_
  refine E_iconst d_X12_terms_6 (c32 rfl) ?_
  refine E_put d_X12_terms_7 okX12 fl_X12_73 ⟨by decide, rfl⟩ (Or.inl ⟨rfl, rfl⟩) (Or.inl rfl) h (fun σ2 h => ?_)
  refine E_aload_n d_X12_terms_10 rfl (by decide) ?_
  refine E_iload_n d_X12_terms_11 rfl ?_
  refine E_sipush d_X12_terms_12 (c16 rfl) ?_
  refine bd h (fun r3 q4 h => ?_)
  refine E_cV (as := [(0, v1), (0, 300)]) (st := []) (a := v0) d_X12_terms_15 mk_X12_starts nl_X12_275 (by omega) ⟨rfl, rfl, Nat.le_of_ble_eq_true rfl⟩ okX12 rfl (L_X12_starts q4) ?_
  refine E_if_ne (tgt := 23) d_X12_terms_18 (by decide) h (fun _ h => ?_) (fun _ h => ?_)
  · refine E_iconst d_X12_terms_21 (c32 rfl) ?_
    cases h
    exact E_iret d_X12_terms_22 rfl
  · refine E_aload_n d_X12_terms_23 rfl (by decide) ?_
    refine E_iconst d_X12_terms_24 (c32 rfl) ?_
    refine E_put d_X12_terms_25 okX12 fl_X12_296 ⟨by decide, rfl⟩ (Or.inl ⟨rfl, rfl⟩) (Or.inl rfl) h (fun σ5 h => ?_)
    exact E_weak (ls' := [(2, v0), (9, 0), (9, 0)]) ⟨Or.inr rfl, Or.inl rfl, Or.inl rfl, trivial⟩ (L_X12_terms_h28 FU h)
noncomputable def f_X12_terms (v0 v1 : Int) (σ : Mem) : Option (Int × Mem) := if isO Sh 12 v0 = true then f_X12_terms_b0 v0 v1 σ else none
theorem L_X12_terms {o : Int × Mem} {v0 v1 : Int} {σ : Mem} (h : f_X12_terms v0 v1 σ = some o) : (isO Sh 12 v0 = true ∧ Cn mt_X12_terms 361 [(2, v0), (0, v1)] Sh σ (some (0, o.1)) Sh o.2) := ⟨(ite_ok h).1, Cn_of mk_X12_terms.1.2.2.1 (Nat.le_of_ble_eq_true rfl) (fun sc => L_X12_terms_b0 (ite_ok h).2)⟩
theorem d_X12_fault_0 : decode mt_X12_fault.2.1 0 = .ok (.aload_n 0, 1) := by decide +kernel
theorem d_X12_fault_1 : decode mt_X12_fault.2.1 1 = .ok (.iconst 0, 1) := by decide +kernel
theorem d_X12_fault_2 : decode mt_X12_fault.2.1 2 = .ok (.putfield 70, 3) := by decide +kernel
theorem d_X12_fault_5 : decode mt_X12_fault.2.1 5 = .ok (.iload_n 1, 1) := by decide +kernel
theorem d_X12_fault_6 : decode mt_X12_fault.2.1 6 = .ok (.ifCond .ne 10, 3) := by decide +kernel
theorem d_X12_fault_9 : decode mt_X12_fault.2.1 9 = .ok (.aload_n 0, 1) := by decide +kernel
theorem d_X12_fault_10 : decode mt_X12_fault.2.1 10 = .ok (.getfield 28, 3) := by decide +kernel
theorem d_X12_fault_13 : decode mt_X12_fault.2.1 13 = .ok (.goto 16, 3) := by decide +kernel
theorem d_X12_fault_16 : decode mt_X12_fault.2.1 16 = .ok (.iload_n 1, 1) := by decide +kernel
theorem d_X12_fault_17 : decode mt_X12_fault.2.1 17 = .ok (.iconst 1, 1) := by decide +kernel
theorem d_X12_fault_18 : decode mt_X12_fault.2.1 18 = .ok (.if_icmp .ne 10, 3) := by decide +kernel
theorem d_X12_fault_21 : decode mt_X12_fault.2.1 21 = .ok (.aload_n 0, 1) := by decide +kernel
theorem d_X12_fault_22 : decode mt_X12_fault.2.1 22 = .ok (.getfield 32, 3) := by decide +kernel
theorem d_X12_fault_25 : decode mt_X12_fault.2.1 25 = .ok (.goto 4, 3) := by decide +kernel
theorem d_X12_fault_28 : decode mt_X12_fault.2.1 28 = .ok (.iconst (-1), 1) := by decide +kernel
theorem d_X12_fault_29 : decode mt_X12_fault.2.1 29 = .ok (.ireturn, 1) := by decide +kernel
noncomputable def f_X12_fault_b0 (v0 v1 : Int) (σ : Mem) : Option (Int × Mem) :=
  (pf Sh σ 12 v0 1 0).bind fun σ1 =>
  if v1 = 0 then
    (gf Sh σ1 12 v0 10).bind fun x2 =>
    some (x2, σ1)
  else
    if v1 = 1 then
      (gf Sh σ1 12 v0 11).bind fun x3 =>
      some (x3, σ1)
    else
      some ((-1), σ1)
theorem L_X12_fault_b0 {sc : Nat × (Nat → Int32)} {o : Int × Mem} {v0 v1 : Int} {σ : Mem} (h : f_X12_fault_b0 v0 v1 σ = some o) : E sc (Fm Sh (some (0, o.1)) Sh o.2) mt_X12_fault 1 Sh Sh 0 [(2, v0), (0, v1)] [] Sh σ := by
  unfold f_X12_fault_b0 at h
  refine E_aload_n d_X12_fault_0 rfl (by decide) ?_
  refine E_iconst d_X12_fault_1 (c32 rfl) ?_
  refine E_put d_X12_fault_2 okX12 fl_X12_70 ⟨by decide, rfl⟩ (Or.inl ⟨rfl, rfl⟩) (Or.inl rfl) h (fun σ1 h => ?_)
  refine E_iload_n d_X12_fault_5 rfl ?_
  refine E_if_ne (tgt := 16) d_X12_fault_6 (by decide) h (fun _ h => ?_) (fun _ h => ?_)
  · refine E_aload_n d_X12_fault_9 rfl (by decide) ?_
    refine E_get d_X12_fault_10 okX12 fl_X12_28 ⟨by decide, rfl⟩ h (fun x2 h => ?_)
    refine E_goto (tgt := 29) d_X12_fault_13 (by decide) ?_
    cases h
    exact E_iret d_X12_fault_29 rfl
  · refine E_iload_n d_X12_fault_16 rfl ?_
    refine E_iconst d_X12_fault_17 (c32 rfl) ?_
    refine E_icmp_ne (tgt := 28) d_X12_fault_18 (by decide) h (fun _ h => ?_) (fun _ h => ?_)
    · refine E_aload_n d_X12_fault_21 rfl (by decide) ?_
      refine E_get d_X12_fault_22 okX12 fl_X12_32 ⟨by decide, rfl⟩ h (fun x3 h => ?_)
      refine E_goto (tgt := 29) d_X12_fault_25 (by decide) ?_
      cases h
      exact E_iret d_X12_fault_29 rfl
    · refine E_iconst d_X12_fault_28 (c32 rfl) ?_
      cases h
      exact E_iret d_X12_fault_29 rfl
noncomputable def f_X12_fault (v0 v1 : Int) (σ : Mem) : Option (Int × Mem) := if isO Sh 12 v0 = true then f_X12_fault_b0 v0 v1 σ else none
theorem L_X12_fault {o : Int × Mem} {v0 v1 : Int} {σ : Mem} (h : f_X12_fault v0 v1 σ = some o) : (isO Sh 12 v0 = true ∧ Cn mt_X12_fault 1 [(2, v0), (0, v1)] Sh σ (some (0, o.1)) Sh o.2) := ⟨(ite_ok h).1, Cn_of mk_X12_fault.1.2.2.1 (Nat.le_of_ble_eq_true rfl) (fun sc => L_X12_fault_b0 (ite_ok h).2)⟩
theorem d_X12_refuse_0 : decode mt_X12_refuse.2.1 0 = .ok (.aload_n 0, 1) := by decide +kernel
theorem d_X12_refuse_1 : decode mt_X12_refuse.2.1 1 = .ok (.iload_n 1, 1) := by decide +kernel
theorem d_X12_refuse_2 : decode mt_X12_refuse.2.1 2 = .ok (.putfield 73, 3) := by decide +kernel
theorem d_X12_refuse_5 : decode mt_X12_refuse.2.1 5 = .ok (.iconst (-1), 1) := by decide +kernel
theorem d_X12_refuse_6 : decode mt_X12_refuse.2.1 6 = .ok (.ireturn, 1) := by decide +kernel
noncomputable def f_X12_refuse_b0 (v0 v1 : Int) (σ : Mem) : Option (Int × Mem) :=
  (pf Sh σ 12 v0 0 v1).bind fun σ1 =>
  some ((-1), σ1)
theorem L_X12_refuse_b0 {sc : Nat × (Nat → Int32)} {o : Int × Mem} {v0 v1 : Int} {σ : Mem} (h : f_X12_refuse_b0 v0 v1 σ = some o) : E sc (Fm Sh (some (0, o.1)) Sh o.2) mt_X12_refuse 1 Sh Sh 0 [(2, v0), (0, v1)] [] Sh σ := by
  unfold f_X12_refuse_b0 at h
  refine E_aload_n d_X12_refuse_0 rfl (by decide) ?_
  refine E_iload_n d_X12_refuse_1 rfl ?_
  refine E_put d_X12_refuse_2 okX12 fl_X12_73 ⟨by decide, rfl⟩ (Or.inl ⟨rfl, rfl⟩) (Or.inl rfl) h (fun σ1 h => ?_)
  refine E_iconst d_X12_refuse_5 (c32 rfl) ?_
  cases h
  exact E_iret d_X12_refuse_6 rfl
noncomputable def f_X12_refuse (v0 v1 : Int) (σ : Mem) : Option (Int × Mem) := if isO Sh 12 v0 = true then f_X12_refuse_b0 v0 v1 σ else none
theorem L_X12_refuse {o : Int × Mem} {v0 v1 : Int} {σ : Mem} (h : f_X12_refuse v0 v1 σ = some o) : (isO Sh 12 v0 = true ∧ Cn mt_X12_refuse 1 [(2, v0), (0, v1)] Sh σ (some (0, o.1)) Sh o.2) := ⟨(ite_ok h).1, Cn_of mk_X12_refuse.1.2.2.1 (Nat.le_of_ble_eq_true rfl) (fun sc => L_X12_refuse_b0 (ite_ok h).2)⟩
theorem d_X12_isStoneAt_0 : decode mt_X12_isStoneAt.2.1 0 = .ok (.aload_n 0, 1) := by decide +kernel
theorem d_X12_isStoneAt_1 : decode mt_X12_isStoneAt.2.1 1 = .ok (.getfield 35, 3) := by decide +kernel
theorem d_X12_isStoneAt_4 : decode mt_X12_isStoneAt.2.1 4 = .ok (.bipush 7, 2) := by decide +kernel
theorem d_X12_isStoneAt_6 : decode mt_X12_isStoneAt.2.1 6 = .ok (.iload_n 1, 1) := by decide +kernel
theorem d_X12_isStoneAt_7 : decode mt_X12_isStoneAt.2.1 7 = .ok (.iadd, 1) := by decide +kernel
theorem d_X12_isStoneAt_8 : decode mt_X12_isStoneAt.2.1 8 = .ok (.iaload, 1) := by decide +kernel
theorem d_X12_isStoneAt_9 : decode mt_X12_isStoneAt.2.1 9 = .ok (.iconst 1, 1) := by decide +kernel
theorem d_X12_isStoneAt_10 : decode mt_X12_isStoneAt.2.1 10 = .ok (.if_icmp .ne 7, 3) := by decide +kernel
theorem d_X12_isStoneAt_13 : decode mt_X12_isStoneAt.2.1 13 = .ok (.iconst 1, 1) := by decide +kernel
theorem d_X12_isStoneAt_14 : decode mt_X12_isStoneAt.2.1 14 = .ok (.goto 4, 3) := by decide +kernel
theorem d_X12_isStoneAt_17 : decode mt_X12_isStoneAt.2.1 17 = .ok (.iconst 0, 1) := by decide +kernel
theorem d_X12_isStoneAt_18 : decode mt_X12_isStoneAt.2.1 18 = .ok (.ireturn, 1) := by decide +kernel
noncomputable def f_X12_isStoneAt_b0 (v0 v1 : Int) (σ : Mem) : Option (Int) :=
  (gf Sh σ 12 v0 20).bind fun x1 =>
  (al Sh σ 20 x1 (w32 (7 + v1))).bind fun x2 =>
  if x2 = 1 then
    some (1)
  else
    some (0)
theorem L_X12_isStoneAt_b0 {sc : Nat × (Nat → Int32)} {o : Int} {σ : Mem} {v0 v1 : Int} (h : f_X12_isStoneAt_b0 v0 v1 σ = some o) : E sc (Fm Sh (some (0, o)) Sh σ) mt_X12_isStoneAt 1 Sh Sh 0 [(2, v0), (0, v1)] [] Sh σ := by
  unfold f_X12_isStoneAt_b0 at h
  refine E_aload_n d_X12_isStoneAt_0 rfl (by decide) ?_
  refine E_get d_X12_isStoneAt_1 okX12 fl_X12_35 ⟨by decide, rfl⟩ h (fun x1 h => ?_)
  refine E_bipush d_X12_isStoneAt_4 (c8 rfl) ?_
  refine E_iload_n d_X12_isStoneAt_6 rfl ?_
  refine E_iadd d_X12_isStoneAt_7 ?_
  refine E_iaload d_X12_isStoneAt_8 h (fun x2 h => ?_)
  refine E_iconst d_X12_isStoneAt_9 (c32 rfl) ?_
  refine E_icmp_ne (tgt := 17) d_X12_isStoneAt_10 (by decide) h (fun _ h => ?_) (fun _ h => ?_)
  · refine E_iconst d_X12_isStoneAt_13 (c32 rfl) ?_
    refine E_goto (tgt := 18) d_X12_isStoneAt_14 (by decide) ?_
    cases h
    exact E_zret d_X12_isStoneAt_18 rfl (Or.inr rfl)
  · refine E_iconst d_X12_isStoneAt_17 (c32 rfl) ?_
    cases h
    exact E_zret d_X12_isStoneAt_18 rfl (Or.inl rfl)
noncomputable def f_X12_isStoneAt (v0 v1 : Int) (σ : Mem) : Option (Int) := if isO Sh 12 v0 = true then f_X12_isStoneAt_b0 v0 v1 σ else none
theorem L_X12_isStoneAt {o : Int} {v0 v1 : Int} {σ : Mem} (h : f_X12_isStoneAt v0 v1 σ = some o) : (isO Sh 12 v0 = true ∧ Cn mt_X12_isStoneAt 1 [(2, v0), (0, v1)] Sh σ (some (0, o)) Sh σ) := ⟨(ite_ok h).1, Cn_of mk_X12_isStoneAt.1.2.2.1 (Nat.le_of_ble_eq_true rfl) (fun sc => L_X12_isStoneAt_b0 (ite_ok h).2)⟩
theorem d_X12_stones_0 : decode mt_X12_stones.2.1 0 = .ok (.iconst 0, 1) := by decide +kernel
theorem d_X12_stones_1 : decode mt_X12_stones.2.1 1 = .ok (.istore_n 1, 1) := by decide +kernel
theorem d_X12_stones_2 : decode mt_X12_stones.2.1 2 = .ok (.iconst 0, 1) := by decide +kernel
theorem d_X12_stones_3 : decode mt_X12_stones.2.1 3 = .ok (.istore_n 2, 1) := by decide +kernel
theorem d_X12_stones_4 : decode mt_X12_stones.2.1 4 = .ok (.iload_n 2, 1) := by decide +kernel
theorem d_X12_stones_5 : decode mt_X12_stones.2.1 5 = .ok (.aload_n 0, 1) := by decide +kernel
theorem d_X12_stones_6 : decode mt_X12_stones.2.1 6 = .ok (.getfield 35, 3) := by decide +kernel
theorem d_X12_stones_9 : decode mt_X12_stones.2.1 9 = .ok (.iconst 0, 1) := by decide +kernel
theorem d_X12_stones_10 : decode mt_X12_stones.2.1 10 = .ok (.iaload, 1) := by decide +kernel
theorem d_X12_stones_11 : decode mt_X12_stones.2.1 11 = .ok (.if_icmp .ge 27, 3) := by decide +kernel
theorem d_X12_stones_14 : decode mt_X12_stones.2.1 14 = .ok (.iload_n 1, 1) := by decide +kernel
theorem d_X12_stones_15 : decode mt_X12_stones.2.1 15 = .ok (.aload_n 0, 1) := by decide +kernel
theorem d_X12_stones_16 : decode mt_X12_stones.2.1 16 = .ok (.iload_n 2, 1) := by decide +kernel
theorem d_X12_stones_17 : decode mt_X12_stones.2.1 17 = .ok (.invokevirtual 305, 3) := by decide +kernel
theorem d_X12_stones_20 : decode mt_X12_stones.2.1 20 = .ok (.ifCond .eq 9, 3) := by decide +kernel
theorem d_X12_stones_23 : decode mt_X12_stones.2.1 23 = .ok (.iconst 1, 1) := by decide +kernel
theorem d_X12_stones_24 : decode mt_X12_stones.2.1 24 = .ok (.iload_n 2, 1) := by decide +kernel
theorem d_X12_stones_25 : decode mt_X12_stones.2.1 25 = .ok (.ishl, 1) := by decide +kernel
theorem d_X12_stones_26 : decode mt_X12_stones.2.1 26 = .ok (.goto 4, 3) := by decide +kernel
theorem d_X12_stones_29 : decode mt_X12_stones.2.1 29 = .ok (.iconst 0, 1) := by decide +kernel
theorem d_X12_stones_30 : decode mt_X12_stones.2.1 30 = .ok (.ior, 1) := by decide +kernel
theorem d_X12_stones_31 : decode mt_X12_stones.2.1 31 = .ok (.istore_n 1, 1) := by decide +kernel
theorem d_X12_stones_32 : decode mt_X12_stones.2.1 32 = .ok (.iinc 2 1, 3) := by decide +kernel
theorem d_X12_stones_35 : decode mt_X12_stones.2.1 35 = .ok (.goto (-31), 3) := by decide +kernel
theorem d_X12_stones_38 : decode mt_X12_stones.2.1 38 = .ok (.iload_n 1, 1) := by decide +kernel
theorem d_X12_stones_39 : decode mt_X12_stones.2.1 39 = .ok (.ireturn, 1) := by decide +kernel
noncomputable def f_X12_stones_b30 (k4 : (Int → Int → Int → Mem → Option (Int))) (v0 v2 s0 s1 : Int) (σ : Mem) : Option (Int) :=
  k4 v0 (ior s1 s0) (w32 (v2 + 1)) σ
theorem L_X12_stones_b30 {sc : Nat × (Nat → Int32)} {o : Int} {σ : Mem} {k4 : (Int → Int → Int → Mem → Option (Int))} (hk4 : ∀ {v0 v1 v2 : Int}, k4 v0 v1 v2 σ = some o → E sc (Fm Sh (some (0, o)) Sh σ) mt_X12_stones 2 Sh Sh 4 [(2, v0), (0, v1), (0, v2)] [] Sh σ) {v0 v2 s0 s1 : Int} (h : f_X12_stones_b30 k4 v0 v2 s0 s1 σ = some o) : E sc (Fm Sh (some (0, o)) Sh σ) mt_X12_stones 2 Sh Sh 30 [(2, v0), (9, 0), (0, v2)] [(0, s0), (0, s1)] Sh σ := by
  unfold f_X12_stones_b30 at h
  refine E_ior d_X12_stones_30 ?_
  refine E_istore_n d_X12_stones_31 (ls' := [(2, v0), (0, ior s1 s0), (0, v2)]) ⟨by decide, rfl⟩ ?_
  refine E_iinc d_X12_stones_32 (ls' := [(2, v0), (0, ior s1 s0), (0, w32 (v2 + 1))]) rfl ⟨by decide, rfl⟩ ?_
  refine E_goto (tgt := 4) d_X12_stones_35 (by decide) ?_
  exact (hk4 h)
noncomputable def f_X12_stones_b4 (k4 : (Int → Int → Int → Mem → Option (Int))) (v0 v1 v2 : Int) (σ : Mem) : Option (Int) :=
  (gf Sh σ 12 v0 20).bind fun x1 =>
  (al Sh σ 20 x1 0).bind fun x2 =>
  if x2 ≤ v2 then
    some (v1)
  else
    (f_X12_isStoneAt v0 v2 σ).bind fun r3 =>
    if r3 = 0 then
      f_X12_stones_b30 k4 v0 v2 0 v1 σ
    else
      f_X12_stones_b30 k4 v0 v2 (ishl 1 v2) v1 σ
theorem L_X12_stones_b4 {sc : Nat × (Nat → Int32)} {o : Int} {σ : Mem} {k4 : (Int → Int → Int → Mem → Option (Int))} (hk4 : ∀ {v0 v1 v2 : Int}, k4 v0 v1 v2 σ = some o → E sc (Fm Sh (some (0, o)) Sh σ) mt_X12_stones 2 Sh Sh 4 [(2, v0), (0, v1), (0, v2)] [] Sh σ) {v0 v1 v2 : Int} (h : f_X12_stones_b4 k4 v0 v1 v2 σ = some o) : E sc (Fm Sh (some (0, o)) Sh σ) mt_X12_stones 2 Sh Sh 4 [(2, v0), (0, v1), (0, v2)] [] Sh σ := by
  unfold f_X12_stones_b4 at h
  refine E_iload_n d_X12_stones_4 rfl ?_
  refine E_aload_n d_X12_stones_5 rfl (by decide) ?_
  refine E_get d_X12_stones_6 okX12 fl_X12_35 ⟨by decide, rfl⟩ h (fun x1 h => ?_)
  refine E_iconst d_X12_stones_9 (c32 rfl) ?_
  refine E_iaload d_X12_stones_10 h (fun x2 h => ?_)
  refine E_icmp_ge (tgt := 38) d_X12_stones_11 (by decide) h (fun _ h => ?_) (fun _ h => ?_)
  · refine E_iload_n d_X12_stones_38 rfl ?_
    cases h
    exact E_iret d_X12_stones_39 rfl
  · refine E_iload_n d_X12_stones_14 rfl ?_
    refine E_aload_n d_X12_stones_15 rfl (by decide) ?_
    refine E_iload_n d_X12_stones_16 rfl ?_
    refine bd h (fun r3 q4 h => ?_)
    refine E_cV (as := [(0, v2)]) (st := [(0, v1)]) (a := v0) d_X12_stones_17 mk_X12_isStoneAt nl_X12_305 (by omega) ⟨rfl, rfl, Nat.le_of_ble_eq_true rfl⟩ okX12 rfl (L_X12_isStoneAt q4) ?_
    refine E_if_eq (tgt := 29) d_X12_stones_20 (by decide) h (fun _ h => ?_) (fun _ h => ?_)
    · refine E_iconst d_X12_stones_29 (c32 rfl) ?_
      exact E_weak (ls' := [(2, v0), (9, 0), (0, v2)]) ⟨Or.inr rfl, Or.inl rfl, Or.inr rfl, trivial⟩ (L_X12_stones_b30 hk4 h)
    · refine E_iconst d_X12_stones_23 (c32 rfl) ?_
      refine E_iload_n d_X12_stones_24 rfl ?_
      refine E_ishl d_X12_stones_25 ?_
      refine E_goto (tgt := 30) d_X12_stones_26 (by decide) ?_
      exact E_weak (ls' := [(2, v0), (9, 0), (0, v2)]) ⟨Or.inr rfl, Or.inl rfl, Or.inr rfl, trivial⟩ (L_X12_stones_b30 hk4 h)
noncomputable def f_X12_stones_h4 (n : Nat) : Int → Int → Int → Mem → Option (Int) := Nat.rec (motive := fun _ => Int → Int → Int → Mem → Option (Int)) (fun _ _ _ _ => none) (fun _ ih => f_X12_stones_b4 (ih)) n
theorem L_X12_stones_h4 {sc : Nat × (Nat → Int32)} {o : Int} {σ : Mem} : ∀ (n : Nat) {v0 v1 v2 : Int}, f_X12_stones_h4 n v0 v1 v2 σ = some o → E sc (Fm Sh (some (0, o)) Sh σ) mt_X12_stones 2 Sh Sh 4 [(2, v0), (0, v1), (0, v2)] [] Sh σ := by
  intro n
  induction n with
  | zero => intro v0 v1 v2 h; cases h
  | succ n ih => intro v0 v1 v2 h; exact L_X12_stones_b4 (@ih) h
noncomputable def f_X12_stones_b0 (v0 : Int) (σ : Mem) : Option (Int) :=
  f_X12_stones_h4 FU v0 0 0 σ
theorem L_X12_stones_b0 {sc : Nat × (Nat → Int32)} {o : Int} {σ : Mem} {v0 : Int} (h : f_X12_stones_b0 v0 σ = some o) : E sc (Fm Sh (some (0, o)) Sh σ) mt_X12_stones 2 Sh Sh 0 [(2, v0), (9, 0), (9, 0)] [] Sh σ := by
  unfold f_X12_stones_b0 at h
  refine E_iconst d_X12_stones_0 (c32 rfl) ?_
  refine E_istore_n d_X12_stones_1 (ls' := [(2, v0), (0, 0), (9, 0)]) ⟨by decide, rfl⟩ ?_
  refine E_iconst d_X12_stones_2 (c32 rfl) ?_
  refine E_istore_n d_X12_stones_3 (ls' := [(2, v0), (0, 0), (0, 0)]) ⟨by decide, rfl⟩ ?_
  exact (L_X12_stones_h4 FU h)
noncomputable def f_X12_stones (v0 : Int) (σ : Mem) : Option (Int) := if isO Sh 12 v0 = true then f_X12_stones_b0 v0 σ else none
theorem L_X12_stones {o : Int} {v0 : Int} {σ : Mem} (h : f_X12_stones v0 σ = some o) : (isO Sh 12 v0 = true ∧ Cn mt_X12_stones 2 [(2, v0)] Sh σ (some (0, o)) Sh σ) := ⟨(ite_ok h).1, Cn_of mk_X12_stones.1.2.2.1 (Nat.le_of_ble_eq_true rfl) (fun sc => L_X12_stones_b0 (ite_ok h).2)⟩
theorem d_X12_has_0 : decode mt_X12_has.2.1 0 = .ok (.iload_n 0, 1) := by decide +kernel
theorem d_X12_has_1 : decode mt_X12_has.2.1 1 = .ok (.iload_n 1, 1) := by decide +kernel
theorem d_X12_has_2 : decode mt_X12_has.2.1 2 = .ok (.ishr, 1) := by decide +kernel
theorem d_X12_has_3 : decode mt_X12_has.2.1 3 = .ok (.iconst 1, 1) := by decide +kernel
theorem d_X12_has_4 : decode mt_X12_has.2.1 4 = .ok (.iand, 1) := by decide +kernel
theorem d_X12_has_5 : decode mt_X12_has.2.1 5 = .ok (.iconst 1, 1) := by decide +kernel
theorem d_X12_has_6 : decode mt_X12_has.2.1 6 = .ok (.if_icmp .ne 7, 3) := by decide +kernel
theorem d_X12_has_9 : decode mt_X12_has.2.1 9 = .ok (.iconst 1, 1) := by decide +kernel
theorem d_X12_has_10 : decode mt_X12_has.2.1 10 = .ok (.goto 4, 3) := by decide +kernel
theorem d_X12_has_13 : decode mt_X12_has.2.1 13 = .ok (.iconst 0, 1) := by decide +kernel
theorem d_X12_has_14 : decode mt_X12_has.2.1 14 = .ok (.ireturn, 1) := by decide +kernel
noncomputable def f_X12_has_b0 (v0 v1 : Int) (σ : Mem) : Option (Int) :=
  if iand (ishr v0 v1) 1 = 1 then
    some (1)
  else
    some (0)
theorem L_X12_has_b0 {sc : Nat × (Nat → Int32)} {o : Int} {σ : Mem} {v0 v1 : Int} (h : f_X12_has_b0 v0 v1 σ = some o) : E sc (Fm Sh (some (0, o)) Sh σ) mt_X12_has 1 Sh Sh 0 [(0, v0), (0, v1)] [] Sh σ := by
  unfold f_X12_has_b0 at h
  refine E_iload_n d_X12_has_0 rfl ?_
  refine E_iload_n d_X12_has_1 rfl ?_
  refine E_ishr d_X12_has_2 ?_
  refine E_iconst d_X12_has_3 (c32 rfl) ?_
  refine E_iand d_X12_has_4 ?_
  refine E_iconst d_X12_has_5 (c32 rfl) ?_
  refine E_icmp_ne (tgt := 13) d_X12_has_6 (by decide) h (fun _ h => ?_) (fun _ h => ?_)
  · refine E_iconst d_X12_has_9 (c32 rfl) ?_
    refine E_goto (tgt := 14) d_X12_has_10 (by decide) ?_
    cases h
    exact E_zret d_X12_has_14 rfl (Or.inr rfl)
  · refine E_iconst d_X12_has_13 (c32 rfl) ?_
    cases h
    exact E_zret d_X12_has_14 rfl (Or.inl rfl)
noncomputable def f_X12_has (v0 v1 : Int) (σ : Mem) : Option (Int) := f_X12_has_b0 v0 v1 σ
theorem L_X12_has {o : Int} {v0 v1 : Int} {σ : Mem} (h : f_X12_has v0 v1 σ = some o) : Cn mt_X12_has 1 [(0, v0), (0, v1)] Sh σ (some (0, o)) Sh σ := Cn_of mk_X12_has.1.2.2.1 (Nat.le_of_ble_eq_true rfl) (fun sc => L_X12_has_b0 h)
theorem d_X12_sizeOf_0 : decode mt_X12_sizeOf.2.1 0 = .ok (.iconst 0, 1) := by decide +kernel
theorem d_X12_sizeOf_1 : decode mt_X12_sizeOf.2.1 1 = .ok (.istore_n 1, 1) := by decide +kernel
theorem d_X12_sizeOf_2 : decode mt_X12_sizeOf.2.1 2 = .ok (.iconst 0, 1) := by decide +kernel
theorem d_X12_sizeOf_3 : decode mt_X12_sizeOf.2.1 3 = .ok (.istore_n 2, 1) := by decide +kernel
theorem d_X12_sizeOf_4 : decode mt_X12_sizeOf.2.1 4 = .ok (.iload_n 2, 1) := by decide +kernel
theorem d_X12_sizeOf_5 : decode mt_X12_sizeOf.2.1 5 = .ok (.bipush 10, 2) := by decide +kernel
theorem d_X12_sizeOf_7 : decode mt_X12_sizeOf.2.1 7 = .ok (.if_icmp .ge 25, 3) := by decide +kernel
theorem d_X12_sizeOf_10 : decode mt_X12_sizeOf.2.1 10 = .ok (.iload_n 1, 1) := by decide +kernel
theorem d_X12_sizeOf_11 : decode mt_X12_sizeOf.2.1 11 = .ok (.iload_n 0, 1) := by decide +kernel
theorem d_X12_sizeOf_12 : decode mt_X12_sizeOf.2.1 12 = .ok (.iload_n 2, 1) := by decide +kernel
theorem d_X12_sizeOf_13 : decode mt_X12_sizeOf.2.1 13 = .ok (.invokestatic 108, 3) := by decide +kernel
theorem d_X12_sizeOf_16 : decode mt_X12_sizeOf.2.1 16 = .ok (.ifCond .eq 7, 3) := by decide +kernel
theorem d_X12_sizeOf_19 : decode mt_X12_sizeOf.2.1 19 = .ok (.iconst 1, 1) := by decide +kernel
theorem d_X12_sizeOf_20 : decode mt_X12_sizeOf.2.1 20 = .ok (.goto 4, 3) := by decide +kernel
theorem d_X12_sizeOf_23 : decode mt_X12_sizeOf.2.1 23 = .ok (.iconst 0, 1) := by decide +kernel
theorem d_X12_sizeOf_24 : decode mt_X12_sizeOf.2.1 24 = .ok (.iadd, 1) := by decide +kernel
theorem d_X12_sizeOf_25 : decode mt_X12_sizeOf.2.1 25 = .ok (.istore_n 1, 1) := by decide +kernel
theorem d_X12_sizeOf_26 : decode mt_X12_sizeOf.2.1 26 = .ok (.iinc 2 1, 3) := by decide +kernel
theorem d_X12_sizeOf_29 : decode mt_X12_sizeOf.2.1 29 = .ok (.goto (-25), 3) := by decide +kernel
theorem d_X12_sizeOf_32 : decode mt_X12_sizeOf.2.1 32 = .ok (.iload_n 1, 1) := by decide +kernel
theorem d_X12_sizeOf_33 : decode mt_X12_sizeOf.2.1 33 = .ok (.ireturn, 1) := by decide +kernel
noncomputable def f_X12_sizeOf_b24 (k4 : (Int → Int → Int → Mem → Option (Int))) (v0 v2 s0 s1 : Int) (σ : Mem) : Option (Int) :=
  k4 v0 (w32 (s1 + s0)) (w32 (v2 + 1)) σ
theorem L_X12_sizeOf_b24 {sc : Nat × (Nat → Int32)} {o : Int} {σ : Mem} {k4 : (Int → Int → Int → Mem → Option (Int))} (hk4 : ∀ {v0 v1 v2 : Int}, k4 v0 v1 v2 σ = some o → E sc (Fm Sh (some (0, o)) Sh σ) mt_X12_sizeOf 2 Sh Sh 4 [(0, v0), (0, v1), (0, v2)] [] Sh σ) {v0 v2 s0 s1 : Int} (h : f_X12_sizeOf_b24 k4 v0 v2 s0 s1 σ = some o) : E sc (Fm Sh (some (0, o)) Sh σ) mt_X12_sizeOf 2 Sh Sh 24 [(0, v0), (9, 0), (0, v2)] [(0, s0), (0, s1)] Sh σ := by
  unfold f_X12_sizeOf_b24 at h
  refine E_iadd d_X12_sizeOf_24 ?_
  refine E_istore_n d_X12_sizeOf_25 (ls' := [(0, v0), (0, w32 (s1 + s0)), (0, v2)]) ⟨by decide, rfl⟩ ?_
  refine E_iinc d_X12_sizeOf_26 (ls' := [(0, v0), (0, w32 (s1 + s0)), (0, w32 (v2 + 1))]) rfl ⟨by decide, rfl⟩ ?_
  refine E_goto (tgt := 4) d_X12_sizeOf_29 (by decide) ?_
  exact (hk4 h)
noncomputable def f_X12_sizeOf_b4 (k4 : (Int → Int → Int → Mem → Option (Int))) (v0 v1 v2 : Int) (σ : Mem) : Option (Int) :=
  if 10 ≤ v2 then
    some (v1)
  else
    (f_X12_has v0 v2 σ).bind fun r1 =>
    if r1 = 0 then
      f_X12_sizeOf_b24 k4 v0 v2 0 v1 σ
    else
      f_X12_sizeOf_b24 k4 v0 v2 1 v1 σ
theorem L_X12_sizeOf_b4 {sc : Nat × (Nat → Int32)} {o : Int} {σ : Mem} {k4 : (Int → Int → Int → Mem → Option (Int))} (hk4 : ∀ {v0 v1 v2 : Int}, k4 v0 v1 v2 σ = some o → E sc (Fm Sh (some (0, o)) Sh σ) mt_X12_sizeOf 2 Sh Sh 4 [(0, v0), (0, v1), (0, v2)] [] Sh σ) {v0 v1 v2 : Int} (h : f_X12_sizeOf_b4 k4 v0 v1 v2 σ = some o) : E sc (Fm Sh (some (0, o)) Sh σ) mt_X12_sizeOf 2 Sh Sh 4 [(0, v0), (0, v1), (0, v2)] [] Sh σ := by
  unfold f_X12_sizeOf_b4 at h
  refine E_iload_n d_X12_sizeOf_4 rfl ?_
  refine E_bipush d_X12_sizeOf_5 (c8 rfl) ?_
  refine E_icmp_ge (tgt := 32) d_X12_sizeOf_7 (by decide) h (fun _ h => ?_) (fun _ h => ?_)
  · refine E_iload_n d_X12_sizeOf_32 rfl ?_
    cases h
    exact E_iret d_X12_sizeOf_33 rfl
  · refine E_iload_n d_X12_sizeOf_10 rfl ?_
    refine E_iload_n d_X12_sizeOf_11 rfl ?_
    refine E_iload_n d_X12_sizeOf_12 rfl ?_
    refine bd h (fun r1 q2 h => ?_)
    refine E_cS (as := [(0, v0), (0, v2)]) (st := [(0, v1)]) d_X12_sizeOf_13 mk_X12_has nl_X12_108 (by omega) ⟨rfl, rfl, Nat.le_of_ble_eq_true rfl⟩ (L_X12_has q2) ?_
    refine E_if_eq (tgt := 23) d_X12_sizeOf_16 (by decide) h (fun _ h => ?_) (fun _ h => ?_)
    · refine E_iconst d_X12_sizeOf_23 (c32 rfl) ?_
      exact E_weak (ls' := [(0, v0), (9, 0), (0, v2)]) ⟨Or.inr rfl, Or.inl rfl, Or.inr rfl, trivial⟩ (L_X12_sizeOf_b24 hk4 h)
    · refine E_iconst d_X12_sizeOf_19 (c32 rfl) ?_
      refine E_goto (tgt := 24) d_X12_sizeOf_20 (by decide) ?_
      exact E_weak (ls' := [(0, v0), (9, 0), (0, v2)]) ⟨Or.inr rfl, Or.inl rfl, Or.inr rfl, trivial⟩ (L_X12_sizeOf_b24 hk4 h)
noncomputable def f_X12_sizeOf_h4 (n : Nat) : Int → Int → Int → Mem → Option (Int) := Nat.rec (motive := fun _ => Int → Int → Int → Mem → Option (Int)) (fun _ _ _ _ => none) (fun _ ih => f_X12_sizeOf_b4 (ih)) n
theorem L_X12_sizeOf_h4 {sc : Nat × (Nat → Int32)} {o : Int} {σ : Mem} : ∀ (n : Nat) {v0 v1 v2 : Int}, f_X12_sizeOf_h4 n v0 v1 v2 σ = some o → E sc (Fm Sh (some (0, o)) Sh σ) mt_X12_sizeOf 2 Sh Sh 4 [(0, v0), (0, v1), (0, v2)] [] Sh σ := by
  intro n
  induction n with
  | zero => intro v0 v1 v2 h; cases h
  | succ n ih => intro v0 v1 v2 h; exact L_X12_sizeOf_b4 (@ih) h
noncomputable def f_X12_sizeOf_b0 (v0 : Int) (σ : Mem) : Option (Int) :=
  f_X12_sizeOf_h4 FU v0 0 0 σ
theorem L_X12_sizeOf_b0 {sc : Nat × (Nat → Int32)} {o : Int} {σ : Mem} {v0 : Int} (h : f_X12_sizeOf_b0 v0 σ = some o) : E sc (Fm Sh (some (0, o)) Sh σ) mt_X12_sizeOf 2 Sh Sh 0 [(0, v0), (9, 0), (9, 0)] [] Sh σ := by
  unfold f_X12_sizeOf_b0 at h
  refine E_iconst d_X12_sizeOf_0 (c32 rfl) ?_
  refine E_istore_n d_X12_sizeOf_1 (ls' := [(0, v0), (0, 0), (9, 0)]) ⟨by decide, rfl⟩ ?_
  refine E_iconst d_X12_sizeOf_2 (c32 rfl) ?_
  refine E_istore_n d_X12_sizeOf_3 (ls' := [(0, v0), (0, 0), (0, 0)]) ⟨by decide, rfl⟩ ?_
  exact (L_X12_sizeOf_h4 FU h)
noncomputable def f_X12_sizeOf (v0 : Int) (σ : Mem) : Option (Int) := f_X12_sizeOf_b0 v0 σ
theorem L_X12_sizeOf {o : Int} {v0 : Int} {σ : Mem} (h : f_X12_sizeOf v0 σ = some o) : Cn mt_X12_sizeOf 2 [(0, v0)] Sh σ (some (0, o)) Sh σ := Cn_of mk_X12_sizeOf.1.2.2.1 (Nat.le_of_ble_eq_true rfl) (fun sc => L_X12_sizeOf_b0 h)
theorem d_X12_mossAll_0 : decode mt_X12_mossAll.2.1 0 = .ok (.iconst 0, 1) := by decide +kernel
theorem d_X12_mossAll_1 : decode mt_X12_mossAll.2.1 1 = .ok (.istore_n 1, 1) := by decide +kernel
theorem d_X12_mossAll_2 : decode mt_X12_mossAll.2.1 2 = .ok (.iconst 0, 1) := by decide +kernel
theorem d_X12_mossAll_3 : decode mt_X12_mossAll.2.1 3 = .ok (.istore_n 2, 1) := by decide +kernel
theorem d_X12_mossAll_4 : decode mt_X12_mossAll.2.1 4 = .ok (.iload_n 2, 1) := by decide +kernel
theorem d_X12_mossAll_5 : decode mt_X12_mossAll.2.1 5 = .ok (.aload_n 0, 1) := by decide +kernel
theorem d_X12_mossAll_6 : decode mt_X12_mossAll.2.1 6 = .ok (.getfield 35, 3) := by decide +kernel
theorem d_X12_mossAll_9 : decode mt_X12_mossAll.2.1 9 = .ok (.iconst 0, 1) := by decide +kernel
theorem d_X12_mossAll_10 : decode mt_X12_mossAll.2.1 10 = .ok (.iaload, 1) := by decide +kernel
theorem d_X12_mossAll_11 : decode mt_X12_mossAll.2.1 11 = .ok (.if_icmp .ge 33, 3) := by decide +kernel
theorem d_X12_mossAll_14 : decode mt_X12_mossAll.2.1 14 = .ok (.iload_n 1, 1) := by decide +kernel
theorem d_X12_mossAll_15 : decode mt_X12_mossAll.2.1 15 = .ok (.aload_n 0, 1) := by decide +kernel
theorem d_X12_mossAll_16 : decode mt_X12_mossAll.2.1 16 = .ok (.iload_n 2, 1) := by decide +kernel
theorem d_X12_mossAll_17 : decode mt_X12_mossAll.2.1 17 = .ok (.invokevirtual 305, 3) := by decide +kernel
theorem d_X12_mossAll_20 : decode mt_X12_mossAll.2.1 20 = .ok (.ifCond .eq 15, 3) := by decide +kernel
theorem d_X12_mossAll_23 : decode mt_X12_mossAll.2.1 23 = .ok (.aload_n 0, 1) := by decide +kernel
theorem d_X12_mossAll_24 : decode mt_X12_mossAll.2.1 24 = .ok (.getfield 35, 3) := by decide +kernel
theorem d_X12_mossAll_27 : decode mt_X12_mossAll.2.1 27 = .ok (.bipush 27, 2) := by decide +kernel
theorem d_X12_mossAll_29 : decode mt_X12_mossAll.2.1 29 = .ok (.iload_n 2, 1) := by decide +kernel
theorem d_X12_mossAll_30 : decode mt_X12_mossAll.2.1 30 = .ok (.iadd, 1) := by decide +kernel
theorem d_X12_mossAll_31 : decode mt_X12_mossAll.2.1 31 = .ok (.iaload, 1) := by decide +kernel
theorem d_X12_mossAll_32 : decode mt_X12_mossAll.2.1 32 = .ok (.goto 4, 3) := by decide +kernel
theorem d_X12_mossAll_35 : decode mt_X12_mossAll.2.1 35 = .ok (.iconst 0, 1) := by decide +kernel
theorem d_X12_mossAll_36 : decode mt_X12_mossAll.2.1 36 = .ok (.iadd, 1) := by decide +kernel
theorem d_X12_mossAll_37 : decode mt_X12_mossAll.2.1 37 = .ok (.istore_n 1, 1) := by decide +kernel
theorem d_X12_mossAll_38 : decode mt_X12_mossAll.2.1 38 = .ok (.iinc 2 1, 3) := by decide +kernel
theorem d_X12_mossAll_41 : decode mt_X12_mossAll.2.1 41 = .ok (.goto (-37), 3) := by decide +kernel
theorem d_X12_mossAll_44 : decode mt_X12_mossAll.2.1 44 = .ok (.iload_n 1, 1) := by decide +kernel
theorem d_X12_mossAll_45 : decode mt_X12_mossAll.2.1 45 = .ok (.ireturn, 1) := by decide +kernel
noncomputable def f_X12_mossAll_b36 (k4 : (Int → Int → Int → Mem → Option (Int))) (v0 v2 s0 s1 : Int) (σ : Mem) : Option (Int) :=
  k4 v0 (w32 (s1 + s0)) (w32 (v2 + 1)) σ
theorem L_X12_mossAll_b36 {sc : Nat × (Nat → Int32)} {o : Int} {σ : Mem} {k4 : (Int → Int → Int → Mem → Option (Int))} (hk4 : ∀ {v0 v1 v2 : Int}, k4 v0 v1 v2 σ = some o → E sc (Fm Sh (some (0, o)) Sh σ) mt_X12_mossAll 2 Sh Sh 4 [(2, v0), (0, v1), (0, v2)] [] Sh σ) {v0 v2 s0 s1 : Int} (h : f_X12_mossAll_b36 k4 v0 v2 s0 s1 σ = some o) : E sc (Fm Sh (some (0, o)) Sh σ) mt_X12_mossAll 2 Sh Sh 36 [(2, v0), (9, 0), (0, v2)] [(0, s0), (0, s1)] Sh σ := by
  unfold f_X12_mossAll_b36 at h
  refine E_iadd d_X12_mossAll_36 ?_
  refine E_istore_n d_X12_mossAll_37 (ls' := [(2, v0), (0, w32 (s1 + s0)), (0, v2)]) ⟨by decide, rfl⟩ ?_
  refine E_iinc d_X12_mossAll_38 (ls' := [(2, v0), (0, w32 (s1 + s0)), (0, w32 (v2 + 1))]) rfl ⟨by decide, rfl⟩ ?_
  refine E_goto (tgt := 4) d_X12_mossAll_41 (by decide) ?_
  exact (hk4 h)
noncomputable def f_X12_mossAll_b4 (k4 : (Int → Int → Int → Mem → Option (Int))) (v0 v1 v2 : Int) (σ : Mem) : Option (Int) :=
  (gf Sh σ 12 v0 20).bind fun x1 =>
  (al Sh σ 20 x1 0).bind fun x2 =>
  if x2 ≤ v2 then
    some (v1)
  else
    (f_X12_isStoneAt v0 v2 σ).bind fun r3 =>
    if r3 = 0 then
      f_X12_mossAll_b36 k4 v0 v2 0 v1 σ
    else
      (gf Sh σ 12 v0 20).bind fun x5 =>
      (al Sh σ 20 x5 (w32 (27 + v2))).bind fun x6 =>
      f_X12_mossAll_b36 k4 v0 v2 x6 v1 σ
theorem L_X12_mossAll_b4 {sc : Nat × (Nat → Int32)} {o : Int} {σ : Mem} {k4 : (Int → Int → Int → Mem → Option (Int))} (hk4 : ∀ {v0 v1 v2 : Int}, k4 v0 v1 v2 σ = some o → E sc (Fm Sh (some (0, o)) Sh σ) mt_X12_mossAll 2 Sh Sh 4 [(2, v0), (0, v1), (0, v2)] [] Sh σ) {v0 v1 v2 : Int} (h : f_X12_mossAll_b4 k4 v0 v1 v2 σ = some o) : E sc (Fm Sh (some (0, o)) Sh σ) mt_X12_mossAll 2 Sh Sh 4 [(2, v0), (0, v1), (0, v2)] [] Sh σ := by
  unfold f_X12_mossAll_b4 at h
  refine E_iload_n d_X12_mossAll_4 rfl ?_
  refine E_aload_n d_X12_mossAll_5 rfl (by decide) ?_
  refine E_get d_X12_mossAll_6 okX12 fl_X12_35 ⟨by decide, rfl⟩ h (fun x1 h => ?_)
  refine E_iconst d_X12_mossAll_9 (c32 rfl) ?_
  refine E_iaload d_X12_mossAll_10 h (fun x2 h => ?_)
  refine E_icmp_ge (tgt := 44) d_X12_mossAll_11 (by decide) h (fun _ h => ?_) (fun _ h => ?_)
  · refine E_iload_n d_X12_mossAll_44 rfl ?_
    cases h
    exact E_iret d_X12_mossAll_45 rfl
  · refine E_iload_n d_X12_mossAll_14 rfl ?_
    refine E_aload_n d_X12_mossAll_15 rfl (by decide) ?_
    refine E_iload_n d_X12_mossAll_16 rfl ?_
    refine bd h (fun r3 q4 h => ?_)
    refine E_cV (as := [(0, v2)]) (st := [(0, v1)]) (a := v0) d_X12_mossAll_17 mk_X12_isStoneAt nl_X12_305 (by omega) ⟨rfl, rfl, Nat.le_of_ble_eq_true rfl⟩ okX12 rfl (L_X12_isStoneAt q4) ?_
    refine E_if_eq (tgt := 35) d_X12_mossAll_20 (by decide) h (fun _ h => ?_) (fun _ h => ?_)
    · refine E_iconst d_X12_mossAll_35 (c32 rfl) ?_
      exact E_weak (ls' := [(2, v0), (9, 0), (0, v2)]) ⟨Or.inr rfl, Or.inl rfl, Or.inr rfl, trivial⟩ (L_X12_mossAll_b36 hk4 h)
    · refine E_aload_n d_X12_mossAll_23 rfl (by decide) ?_
      refine E_get d_X12_mossAll_24 okX12 fl_X12_35 ⟨by decide, rfl⟩ h (fun x5 h => ?_)
      refine E_bipush d_X12_mossAll_27 (c8 rfl) ?_
      refine E_iload_n d_X12_mossAll_29 rfl ?_
      refine E_iadd d_X12_mossAll_30 ?_
      refine E_iaload d_X12_mossAll_31 h (fun x6 h => ?_)
      refine E_goto (tgt := 36) d_X12_mossAll_32 (by decide) ?_
      exact E_weak (ls' := [(2, v0), (9, 0), (0, v2)]) ⟨Or.inr rfl, Or.inl rfl, Or.inr rfl, trivial⟩ (L_X12_mossAll_b36 hk4 h)
noncomputable def f_X12_mossAll_h4 (n : Nat) : Int → Int → Int → Mem → Option (Int) := Nat.rec (motive := fun _ => Int → Int → Int → Mem → Option (Int)) (fun _ _ _ _ => none) (fun _ ih => f_X12_mossAll_b4 (ih)) n
theorem L_X12_mossAll_h4 {sc : Nat × (Nat → Int32)} {o : Int} {σ : Mem} : ∀ (n : Nat) {v0 v1 v2 : Int}, f_X12_mossAll_h4 n v0 v1 v2 σ = some o → E sc (Fm Sh (some (0, o)) Sh σ) mt_X12_mossAll 2 Sh Sh 4 [(2, v0), (0, v1), (0, v2)] [] Sh σ := by
  intro n
  induction n with
  | zero => intro v0 v1 v2 h; cases h
  | succ n ih => intro v0 v1 v2 h; exact L_X12_mossAll_b4 (@ih) h
noncomputable def f_X12_mossAll_b0 (v0 : Int) (σ : Mem) : Option (Int) :=
  f_X12_mossAll_h4 FU v0 0 0 σ
theorem L_X12_mossAll_b0 {sc : Nat × (Nat → Int32)} {o : Int} {σ : Mem} {v0 : Int} (h : f_X12_mossAll_b0 v0 σ = some o) : E sc (Fm Sh (some (0, o)) Sh σ) mt_X12_mossAll 2 Sh Sh 0 [(2, v0), (9, 0), (9, 0)] [] Sh σ := by
  unfold f_X12_mossAll_b0 at h
  refine E_iconst d_X12_mossAll_0 (c32 rfl) ?_
  refine E_istore_n d_X12_mossAll_1 (ls' := [(2, v0), (0, 0), (9, 0)]) ⟨by decide, rfl⟩ ?_
  refine E_iconst d_X12_mossAll_2 (c32 rfl) ?_
  refine E_istore_n d_X12_mossAll_3 (ls' := [(2, v0), (0, 0), (0, 0)]) ⟨by decide, rfl⟩ ?_
  exact (L_X12_mossAll_h4 FU h)
noncomputable def f_X12_mossAll (v0 : Int) (σ : Mem) : Option (Int) := if isO Sh 12 v0 = true then f_X12_mossAll_b0 v0 σ else none
theorem L_X12_mossAll {o : Int} {v0 : Int} {σ : Mem} (h : f_X12_mossAll v0 σ = some o) : (isO Sh 12 v0 = true ∧ Cn mt_X12_mossAll 2 [(2, v0)] Sh σ (some (0, o)) Sh σ) := ⟨(ite_ok h).1, Cn_of mk_X12_mossAll.1.2.2.1 (Nat.le_of_ble_eq_true rfl) (fun sc => L_X12_mossAll_b0 (ite_ok h).2)⟩
theorem d_X12_many_0 : decode mt_X12_many.2.1 0 = .ok (.aload_n 0, 1) := by decide +kernel
theorem d_X12_many_1 : decode mt_X12_many.2.1 1 = .ok (.iconst 0, 1) := by decide +kernel
theorem d_X12_many_2 : decode mt_X12_many.2.1 2 = .ok (.putfield 70, 3) := by decide +kernel
theorem d_X12_many_5 : decode mt_X12_many.2.1 5 = .ok (.aload_n 0, 1) := by decide +kernel
theorem d_X12_many_6 : decode mt_X12_many.2.1 6 = .ok (.iconst 0, 1) := by decide +kernel
theorem d_X12_many_7 : decode mt_X12_many.2.1 7 = .ok (.putfield 73, 3) := by decide +kernel
theorem d_X12_many_10 : decode mt_X12_many.2.1 10 = .ok (.iload_n 1, 1) := by decide +kernel
theorem d_X12_many_11 : decode mt_X12_many.2.1 11 = .ok (.i2l, 1) := by decide +kernel
theorem d_X12_many_12 : decode mt_X12_many.2.1 12 = .ok (.lconst 0, 1) := by decide +kernel
theorem d_X12_many_13 : decode mt_X12_many.2.1 13 = .ok (.ldc2_w 316, 3) := by decide +kernel
theorem d_X12_many_16 : decode mt_X12_many.2.1 16 = .ok (.invokestatic 104, 3) := by decide +kernel
theorem d_X12_many_19 : decode mt_X12_many.2.1 19 = .ok (.ifCond .ne 9, 3) := by decide +kernel
theorem d_X12_many_22 : decode mt_X12_many.2.1 22 = .ok (.aload_n 0, 1) := by decide +kernel
theorem d_X12_many_23 : decode mt_X12_many.2.1 23 = .ok (.iconst 5, 1) := by decide +kernel
theorem d_X12_many_24 : decode mt_X12_many.2.1 24 = .ok (.invokevirtual 318, 3) := by decide +kernel
theorem d_X12_many_27 : decode mt_X12_many.2.1 27 = .ok (.ireturn, 1) := by decide +kernel
theorem d_X12_many_28 : decode mt_X12_many.2.1 28 = .ok (.iload_n 1, 1) := by decide +kernel
theorem d_X12_many_29 : decode mt_X12_many.2.1 29 = .ok (.ifCond .ne 10, 3) := by decide +kernel
theorem d_X12_many_32 : decode mt_X12_many.2.1 32 = .ok (.aload_n 0, 1) := by decide +kernel
theorem d_X12_many_33 : decode mt_X12_many.2.1 33 = .ok (.getfield 35, 3) := by decide +kernel
theorem d_X12_many_36 : decode mt_X12_many.2.1 36 = .ok (.iconst 0, 1) := by decide +kernel
theorem d_X12_many_37 : decode mt_X12_many.2.1 37 = .ok (.iaload, 1) := by decide +kernel
theorem d_X12_many_38 : decode mt_X12_many.2.1 38 = .ok (.ireturn, 1) := by decide +kernel
theorem d_X12_many_39 : decode mt_X12_many.2.1 39 = .ok (.iload_n 1, 1) := by decide +kernel
theorem d_X12_many_40 : decode mt_X12_many.2.1 40 = .ok (.iconst 1, 1) := by decide +kernel
theorem d_X12_many_41 : decode mt_X12_many.2.1 41 = .ok (.if_icmp .ne 11, 3) := by decide +kernel
theorem d_X12_many_44 : decode mt_X12_many.2.1 44 = .ok (.aload_n 0, 1) := by decide +kernel
theorem d_X12_many_45 : decode mt_X12_many.2.1 45 = .ok (.invokevirtual 321, 3) := by decide +kernel
theorem d_X12_many_48 : decode mt_X12_many.2.1 48 = .ok (.invokestatic 324, 3) := by decide +kernel
theorem d_X12_many_51 : decode mt_X12_many.2.1 51 = .ok (.ireturn, 1) := by decide +kernel
theorem d_X12_many_52 : decode mt_X12_many.2.1 52 = .ok (.iload_n 1, 1) := by decide +kernel
theorem d_X12_many_53 : decode mt_X12_many.2.1 53 = .ok (.bipush 8, 2) := by decide +kernel
theorem d_X12_many_55 : decode mt_X12_many.2.1 55 = .ok (.if_icmp .ge 14, 3) := by decide +kernel
theorem d_X12_many_58 : decode mt_X12_many.2.1 58 = .ok (.aload_n 0, 1) := by decide +kernel
theorem d_X12_many_59 : decode mt_X12_many.2.1 59 = .ok (.getfield 35, 3) := by decide +kernel
theorem d_X12_many_62 : decode mt_X12_many.2.1 62 = .ok (.iload_n 1, 1) := by decide +kernel
theorem d_X12_many_63 : decode mt_X12_many.2.1 63 = .ok (.iconst 1, 1) := by decide +kernel
theorem d_X12_many_64 : decode mt_X12_many.2.1 64 = .ok (.isub, 1) := by decide +kernel
theorem d_X12_many_65 : decode mt_X12_many.2.1 65 = .ok (.iaload, 1) := by decide +kernel
theorem d_X12_many_66 : decode mt_X12_many.2.1 66 = .ok (.goto 20, 3) := by decide +kernel
theorem d_X12_many_69 : decode mt_X12_many.2.1 69 = .ok (.iload_n 1, 1) := by decide +kernel
theorem d_X12_many_70 : decode mt_X12_many.2.1 70 = .ok (.bipush 8, 2) := by decide +kernel
theorem d_X12_many_72 : decode mt_X12_many.2.1 72 = .ok (.if_icmp .ne 10, 3) := by decide +kernel
theorem d_X12_many_75 : decode mt_X12_many.2.1 75 = .ok (.aload_n 0, 1) := by decide +kernel
theorem d_X12_many_76 : decode mt_X12_many.2.1 76 = .ok (.invokevirtual 321, 3) := by decide +kernel
theorem d_X12_many_79 : decode mt_X12_many.2.1 79 = .ok (.goto 7, 3) := by decide +kernel
theorem d_X12_many_82 : decode mt_X12_many.2.1 82 = .ok (.aload_n 0, 1) := by decide +kernel
theorem d_X12_many_83 : decode mt_X12_many.2.1 83 = .ok (.invokevirtual 327, 3) := by decide +kernel
theorem d_X12_many_86 : decode mt_X12_many.2.1 86 = .ok (.ireturn, 1) := by decide +kernel
noncomputable def f_X12_many_b0 (v0 v1 : Int) (σ : Mem) : Option (Int × Mem) :=
  (pf Sh σ 12 v0 1 0).bind fun σ1 =>
  (pf Sh σ1 12 v0 0 0).bind fun σ2 =>
  (f_X12_isIn v1 0 9 σ2).bind fun r3 =>
  if r3 = 0 then
    (f_X12_refuse v0 5 σ2).bind fun r5 =>
    some (r5.1, r5.2)
  else
    if v1 = 0 then
      (gf Sh σ2 12 v0 20).bind fun x7 =>
      (al Sh σ2 20 x7 0).bind fun x8 =>
      some (x8, σ2)
    else
      if v1 = 1 then
        (f_X12_stones v0 σ2).bind fun r9 =>
        (f_X12_sizeOf r9 σ2).bind fun r11 =>
        some (r11, σ2)
      else
        if 8 ≤ v1 then
          if v1 = 8 then
            (f_X12_stones v0 σ2).bind fun r13 =>
            some (r13, σ2)
          else
            (f_X12_mossAll v0 σ2).bind fun r15 =>
            some (r15, σ2)
        else
          (gf Sh σ2 12 v0 20).bind fun x17 =>
          (al Sh σ2 20 x17 (w32 (v1 - 1))).bind fun x18 =>
          some (x18, σ2)
theorem L_X12_many_b0 {sc : Nat × (Nat → Int32)} {o : Int × Mem} {v0 v1 : Int} {σ : Mem} (h : f_X12_many_b0 v0 v1 σ = some o) : E sc (Fm Sh (some (0, o.1)) Sh o.2) mt_X12_many 3 Sh Sh 0 [(2, v0), (0, v1)] [] Sh σ := by
  unfold f_X12_many_b0 at h
  refine E_aload_n d_X12_many_0 rfl (by decide) ?_
  refine E_iconst d_X12_many_1 (c32 rfl) ?_
  refine E_put d_X12_many_2 okX12 fl_X12_70 ⟨by decide, rfl⟩ (Or.inl ⟨rfl, rfl⟩) (Or.inl rfl) h (fun σ1 h => ?_)
  refine E_aload_n d_X12_many_5 rfl (by decide) ?_
  refine E_iconst d_X12_many_6 (c32 rfl) ?_
  refine E_put d_X12_many_7 okX12 fl_X12_73 ⟨by decide, rfl⟩ (Or.inl ⟨rfl, rfl⟩) (Or.inl rfl) h (fun σ2 h => ?_)
  refine E_iload_n d_X12_many_10 rfl ?_
  refine E_i2l d_X12_many_11 ?_
  refine E_lconst d_X12_many_12 cl0 ?_
  refine E_ldc2 d_X12_many_13 kw_X12_316 ?_
  refine bd h (fun r3 q4 h => ?_)
  refine E_cS (as := [(1, v1), (1, 0), (1, 9)]) (st := []) d_X12_many_16 mk_X12_isIn nl_X12_104 (by omega) ⟨rfl, rfl, Nat.le_of_ble_eq_true rfl⟩ (L_X12_isIn q4) ?_
  refine E_if_ne (tgt := 28) d_X12_many_19 (by decide) h (fun _ h => ?_) (fun _ h => ?_)
  · refine E_aload_n d_X12_many_22 rfl (by decide) ?_
    refine E_iconst d_X12_many_23 (c32 rfl) ?_
    refine bd h (fun r5 q6 h => ?_)
    refine E_cV (as := [(0, 5)]) (st := []) (a := v0) d_X12_many_24 mk_X12_refuse nl_X12_318 (by omega) ⟨rfl, rfl, Nat.le_of_ble_eq_true rfl⟩ okX12 rfl (L_X12_refuse q6) ?_
    cases h
    exact E_iret d_X12_many_27 rfl
  · refine E_iload_n d_X12_many_28 rfl ?_
    refine E_if_ne (tgt := 39) d_X12_many_29 (by decide) h (fun _ h => ?_) (fun _ h => ?_)
    · refine E_aload_n d_X12_many_32 rfl (by decide) ?_
      refine E_get d_X12_many_33 okX12 fl_X12_35 ⟨by decide, rfl⟩ h (fun x7 h => ?_)
      refine E_iconst d_X12_many_36 (c32 rfl) ?_
      refine E_iaload d_X12_many_37 h (fun x8 h => ?_)
      cases h
      exact E_iret d_X12_many_38 rfl
    · refine E_iload_n d_X12_many_39 rfl ?_
      refine E_iconst d_X12_many_40 (c32 rfl) ?_
      refine E_icmp_ne (tgt := 52) d_X12_many_41 (by decide) h (fun _ h => ?_) (fun _ h => ?_)
      · refine E_aload_n d_X12_many_44 rfl (by decide) ?_
        refine bd h (fun r9 q10 h => ?_)
        refine E_cV (as := []) (st := []) (a := v0) d_X12_many_45 mk_X12_stones nl_X12_321 (by omega) ⟨rfl, rfl, Nat.le_of_ble_eq_true rfl⟩ okX12 rfl (L_X12_stones q10) ?_
        refine bd h (fun r11 q12 h => ?_)
        refine E_cS (as := [(0, r9)]) (st := []) d_X12_many_48 mk_X12_sizeOf nl_X12_324 (by omega) ⟨rfl, rfl, Nat.le_of_ble_eq_true rfl⟩ (L_X12_sizeOf q12) ?_
        cases h
        exact E_iret d_X12_many_51 rfl
      · refine E_iload_n d_X12_many_52 rfl ?_
        refine E_bipush d_X12_many_53 (c8 rfl) ?_
        refine E_icmp_ge (tgt := 69) d_X12_many_55 (by decide) h (fun _ h => ?_) (fun _ h => ?_)
        · refine E_iload_n d_X12_many_69 rfl ?_
          refine E_bipush d_X12_many_70 (c8 rfl) ?_
          refine E_icmp_ne (tgt := 82) d_X12_many_72 (by decide) h (fun _ h => ?_) (fun _ h => ?_)
          · refine E_aload_n d_X12_many_75 rfl (by decide) ?_
            refine bd h (fun r13 q14 h => ?_)
            refine E_cV (as := []) (st := []) (a := v0) d_X12_many_76 mk_X12_stones nl_X12_321 (by omega) ⟨rfl, rfl, Nat.le_of_ble_eq_true rfl⟩ okX12 rfl (L_X12_stones q14) ?_
            refine E_goto (tgt := 86) d_X12_many_79 (by decide) ?_
            cases h
            exact E_iret d_X12_many_86 rfl
          · refine E_aload_n d_X12_many_82 rfl (by decide) ?_
            refine bd h (fun r15 q16 h => ?_)
            refine E_cV (as := []) (st := []) (a := v0) d_X12_many_83 mk_X12_mossAll nl_X12_327 (by omega) ⟨rfl, rfl, Nat.le_of_ble_eq_true rfl⟩ okX12 rfl (L_X12_mossAll q16) ?_
            cases h
            exact E_iret d_X12_many_86 rfl
        · refine E_aload_n d_X12_many_58 rfl (by decide) ?_
          refine E_get d_X12_many_59 okX12 fl_X12_35 ⟨by decide, rfl⟩ h (fun x17 h => ?_)
          refine E_iload_n d_X12_many_62 rfl ?_
          refine E_iconst d_X12_many_63 (c32 rfl) ?_
          refine E_isub d_X12_many_64 ?_
          refine E_iaload d_X12_many_65 h (fun x18 h => ?_)
          refine E_goto (tgt := 86) d_X12_many_66 (by decide) ?_
          cases h
          exact E_iret d_X12_many_86 rfl
noncomputable def f_X12_many (v0 v1 : Int) (σ : Mem) : Option (Int × Mem) := if isO Sh 12 v0 = true then f_X12_many_b0 v0 v1 σ else none
theorem L_X12_many {o : Int × Mem} {v0 v1 : Int} {σ : Mem} (h : f_X12_many v0 v1 σ = some o) : (isO Sh 12 v0 = true ∧ Cn mt_X12_many 3 [(2, v0), (0, v1)] Sh σ (some (0, o.1)) Sh o.2) := ⟨(ite_ok h).1, Cn_of mk_X12_many.1.2.2.1 (Nat.le_of_ble_eq_true rfl) (fun sc => L_X12_many_b0 (ite_ok h).2)⟩
theorem d_X12_isPlaceAt_0 : decode mt_X12_isPlaceAt.2.1 0 = .ok (.lload_n 1, 1) := by decide +kernel
theorem d_X12_isPlaceAt_1 : decode mt_X12_isPlaceAt.2.1 1 = .ok (.lconst 0, 1) := by decide +kernel
theorem d_X12_isPlaceAt_2 : decode mt_X12_isPlaceAt.2.1 2 = .ok (.aload_n 0, 1) := by decide +kernel
theorem d_X12_isPlaceAt_3 : decode mt_X12_isPlaceAt.2.1 3 = .ok (.getfield 35, 3) := by decide +kernel
theorem d_X12_isPlaceAt_6 : decode mt_X12_isPlaceAt.2.1 6 = .ok (.iconst 0, 1) := by decide +kernel
theorem d_X12_isPlaceAt_7 : decode mt_X12_isPlaceAt.2.1 7 = .ok (.iaload, 1) := by decide +kernel
theorem d_X12_isPlaceAt_8 : decode mt_X12_isPlaceAt.2.1 8 = .ok (.iconst 1, 1) := by decide +kernel
theorem d_X12_isPlaceAt_9 : decode mt_X12_isPlaceAt.2.1 9 = .ok (.isub, 1) := by decide +kernel
theorem d_X12_isPlaceAt_10 : decode mt_X12_isPlaceAt.2.1 10 = .ok (.i2l, 1) := by decide +kernel
theorem d_X12_isPlaceAt_11 : decode mt_X12_isPlaceAt.2.1 11 = .ok (.invokestatic 104, 3) := by decide +kernel
theorem d_X12_isPlaceAt_14 : decode mt_X12_isPlaceAt.2.1 14 = .ok (.ireturn, 1) := by decide +kernel
noncomputable def f_X12_isPlaceAt_b0 (v0 v1 : Int) (σ : Mem) : Option (Int) :=
  (gf Sh σ 12 v0 20).bind fun x1 =>
  (al Sh σ 20 x1 0).bind fun x2 =>
  (f_X12_isIn v1 0 (w32 (x2 - 1)) σ).bind fun r3 =>
  (bz r3).bind fun _ =>
  some (r3)
theorem L_X12_isPlaceAt_b0 {sc : Nat × (Nat → Int32)} {o : Int} {σ : Mem} {v0 v1 : Int} (h : f_X12_isPlaceAt_b0 v0 v1 σ = some o) : E sc (Fm Sh (some (0, o)) Sh σ) mt_X12_isPlaceAt 2 Sh Sh 0 [(2, v0), (1, v1), (9, 0)] [] Sh σ := by
  unfold f_X12_isPlaceAt_b0 at h
  refine E_lload_n d_X12_isPlaceAt_0 rfl ?_
  refine E_lconst d_X12_isPlaceAt_1 cl0 ?_
  refine E_aload_n d_X12_isPlaceAt_2 rfl (by decide) ?_
  refine E_get d_X12_isPlaceAt_3 okX12 fl_X12_35 ⟨by decide, rfl⟩ h (fun x1 h => ?_)
  refine E_iconst d_X12_isPlaceAt_6 (c32 rfl) ?_
  refine E_iaload d_X12_isPlaceAt_7 h (fun x2 h => ?_)
  refine E_iconst d_X12_isPlaceAt_8 (c32 rfl) ?_
  refine E_isub d_X12_isPlaceAt_9 ?_
  refine E_i2l d_X12_isPlaceAt_10 ?_
  refine bd h (fun r3 q4 h => ?_)
  refine E_cS (as := [(1, v1), (1, 0), (1, w32 (x2 - 1))]) (st := []) d_X12_isPlaceAt_11 mk_X12_isIn nl_X12_104 (by omega) ⟨rfl, rfl, Nat.le_of_ble_eq_true rfl⟩ (L_X12_isIn q4) ?_
  refine bd_bz h (fun q5 h => ?_)
  cases h
  exact E_zret d_X12_isPlaceAt_14 rfl q5
noncomputable def f_X12_isPlaceAt (v0 v1 : Int) (σ : Mem) : Option (Int) := if isO Sh 12 v0 = true then f_X12_isPlaceAt_b0 v0 v1 σ else none
theorem L_X12_isPlaceAt {o : Int} {v0 v1 : Int} {σ : Mem} (h : f_X12_isPlaceAt v0 v1 σ = some o) : (isO Sh 12 v0 = true ∧ Cn mt_X12_isPlaceAt 2 [(2, v0), (1, v1)] Sh σ (some (0, o)) Sh σ) := ⟨(ite_ok h).1, Cn_of mk_X12_isPlaceAt.1.2.2.1 (Nat.le_of_ble_eq_true rfl) (fun sc => L_X12_isPlaceAt_b0 (ite_ok h).2)⟩
theorem d_X12_crowsOn_0 : decode mt_X12_crowsOn.2.1 0 = .ok (.iconst 0, 1) := by decide +kernel
theorem d_X12_crowsOn_1 : decode mt_X12_crowsOn.2.1 1 = .ok (.istore_n 2, 1) := by decide +kernel
theorem d_X12_crowsOn_2 : decode mt_X12_crowsOn.2.1 2 = .ok (.iconst 0, 1) := by decide +kernel
theorem d_X12_crowsOn_3 : decode mt_X12_crowsOn.2.1 3 = .ok (.istore_n 3, 1) := by decide +kernel
theorem d_X12_crowsOn_4 : decode mt_X12_crowsOn.2.1 4 = .ok (.iload_n 3, 1) := by decide +kernel
theorem d_X12_crowsOn_5 : decode mt_X12_crowsOn.2.1 5 = .ok (.aload_n 0, 1) := by decide +kernel
theorem d_X12_crowsOn_6 : decode mt_X12_crowsOn.2.1 6 = .ok (.getfield 35, 3) := by decide +kernel
theorem d_X12_crowsOn_9 : decode mt_X12_crowsOn.2.1 9 = .ok (.iconst 1, 1) := by decide +kernel
theorem d_X12_crowsOn_10 : decode mt_X12_crowsOn.2.1 10 = .ok (.iaload, 1) := by decide +kernel
theorem d_X12_crowsOn_11 : decode mt_X12_crowsOn.2.1 11 = .ok (.if_icmp .ge 32, 3) := by decide +kernel
theorem d_X12_crowsOn_14 : decode mt_X12_crowsOn.2.1 14 = .ok (.iload_n 2, 1) := by decide +kernel
theorem d_X12_crowsOn_15 : decode mt_X12_crowsOn.2.1 15 = .ok (.aload_n 0, 1) := by decide +kernel
theorem d_X12_crowsOn_16 : decode mt_X12_crowsOn.2.1 16 = .ok (.getfield 35, 3) := by decide +kernel
theorem d_X12_crowsOn_19 : decode mt_X12_crowsOn.2.1 19 = .ok (.bipush 47, 2) := by decide +kernel
theorem d_X12_crowsOn_21 : decode mt_X12_crowsOn.2.1 21 = .ok (.iload_n 3, 1) := by decide +kernel
theorem d_X12_crowsOn_22 : decode mt_X12_crowsOn.2.1 22 = .ok (.iadd, 1) := by decide +kernel
theorem d_X12_crowsOn_23 : decode mt_X12_crowsOn.2.1 23 = .ok (.iaload, 1) := by decide +kernel
theorem d_X12_crowsOn_24 : decode mt_X12_crowsOn.2.1 24 = .ok (.iload_n 1, 1) := by decide +kernel
theorem d_X12_crowsOn_25 : decode mt_X12_crowsOn.2.1 25 = .ok (.if_icmp .ne 9, 3) := by decide +kernel
theorem d_X12_crowsOn_28 : decode mt_X12_crowsOn.2.1 28 = .ok (.iconst 1, 1) := by decide +kernel
theorem d_X12_crowsOn_29 : decode mt_X12_crowsOn.2.1 29 = .ok (.iload_n 3, 1) := by decide +kernel
theorem d_X12_crowsOn_30 : decode mt_X12_crowsOn.2.1 30 = .ok (.ishl, 1) := by decide +kernel
theorem d_X12_crowsOn_31 : decode mt_X12_crowsOn.2.1 31 = .ok (.goto 4, 3) := by decide +kernel
theorem d_X12_crowsOn_34 : decode mt_X12_crowsOn.2.1 34 = .ok (.iconst 0, 1) := by decide +kernel
theorem d_X12_crowsOn_35 : decode mt_X12_crowsOn.2.1 35 = .ok (.ior, 1) := by decide +kernel
theorem d_X12_crowsOn_36 : decode mt_X12_crowsOn.2.1 36 = .ok (.istore_n 2, 1) := by decide +kernel
theorem d_X12_crowsOn_37 : decode mt_X12_crowsOn.2.1 37 = .ok (.iinc 3 1, 3) := by decide +kernel
theorem d_X12_crowsOn_40 : decode mt_X12_crowsOn.2.1 40 = .ok (.goto (-36), 3) := by decide +kernel
theorem d_X12_crowsOn_43 : decode mt_X12_crowsOn.2.1 43 = .ok (.iload_n 2, 1) := by decide +kernel
theorem d_X12_crowsOn_44 : decode mt_X12_crowsOn.2.1 44 = .ok (.ireturn, 1) := by decide +kernel
noncomputable def f_X12_crowsOn_b35 (k4 : (Int → Int → Int → Int → Mem → Option (Int))) (v0 v1 v3 s0 s1 : Int) (σ : Mem) : Option (Int) :=
  k4 v0 v1 (ior s1 s0) (w32 (v3 + 1)) σ
theorem L_X12_crowsOn_b35 {sc : Nat × (Nat → Int32)} {o : Int} {σ : Mem} {k4 : (Int → Int → Int → Int → Mem → Option (Int))} (hk4 : ∀ {v0 v1 v2 v3 : Int}, k4 v0 v1 v2 v3 σ = some o → E sc (Fm Sh (some (0, o)) Sh σ) mt_X12_crowsOn 1 Sh Sh 4 [(2, v0), (0, v1), (0, v2), (0, v3)] [] Sh σ) {v0 v1 v3 s0 s1 : Int} (h : f_X12_crowsOn_b35 k4 v0 v1 v3 s0 s1 σ = some o) : E sc (Fm Sh (some (0, o)) Sh σ) mt_X12_crowsOn 1 Sh Sh 35 [(2, v0), (0, v1), (9, 0), (0, v3)] [(0, s0), (0, s1)] Sh σ := by
  unfold f_X12_crowsOn_b35 at h
  refine E_ior d_X12_crowsOn_35 ?_
  refine E_istore_n d_X12_crowsOn_36 (ls' := [(2, v0), (0, v1), (0, ior s1 s0), (0, v3)]) ⟨by decide, rfl⟩ ?_
  refine E_iinc d_X12_crowsOn_37 (ls' := [(2, v0), (0, v1), (0, ior s1 s0), (0, w32 (v3 + 1))]) rfl ⟨by decide, rfl⟩ ?_
  refine E_goto (tgt := 4) d_X12_crowsOn_40 (by decide) ?_
  exact (hk4 h)
noncomputable def f_X12_crowsOn_b4 (k4 : (Int → Int → Int → Int → Mem → Option (Int))) (v0 v1 v2 v3 : Int) (σ : Mem) : Option (Int) :=
  (gf Sh σ 12 v0 20).bind fun x1 =>
  (al Sh σ 20 x1 1).bind fun x2 =>
  if x2 ≤ v3 then
    some (v2)
  else
    (gf Sh σ 12 v0 20).bind fun x3 =>
    (al Sh σ 20 x3 (w32 (47 + v3))).bind fun x4 =>
    if x4 = v1 then
      f_X12_crowsOn_b35 k4 v0 v1 v3 (ishl 1 v3) v2 σ
    else
      f_X12_crowsOn_b35 k4 v0 v1 v3 0 v2 σ
theorem L_X12_crowsOn_b4 {sc : Nat × (Nat → Int32)} {o : Int} {σ : Mem} {k4 : (Int → Int → Int → Int → Mem → Option (Int))} (hk4 : ∀ {v0 v1 v2 v3 : Int}, k4 v0 v1 v2 v3 σ = some o → E sc (Fm Sh (some (0, o)) Sh σ) mt_X12_crowsOn 1 Sh Sh 4 [(2, v0), (0, v1), (0, v2), (0, v3)] [] Sh σ) {v0 v1 v2 v3 : Int} (h : f_X12_crowsOn_b4 k4 v0 v1 v2 v3 σ = some o) : E sc (Fm Sh (some (0, o)) Sh σ) mt_X12_crowsOn 1 Sh Sh 4 [(2, v0), (0, v1), (0, v2), (0, v3)] [] Sh σ := by
  unfold f_X12_crowsOn_b4 at h
  refine E_iload_n d_X12_crowsOn_4 rfl ?_
  refine E_aload_n d_X12_crowsOn_5 rfl (by decide) ?_
  refine E_get d_X12_crowsOn_6 okX12 fl_X12_35 ⟨by decide, rfl⟩ h (fun x1 h => ?_)
  refine E_iconst d_X12_crowsOn_9 (c32 rfl) ?_
  refine E_iaload d_X12_crowsOn_10 h (fun x2 h => ?_)
  refine E_icmp_ge (tgt := 43) d_X12_crowsOn_11 (by decide) h (fun _ h => ?_) (fun _ h => ?_)
  · refine E_iload_n d_X12_crowsOn_43 rfl ?_
    cases h
    exact E_iret d_X12_crowsOn_44 rfl
  · refine E_iload_n d_X12_crowsOn_14 rfl ?_
    refine E_aload_n d_X12_crowsOn_15 rfl (by decide) ?_
    refine E_get d_X12_crowsOn_16 okX12 fl_X12_35 ⟨by decide, rfl⟩ h (fun x3 h => ?_)
    refine E_bipush d_X12_crowsOn_19 (c8 rfl) ?_
    refine E_iload_n d_X12_crowsOn_21 rfl ?_
    refine E_iadd d_X12_crowsOn_22 ?_
    refine E_iaload d_X12_crowsOn_23 h (fun x4 h => ?_)
    refine E_iload_n d_X12_crowsOn_24 rfl ?_
    refine E_icmp_ne (tgt := 34) d_X12_crowsOn_25 (by decide) h (fun _ h => ?_) (fun _ h => ?_)
    · refine E_iconst d_X12_crowsOn_28 (c32 rfl) ?_
      refine E_iload_n d_X12_crowsOn_29 rfl ?_
      refine E_ishl d_X12_crowsOn_30 ?_
      refine E_goto (tgt := 35) d_X12_crowsOn_31 (by decide) ?_
      exact E_weak (ls' := [(2, v0), (0, v1), (9, 0), (0, v3)]) ⟨Or.inr rfl, Or.inr rfl, Or.inl rfl, Or.inr rfl, trivial⟩ (L_X12_crowsOn_b35 hk4 h)
    · refine E_iconst d_X12_crowsOn_34 (c32 rfl) ?_
      exact E_weak (ls' := [(2, v0), (0, v1), (9, 0), (0, v3)]) ⟨Or.inr rfl, Or.inr rfl, Or.inl rfl, Or.inr rfl, trivial⟩ (L_X12_crowsOn_b35 hk4 h)
noncomputable def f_X12_crowsOn_h4 (n : Nat) : Int → Int → Int → Int → Mem → Option (Int) := Nat.rec (motive := fun _ => Int → Int → Int → Int → Mem → Option (Int)) (fun _ _ _ _ _ => none) (fun _ ih => f_X12_crowsOn_b4 (ih)) n
theorem L_X12_crowsOn_h4 {sc : Nat × (Nat → Int32)} {o : Int} {σ : Mem} : ∀ (n : Nat) {v0 v1 v2 v3 : Int}, f_X12_crowsOn_h4 n v0 v1 v2 v3 σ = some o → E sc (Fm Sh (some (0, o)) Sh σ) mt_X12_crowsOn 1 Sh Sh 4 [(2, v0), (0, v1), (0, v2), (0, v3)] [] Sh σ := by
  intro n
  induction n with
  | zero => intro v0 v1 v2 v3 h; cases h
  | succ n ih => intro v0 v1 v2 v3 h; exact L_X12_crowsOn_b4 (@ih) h
noncomputable def f_X12_crowsOn_b0 (v0 v1 : Int) (σ : Mem) : Option (Int) :=
  f_X12_crowsOn_h4 FU v0 v1 0 0 σ
theorem L_X12_crowsOn_b0 {sc : Nat × (Nat → Int32)} {o : Int} {σ : Mem} {v0 v1 : Int} (h : f_X12_crowsOn_b0 v0 v1 σ = some o) : E sc (Fm Sh (some (0, o)) Sh σ) mt_X12_crowsOn 1 Sh Sh 0 [(2, v0), (0, v1), (9, 0), (9, 0)] [] Sh σ := by
  unfold f_X12_crowsOn_b0 at h
  refine E_iconst d_X12_crowsOn_0 (c32 rfl) ?_
  refine E_istore_n d_X12_crowsOn_1 (ls' := [(2, v0), (0, v1), (0, 0), (9, 0)]) ⟨by decide, rfl⟩ ?_
  refine E_iconst d_X12_crowsOn_2 (c32 rfl) ?_
  refine E_istore_n d_X12_crowsOn_3 (ls' := [(2, v0), (0, v1), (0, 0), (0, 0)]) ⟨by decide, rfl⟩ ?_
  exact (L_X12_crowsOn_h4 FU h)
noncomputable def f_X12_crowsOn (v0 v1 : Int) (σ : Mem) : Option (Int) := if isO Sh 12 v0 = true then f_X12_crowsOn_b0 v0 v1 σ else none
theorem L_X12_crowsOn {o : Int} {v0 v1 : Int} {σ : Mem} (h : f_X12_crowsOn v0 v1 σ = some o) : (isO Sh 12 v0 = true ∧ Cn mt_X12_crowsOn 1 [(2, v0), (0, v1)] Sh σ (some (0, o)) Sh σ) := ⟨(ite_ok h).1, Cn_of mk_X12_crowsOn.1.2.2.1 (Nat.le_of_ble_eq_true rfl) (fun sc => L_X12_crowsOn_b0 (ite_ok h).2)⟩
theorem d_X12_farOf_0 : decode mt_X12_farOf.2.1 0 = .ok (.iload_n 1, 1) := by decide +kernel
theorem d_X12_farOf_1 : decode mt_X12_farOf.2.1 1 = .ok (.iload_n 2, 1) := by decide +kernel
theorem d_X12_farOf_2 : decode mt_X12_farOf.2.1 2 = .ok (.isub, 1) := by decide +kernel
theorem d_X12_farOf_3 : decode mt_X12_farOf.2.1 3 = .ok (.invokestatic 308, 3) := by decide +kernel
theorem d_X12_farOf_6 : decode mt_X12_farOf.2.1 6 = .ok (.istore_n 3, 1) := by decide +kernel
theorem d_X12_farOf_7 : decode mt_X12_farOf.2.1 7 = .ok (.iload_n 3, 1) := by decide +kernel
theorem d_X12_farOf_8 : decode mt_X12_farOf.2.1 8 = .ok (.aload_n 0, 1) := by decide +kernel
theorem d_X12_farOf_9 : decode mt_X12_farOf.2.1 9 = .ok (.getfield 35, 3) := by decide +kernel
theorem d_X12_farOf_12 : decode mt_X12_farOf.2.1 12 = .ok (.iconst 0, 1) := by decide +kernel
theorem d_X12_farOf_13 : decode mt_X12_farOf.2.1 13 = .ok (.iaload, 1) := by decide +kernel
theorem d_X12_farOf_14 : decode mt_X12_farOf.2.1 14 = .ok (.iload_n 3, 1) := by decide +kernel
theorem d_X12_farOf_15 : decode mt_X12_farOf.2.1 15 = .ok (.isub, 1) := by decide +kernel
theorem d_X12_farOf_16 : decode mt_X12_farOf.2.1 16 = .ok (.invokestatic 310, 3) := by decide +kernel
theorem d_X12_farOf_19 : decode mt_X12_farOf.2.1 19 = .ok (.ireturn, 1) := by decide +kernel
noncomputable def f_X12_farOf_b0 (v0 v1 v2 : Int) (σ : Mem) : Option (Int) :=
  (gf Sh σ 12 v0 20).bind fun x1 =>
  (al Sh σ 20 x1 0).bind fun x2 =>
  some (imin (iabs (w32 (v1 - v2))) (w32 (x2 - (iabs (w32 (v1 - v2))))))
theorem L_X12_farOf_b0 {sc : Nat × (Nat → Int32)} {o : Int} {σ : Mem} {v0 v1 v2 : Int} (h : f_X12_farOf_b0 v0 v1 v2 σ = some o) : E sc (Fm Sh (some (0, o)) Sh σ) mt_X12_farOf 2 Sh Sh 0 [(2, v0), (0, v1), (0, v2), (9, 0)] [] Sh σ := by
  unfold f_X12_farOf_b0 at h
  refine E_iload_n d_X12_farOf_0 rfl ?_
  refine E_iload_n d_X12_farOf_1 rfl ?_
  refine E_isub d_X12_farOf_2 ?_
  refine E_iabs d_X12_farOf_3 nl_X12_308 (by omega) (Nat.le_of_ble_eq_true rfl) ?_
  refine E_istore_n d_X12_farOf_6 (ls' := [(2, v0), (0, v1), (0, v2), (0, iabs (w32 (v1 - v2)))]) ⟨by decide, rfl⟩ ?_
  refine E_iload_n d_X12_farOf_7 rfl ?_
  refine E_aload_n d_X12_farOf_8 rfl (by decide) ?_
  refine E_get d_X12_farOf_9 okX12 fl_X12_35 ⟨by decide, rfl⟩ h (fun x1 h => ?_)
  refine E_iconst d_X12_farOf_12 (c32 rfl) ?_
  refine E_iaload d_X12_farOf_13 h (fun x2 h => ?_)
  refine E_iload_n d_X12_farOf_14 rfl ?_
  refine E_isub d_X12_farOf_15 ?_
  refine E_imin d_X12_farOf_16 nl_X12_310 (by omega) (Nat.le_of_ble_eq_true rfl) ?_
  cases h
  exact E_iret d_X12_farOf_19 rfl
noncomputable def f_X12_farOf (v0 v1 v2 : Int) (σ : Mem) : Option (Int) := if isO Sh 12 v0 = true then f_X12_farOf_b0 v0 v1 v2 σ else none
theorem L_X12_farOf {o : Int} {v0 v1 v2 : Int} {σ : Mem} (h : f_X12_farOf v0 v1 v2 σ = some o) : (isO Sh 12 v0 = true ∧ Cn mt_X12_farOf 2 [(2, v0), (0, v1), (0, v2)] Sh σ (some (0, o)) Sh σ) := ⟨(ite_ok h).1, Cn_of mk_X12_farOf.1.2.2.1 (Nat.le_of_ble_eq_true rfl) (fun sc => L_X12_farOf_b0 (ite_ok h).2)⟩
theorem d_X12_mercyOf_0 : decode mt_X12_mercyOf.2.1 0 = .ok (.aload_n 0, 1) := by decide +kernel
theorem d_X12_mercyOf_1 : decode mt_X12_mercyOf.2.1 1 = .ok (.getfield 35, 3) := by decide +kernel
theorem d_X12_mercyOf_4 : decode mt_X12_mercyOf.2.1 4 = .ok (.bipush 17, 2) := by decide +kernel
theorem d_X12_mercyOf_6 : decode mt_X12_mercyOf.2.1 6 = .ok (.iload_n 1, 1) := by decide +kernel
theorem d_X12_mercyOf_7 : decode mt_X12_mercyOf.2.1 7 = .ok (.iadd, 1) := by decide +kernel
theorem d_X12_mercyOf_8 : decode mt_X12_mercyOf.2.1 8 = .ok (.iaload, 1) := by decide +kernel
theorem d_X12_mercyOf_9 : decode mt_X12_mercyOf.2.1 9 = .ok (.aload_n 0, 1) := by decide +kernel
theorem d_X12_mercyOf_10 : decode mt_X12_mercyOf.2.1 10 = .ok (.getfield 35, 3) := by decide +kernel
theorem d_X12_mercyOf_13 : decode mt_X12_mercyOf.2.1 13 = .ok (.bipush 27, 2) := by decide +kernel
theorem d_X12_mercyOf_15 : decode mt_X12_mercyOf.2.1 15 = .ok (.iload_n 1, 1) := by decide +kernel
theorem d_X12_mercyOf_16 : decode mt_X12_mercyOf.2.1 16 = .ok (.iadd, 1) := by decide +kernel
theorem d_X12_mercyOf_17 : decode mt_X12_mercyOf.2.1 17 = .ok (.iaload, 1) := by decide +kernel
theorem d_X12_mercyOf_18 : decode mt_X12_mercyOf.2.1 18 = .ok (.iadd, 1) := by decide +kernel
theorem d_X12_mercyOf_19 : decode mt_X12_mercyOf.2.1 19 = .ok (.aload_n 0, 1) := by decide +kernel
theorem d_X12_mercyOf_20 : decode mt_X12_mercyOf.2.1 20 = .ok (.iload_n 1, 1) := by decide +kernel
theorem d_X12_mercyOf_21 : decode mt_X12_mercyOf.2.1 21 = .ok (.iload_n 2, 1) := by decide +kernel
theorem d_X12_mercyOf_22 : decode mt_X12_mercyOf.2.1 22 = .ok (.invokevirtual 313, 3) := by decide +kernel
theorem d_X12_mercyOf_25 : decode mt_X12_mercyOf.2.1 25 = .ok (.iadd, 1) := by decide +kernel
theorem d_X12_mercyOf_26 : decode mt_X12_mercyOf.2.1 26 = .ok (.istore_n 3, 1) := by decide +kernel
theorem d_X12_mercyOf_27 : decode mt_X12_mercyOf.2.1 27 = .ok (.iconst 0, 1) := by decide +kernel
theorem d_X12_mercyOf_28 : decode mt_X12_mercyOf.2.1 28 = .ok (.istore 4, 2) := by decide +kernel
theorem d_X12_mercyOf_30 : decode mt_X12_mercyOf.2.1 30 = .ok (.iload 4, 2) := by decide +kernel
theorem d_X12_mercyOf_32 : decode mt_X12_mercyOf.2.1 32 = .ok (.aload_n 0, 1) := by decide +kernel
theorem d_X12_mercyOf_33 : decode mt_X12_mercyOf.2.1 33 = .ok (.getfield 35, 3) := by decide +kernel
theorem d_X12_mercyOf_36 : decode mt_X12_mercyOf.2.1 36 = .ok (.iconst 1, 1) := by decide +kernel
theorem d_X12_mercyOf_37 : decode mt_X12_mercyOf.2.1 37 = .ok (.iaload, 1) := by decide +kernel
theorem d_X12_mercyOf_38 : decode mt_X12_mercyOf.2.1 38 = .ok (.if_icmp .ge 46, 3) := by decide +kernel
theorem d_X12_mercyOf_41 : decode mt_X12_mercyOf.2.1 41 = .ok (.aload_n 0, 1) := by decide +kernel
theorem d_X12_mercyOf_42 : decode mt_X12_mercyOf.2.1 42 = .ok (.getfield 35, 3) := by decide +kernel
theorem d_X12_mercyOf_45 : decode mt_X12_mercyOf.2.1 45 = .ok (.bipush 47, 2) := by decide +kernel
theorem d_X12_mercyOf_47 : decode mt_X12_mercyOf.2.1 47 = .ok (.iload 4, 2) := by decide +kernel
theorem d_X12_mercyOf_49 : decode mt_X12_mercyOf.2.1 49 = .ok (.iadd, 1) := by decide +kernel
theorem d_X12_mercyOf_50 : decode mt_X12_mercyOf.2.1 50 = .ok (.iaload, 1) := by decide +kernel
theorem d_X12_mercyOf_51 : decode mt_X12_mercyOf.2.1 51 = .ok (.iload_n 1, 1) := by decide +kernel
theorem d_X12_mercyOf_52 : decode mt_X12_mercyOf.2.1 52 = .ok (.if_icmp .ne 26, 3) := by decide +kernel
theorem d_X12_mercyOf_55 : decode mt_X12_mercyOf.2.1 55 = .ok (.iload_n 3, 1) := by decide +kernel
theorem d_X12_mercyOf_56 : decode mt_X12_mercyOf.2.1 56 = .ok (.aload_n 0, 1) := by decide +kernel
theorem d_X12_mercyOf_57 : decode mt_X12_mercyOf.2.1 57 = .ok (.getfield 35, 3) := by decide +kernel
theorem d_X12_mercyOf_60 : decode mt_X12_mercyOf.2.1 60 = .ok (.bipush 51, 2) := by decide +kernel
theorem d_X12_mercyOf_62 : decode mt_X12_mercyOf.2.1 62 = .ok (.iload 4, 2) := by decide +kernel
theorem d_X12_mercyOf_64 : decode mt_X12_mercyOf.2.1 64 = .ok (.iadd, 1) := by decide +kernel
theorem d_X12_mercyOf_65 : decode mt_X12_mercyOf.2.1 65 = .ok (.iaload, 1) := by decide +kernel
theorem d_X12_mercyOf_66 : decode mt_X12_mercyOf.2.1 66 = .ok (.iconst 1, 1) := by decide +kernel
theorem d_X12_mercyOf_67 : decode mt_X12_mercyOf.2.1 67 = .ok (.if_icmp .ne 7, 3) := by decide +kernel
theorem d_X12_mercyOf_70 : decode mt_X12_mercyOf.2.1 70 = .ok (.iconst 3, 1) := by decide +kernel
theorem d_X12_mercyOf_71 : decode mt_X12_mercyOf.2.1 71 = .ok (.goto 5, 3) := by decide +kernel
theorem d_X12_mercyOf_74 : decode mt_X12_mercyOf.2.1 74 = .ok (.bipush (-3), 2) := by decide +kernel
theorem d_X12_mercyOf_76 : decode mt_X12_mercyOf.2.1 76 = .ok (.iadd, 1) := by decide +kernel
theorem d_X12_mercyOf_77 : decode mt_X12_mercyOf.2.1 77 = .ok (.istore_n 3, 1) := by decide +kernel
theorem d_X12_mercyOf_78 : decode mt_X12_mercyOf.2.1 78 = .ok (.iinc 4 1, 3) := by decide +kernel
theorem d_X12_mercyOf_81 : decode mt_X12_mercyOf.2.1 81 = .ok (.goto (-51), 3) := by decide +kernel
theorem d_X12_mercyOf_84 : decode mt_X12_mercyOf.2.1 84 = .ok (.iload_n 3, 1) := by decide +kernel
theorem d_X12_mercyOf_85 : decode mt_X12_mercyOf.2.1 85 = .ok (.ireturn, 1) := by decide +kernel
noncomputable def f_X12_mercyOf_b78 (k30 : (Int → Int → Int → Int → Mem → Option (Int))) (v0 v1 v3 v4 : Int) (σ : Mem) : Option (Int) :=
  k30 v0 v1 v3 (w32 (v4 + 1)) σ
theorem L_X12_mercyOf_b78 {sc : Nat × (Nat → Int32)} {o : Int} {σ : Mem} {k30 : (Int → Int → Int → Int → Mem → Option (Int))} (hk30 : ∀ {v0 v1 v3 v4 : Int}, k30 v0 v1 v3 v4 σ = some o → E sc (Fm Sh (some (0, o)) Sh σ) mt_X12_mercyOf 3 Sh Sh 30 [(2, v0), (0, v1), (9, 0), (0, v3), (0, v4)] [] Sh σ) {v0 v1 v3 v4 : Int} (h : f_X12_mercyOf_b78 k30 v0 v1 v3 v4 σ = some o) : E sc (Fm Sh (some (0, o)) Sh σ) mt_X12_mercyOf 3 Sh Sh 78 [(2, v0), (0, v1), (9, 0), (0, v3), (0, v4)] [] Sh σ := by
  unfold f_X12_mercyOf_b78 at h
  refine E_iinc d_X12_mercyOf_78 (ls' := [(2, v0), (0, v1), (9, 0), (0, v3), (0, w32 (v4 + 1))]) rfl ⟨by decide, rfl⟩ ?_
  refine E_goto (tgt := 30) d_X12_mercyOf_81 (by decide) ?_
  exact (hk30 h)
noncomputable def f_X12_mercyOf_b76 (k30 : (Int → Int → Int → Int → Mem → Option (Int))) (v0 v1 v4 s0 s1 : Int) (σ : Mem) : Option (Int) :=
  f_X12_mercyOf_b78 k30 v0 v1 (w32 (s1 + s0)) v4 σ
theorem L_X12_mercyOf_b76 {sc : Nat × (Nat → Int32)} {o : Int} {σ : Mem} {k30 : (Int → Int → Int → Int → Mem → Option (Int))} (hk30 : ∀ {v0 v1 v3 v4 : Int}, k30 v0 v1 v3 v4 σ = some o → E sc (Fm Sh (some (0, o)) Sh σ) mt_X12_mercyOf 3 Sh Sh 30 [(2, v0), (0, v1), (9, 0), (0, v3), (0, v4)] [] Sh σ) {v0 v1 v4 s0 s1 : Int} (h : f_X12_mercyOf_b76 k30 v0 v1 v4 s0 s1 σ = some o) : E sc (Fm Sh (some (0, o)) Sh σ) mt_X12_mercyOf 3 Sh Sh 76 [(2, v0), (0, v1), (9, 0), (9, 0), (0, v4)] [(0, s0), (0, s1)] Sh σ := by
  unfold f_X12_mercyOf_b76 at h
  refine E_iadd d_X12_mercyOf_76 ?_
  refine E_istore_n d_X12_mercyOf_77 (ls' := [(2, v0), (0, v1), (9, 0), (0, w32 (s1 + s0)), (0, v4)]) ⟨by decide, rfl⟩ ?_
  exact (L_X12_mercyOf_b78 hk30 h)
noncomputable def f_X12_mercyOf_b30 (k30 : (Int → Int → Int → Int → Mem → Option (Int))) (v0 v1 v3 v4 : Int) (σ : Mem) : Option (Int) :=
  (gf Sh σ 12 v0 20).bind fun x7 =>
  (al Sh σ 20 x7 1).bind fun x8 =>
  if x8 ≤ v4 then
    some (v3)
  else
    (gf Sh σ 12 v0 20).bind fun x9 =>
    (al Sh σ 20 x9 (w32 (47 + v4))).bind fun x10 =>
    if x10 = v1 then
      (gf Sh σ 12 v0 20).bind fun x11 =>
      (al Sh σ 20 x11 (w32 (51 + v4))).bind fun x12 =>
      if x12 = 1 then
        f_X12_mercyOf_b76 k30 v0 v1 v4 3 v3 σ
      else
        f_X12_mercyOf_b76 k30 v0 v1 v4 (-3) v3 σ
    else
      f_X12_mercyOf_b78 k30 v0 v1 v3 v4 σ
theorem L_X12_mercyOf_b30 {sc : Nat × (Nat → Int32)} {o : Int} {σ : Mem} {k30 : (Int → Int → Int → Int → Mem → Option (Int))} (hk30 : ∀ {v0 v1 v3 v4 : Int}, k30 v0 v1 v3 v4 σ = some o → E sc (Fm Sh (some (0, o)) Sh σ) mt_X12_mercyOf 3 Sh Sh 30 [(2, v0), (0, v1), (9, 0), (0, v3), (0, v4)] [] Sh σ) {v0 v1 v3 v4 : Int} (h : f_X12_mercyOf_b30 k30 v0 v1 v3 v4 σ = some o) : E sc (Fm Sh (some (0, o)) Sh σ) mt_X12_mercyOf 3 Sh Sh 30 [(2, v0), (0, v1), (9, 0), (0, v3), (0, v4)] [] Sh σ := by
  unfold f_X12_mercyOf_b30 at h
  refine E_iload d_X12_mercyOf_30 rfl ?_
  refine E_aload_n d_X12_mercyOf_32 rfl (by decide) ?_
  refine E_get d_X12_mercyOf_33 okX12 fl_X12_35 ⟨by decide, rfl⟩ h (fun x7 h => ?_)
  refine E_iconst d_X12_mercyOf_36 (c32 rfl) ?_
  refine E_iaload d_X12_mercyOf_37 h (fun x8 h => ?_)
  refine E_icmp_ge (tgt := 84) d_X12_mercyOf_38 (by decide) h (fun _ h => ?_) (fun _ h => ?_)
  · refine E_iload_n d_X12_mercyOf_84 rfl ?_
    cases h
    exact E_iret d_X12_mercyOf_85 rfl
  · refine E_aload_n d_X12_mercyOf_41 rfl (by decide) ?_
    refine E_get d_X12_mercyOf_42 okX12 fl_X12_35 ⟨by decide, rfl⟩ h (fun x9 h => ?_)
    refine E_bipush d_X12_mercyOf_45 (c8 rfl) ?_
    refine E_iload d_X12_mercyOf_47 rfl ?_
    refine E_iadd d_X12_mercyOf_49 ?_
    refine E_iaload d_X12_mercyOf_50 h (fun x10 h => ?_)
    refine E_iload_n d_X12_mercyOf_51 rfl ?_
    refine E_icmp_ne (tgt := 78) d_X12_mercyOf_52 (by decide) h (fun _ h => ?_) (fun _ h => ?_)
    · refine E_iload_n d_X12_mercyOf_55 rfl ?_
      refine E_aload_n d_X12_mercyOf_56 rfl (by decide) ?_
      refine E_get d_X12_mercyOf_57 okX12 fl_X12_35 ⟨by decide, rfl⟩ h (fun x11 h => ?_)
      refine E_bipush d_X12_mercyOf_60 (c8 rfl) ?_
      refine E_iload d_X12_mercyOf_62 rfl ?_
      refine E_iadd d_X12_mercyOf_64 ?_
      refine E_iaload d_X12_mercyOf_65 h (fun x12 h => ?_)
      refine E_iconst d_X12_mercyOf_66 (c32 rfl) ?_
      refine E_icmp_ne (tgt := 74) d_X12_mercyOf_67 (by decide) h (fun _ h => ?_) (fun _ h => ?_)
      · refine E_iconst d_X12_mercyOf_70 (c32 rfl) ?_
        refine E_goto (tgt := 76) d_X12_mercyOf_71 (by decide) ?_
        exact E_weak (ls' := [(2, v0), (0, v1), (9, 0), (9, 0), (0, v4)]) ⟨Or.inr rfl, Or.inr rfl, Or.inl rfl, Or.inl rfl, Or.inr rfl, trivial⟩ (L_X12_mercyOf_b76 hk30 h)
      · refine E_bipush d_X12_mercyOf_74 (c8 rfl) ?_
        exact E_weak (ls' := [(2, v0), (0, v1), (9, 0), (9, 0), (0, v4)]) ⟨Or.inr rfl, Or.inr rfl, Or.inl rfl, Or.inl rfl, Or.inr rfl, trivial⟩ (L_X12_mercyOf_b76 hk30 h)
    · exact (L_X12_mercyOf_b78 hk30 h)
noncomputable def f_X12_mercyOf_h30 (n : Nat) : Int → Int → Int → Int → Mem → Option (Int) := Nat.rec (motive := fun _ => Int → Int → Int → Int → Mem → Option (Int)) (fun _ _ _ _ _ => none) (fun _ ih => f_X12_mercyOf_b30 (ih)) n
theorem L_X12_mercyOf_h30 {sc : Nat × (Nat → Int32)} {o : Int} {σ : Mem} : ∀ (n : Nat) {v0 v1 v3 v4 : Int}, f_X12_mercyOf_h30 n v0 v1 v3 v4 σ = some o → E sc (Fm Sh (some (0, o)) Sh σ) mt_X12_mercyOf 3 Sh Sh 30 [(2, v0), (0, v1), (9, 0), (0, v3), (0, v4)] [] Sh σ := by
  intro n
  induction n with
  | zero => intro v0 v1 v3 v4 h; cases h
  | succ n ih => intro v0 v1 v3 v4 h; exact L_X12_mercyOf_b30 (@ih) h
noncomputable def f_X12_mercyOf_b0 (v0 v1 v2 : Int) (σ : Mem) : Option (Int) :=
  (gf Sh σ 12 v0 20).bind fun x1 =>
  (al Sh σ 20 x1 (w32 (17 + v1))).bind fun x2 =>
  (gf Sh σ 12 v0 20).bind fun x3 =>
  (al Sh σ 20 x3 (w32 (27 + v1))).bind fun x4 =>
  (f_X12_farOf v0 v1 v2 σ).bind fun r5 =>
  f_X12_mercyOf_h30 FU v0 v1 (w32 (w32 (x2 + x4) + r5)) 0 σ
theorem L_X12_mercyOf_b0 {sc : Nat × (Nat → Int32)} {o : Int} {σ : Mem} {v0 v1 v2 : Int} (h : f_X12_mercyOf_b0 v0 v1 v2 σ = some o) : E sc (Fm Sh (some (0, o)) Sh σ) mt_X12_mercyOf 3 Sh Sh 0 [(2, v0), (0, v1), (0, v2), (9, 0), (9, 0)] [] Sh σ := by
  unfold f_X12_mercyOf_b0 at h
  refine E_aload_n d_X12_mercyOf_0 rfl (by decide) ?_
  refine E_get d_X12_mercyOf_1 okX12 fl_X12_35 ⟨by decide, rfl⟩ h (fun x1 h => ?_)
  refine E_bipush d_X12_mercyOf_4 (c8 rfl) ?_
  refine E_iload_n d_X12_mercyOf_6 rfl ?_
  refine E_iadd d_X12_mercyOf_7 ?_
  refine E_iaload d_X12_mercyOf_8 h (fun x2 h => ?_)
  refine E_aload_n d_X12_mercyOf_9 rfl (by decide) ?_
  refine E_get d_X12_mercyOf_10 okX12 fl_X12_35 ⟨by decide, rfl⟩ h (fun x3 h => ?_)
  refine E_bipush d_X12_mercyOf_13 (c8 rfl) ?_
  refine E_iload_n d_X12_mercyOf_15 rfl ?_
  refine E_iadd d_X12_mercyOf_16 ?_
  refine E_iaload d_X12_mercyOf_17 h (fun x4 h => ?_)
  refine E_iadd d_X12_mercyOf_18 ?_
  refine E_aload_n d_X12_mercyOf_19 rfl (by decide) ?_
  refine E_iload_n d_X12_mercyOf_20 rfl ?_
  refine E_iload_n d_X12_mercyOf_21 rfl ?_
  refine bd h (fun r5 q6 h => ?_)
  refine E_cV (as := [(0, v1), (0, v2)]) (st := [(0, w32 (x2 + x4))]) (a := v0) d_X12_mercyOf_22 mk_X12_farOf nl_X12_313 (by omega) ⟨rfl, rfl, Nat.le_of_ble_eq_true rfl⟩ okX12 rfl (L_X12_farOf q6) ?_
  refine E_iadd d_X12_mercyOf_25 ?_
  refine E_istore_n d_X12_mercyOf_26 (ls' := [(2, v0), (0, v1), (0, v2), (0, w32 (w32 (x2 + x4) + r5)), (9, 0)]) ⟨by decide, rfl⟩ ?_
  refine E_iconst d_X12_mercyOf_27 (c32 rfl) ?_
  refine E_istore d_X12_mercyOf_28 (ls' := [(2, v0), (0, v1), (0, v2), (0, w32 (w32 (x2 + x4) + r5)), (0, 0)]) ⟨by decide, rfl⟩ ?_
  exact E_weak (ls' := [(2, v0), (0, v1), (9, 0), (0, w32 (w32 (x2 + x4) + r5)), (0, 0)]) ⟨Or.inr rfl, Or.inr rfl, Or.inl rfl, Or.inr rfl, Or.inr rfl, trivial⟩ (L_X12_mercyOf_h30 FU h)
noncomputable def f_X12_mercyOf (v0 v1 v2 : Int) (σ : Mem) : Option (Int) := if isO Sh 12 v0 = true then f_X12_mercyOf_b0 v0 v1 v2 σ else none
theorem L_X12_mercyOf {o : Int} {v0 v1 v2 : Int} {σ : Mem} (h : f_X12_mercyOf v0 v1 v2 σ = some o) : (isO Sh 12 v0 = true ∧ Cn mt_X12_mercyOf 3 [(2, v0), (0, v1), (0, v2)] Sh σ (some (0, o)) Sh σ) := ⟨(ite_ok h).1, Cn_of mk_X12_mercyOf.1.2.2.1 (Nat.le_of_ble_eq_true rfl) (fun sc => L_X12_mercyOf_b0 (ite_ok h).2)⟩
theorem d_X12_stone_0 : decode mt_X12_stone.2.1 0 = .ok (.aload_n 0, 1) := by decide +kernel
theorem d_X12_stone_1 : decode mt_X12_stone.2.1 1 = .ok (.iconst 0, 1) := by decide +kernel
theorem d_X12_stone_2 : decode mt_X12_stone.2.1 2 = .ok (.putfield 70, 3) := by decide +kernel
theorem d_X12_stone_5 : decode mt_X12_stone.2.1 5 = .ok (.aload_n 0, 1) := by decide +kernel
theorem d_X12_stone_6 : decode mt_X12_stone.2.1 6 = .ok (.iconst 0, 1) := by decide +kernel
theorem d_X12_stone_7 : decode mt_X12_stone.2.1 7 = .ok (.putfield 73, 3) := by decide +kernel
theorem d_X12_stone_10 : decode mt_X12_stone.2.1 10 = .ok (.aload_n 0, 1) := by decide +kernel
theorem d_X12_stone_11 : decode mt_X12_stone.2.1 11 = .ok (.iload_n 1, 1) := by decide +kernel
theorem d_X12_stone_12 : decode mt_X12_stone.2.1 12 = .ok (.i2l, 1) := by decide +kernel
theorem d_X12_stone_13 : decode mt_X12_stone.2.1 13 = .ok (.invokevirtual 330, 3) := by decide +kernel
theorem d_X12_stone_16 : decode mt_X12_stone.2.1 16 = .ok (.ifCond .ne 9, 3) := by decide +kernel
theorem d_X12_stone_19 : decode mt_X12_stone.2.1 19 = .ok (.aload_n 0, 1) := by decide +kernel
theorem d_X12_stone_20 : decode mt_X12_stone.2.1 20 = .ok (.iconst 2, 1) := by decide +kernel
theorem d_X12_stone_21 : decode mt_X12_stone.2.1 21 = .ok (.invokevirtual 318, 3) := by decide +kernel
theorem d_X12_stone_24 : decode mt_X12_stone.2.1 24 = .ok (.ireturn, 1) := by decide +kernel
theorem d_X12_stone_25 : decode mt_X12_stone.2.1 25 = .ok (.iload_n 2, 1) := by decide +kernel
theorem d_X12_stone_26 : decode mt_X12_stone.2.1 26 = .ok (.i2l, 1) := by decide +kernel
theorem d_X12_stone_27 : decode mt_X12_stone.2.1 27 = .ok (.lconst 0, 1) := by decide +kernel
theorem d_X12_stone_28 : decode mt_X12_stone.2.1 28 = .ok (.ldc2_w 333, 3) := by decide +kernel
theorem d_X12_stone_31 : decode mt_X12_stone.2.1 31 = .ok (.invokestatic 104, 3) := by decide +kernel
theorem d_X12_stone_34 : decode mt_X12_stone.2.1 34 = .ok (.ifCond .ne 9, 3) := by decide +kernel
theorem d_X12_stone_37 : decode mt_X12_stone.2.1 37 = .ok (.aload_n 0, 1) := by decide +kernel
theorem d_X12_stone_38 : decode mt_X12_stone.2.1 38 = .ok (.iconst 5, 1) := by decide +kernel
theorem d_X12_stone_39 : decode mt_X12_stone.2.1 39 = .ok (.invokevirtual 318, 3) := by decide +kernel
theorem d_X12_stone_42 : decode mt_X12_stone.2.1 42 = .ok (.ireturn, 1) := by decide +kernel
theorem d_X12_stone_43 : decode mt_X12_stone.2.1 43 = .ok (.aload_n 0, 1) := by decide +kernel
theorem d_X12_stone_44 : decode mt_X12_stone.2.1 44 = .ok (.iload_n 1, 1) := by decide +kernel
theorem d_X12_stone_45 : decode mt_X12_stone.2.1 45 = .ok (.invokevirtual 305, 3) := by decide +kernel
theorem d_X12_stone_48 : decode mt_X12_stone.2.1 48 = .ok (.ifCond .ne 10, 3) := by decide +kernel
theorem d_X12_stone_51 : decode mt_X12_stone.2.1 51 = .ok (.aload_n 0, 1) := by decide +kernel
theorem d_X12_stone_52 : decode mt_X12_stone.2.1 52 = .ok (.bipush 8, 2) := by decide +kernel
theorem d_X12_stone_54 : decode mt_X12_stone.2.1 54 = .ok (.invokevirtual 318, 3) := by decide +kernel
theorem d_X12_stone_57 : decode mt_X12_stone.2.1 57 = .ok (.ireturn, 1) := by decide +kernel
theorem d_X12_stone_58 : decode mt_X12_stone.2.1 58 = .ok (.iload_n 2, 1) := by decide +kernel
theorem d_X12_stone_59 : decode mt_X12_stone.2.1 59 = .ok (.iconst 3, 1) := by decide +kernel
theorem d_X12_stone_60 : decode mt_X12_stone.2.1 60 = .ok (.if_icmp .ne 11, 3) := by decide +kernel
theorem d_X12_stone_63 : decode mt_X12_stone.2.1 63 = .ok (.aload_n 0, 1) := by decide +kernel
theorem d_X12_stone_64 : decode mt_X12_stone.2.1 64 = .ok (.iload_n 1, 1) := by decide +kernel
theorem d_X12_stone_65 : decode mt_X12_stone.2.1 65 = .ok (.invokevirtual 335, 3) := by decide +kernel
theorem d_X12_stone_68 : decode mt_X12_stone.2.1 68 = .ok (.goto 31, 3) := by decide +kernel
theorem d_X12_stone_71 : decode mt_X12_stone.2.1 71 = .ok (.iload_n 2, 1) := by decide +kernel
theorem d_X12_stone_72 : decode mt_X12_stone.2.1 72 = .ok (.iconst 4, 1) := by decide +kernel
theorem d_X12_stone_73 : decode mt_X12_stone.2.1 73 = .ok (.if_icmp .ne 12, 3) := by decide +kernel
theorem d_X12_stone_76 : decode mt_X12_stone.2.1 76 = .ok (.aload_n 0, 1) := by decide +kernel
theorem d_X12_stone_77 : decode mt_X12_stone.2.1 77 = .ok (.iload_n 1, 1) := by decide +kernel
theorem d_X12_stone_78 : decode mt_X12_stone.2.1 78 = .ok (.iload_n 1, 1) := by decide +kernel
theorem d_X12_stone_79 : decode mt_X12_stone.2.1 79 = .ok (.invokevirtual 338, 3) := by decide +kernel
theorem d_X12_stone_82 : decode mt_X12_stone.2.1 82 = .ok (.goto 17, 3) := by decide +kernel
theorem d_X12_stone_85 : decode mt_X12_stone.2.1 85 = .ok (.aload_n 0, 1) := by decide +kernel
theorem d_X12_stone_86 : decode mt_X12_stone.2.1 86 = .ok (.getfield 35, 3) := by decide +kernel
theorem d_X12_stone_89 : decode mt_X12_stone.2.1 89 = .ok (.bipush 17, 2) := by decide +kernel
theorem d_X12_stone_91 : decode mt_X12_stone.2.1 91 = .ok (.bipush 10, 2) := by decide +kernel
theorem d_X12_stone_93 : decode mt_X12_stone.2.1 93 = .ok (.iload_n 2, 1) := by decide +kernel
theorem d_X12_stone_94 : decode mt_X12_stone.2.1 94 = .ok (.imul, 1) := by decide +kernel
theorem d_X12_stone_95 : decode mt_X12_stone.2.1 95 = .ok (.iadd, 1) := by decide +kernel
theorem d_X12_stone_96 : decode mt_X12_stone.2.1 96 = .ok (.iload_n 1, 1) := by decide +kernel
theorem d_X12_stone_97 : decode mt_X12_stone.2.1 97 = .ok (.iadd, 1) := by decide +kernel
theorem d_X12_stone_98 : decode mt_X12_stone.2.1 98 = .ok (.iaload, 1) := by decide +kernel
theorem d_X12_stone_99 : decode mt_X12_stone.2.1 99 = .ok (.ireturn, 1) := by decide +kernel
noncomputable def f_X12_stone_b0 (v0 v1 v2 : Int) (σ : Mem) : Option (Int × Mem) :=
  (pf Sh σ 12 v0 1 0).bind fun σ1 =>
  (pf Sh σ1 12 v0 0 0).bind fun σ2 =>
  (f_X12_isPlaceAt v0 v1 σ2).bind fun r3 =>
  if r3 = 0 then
    (f_X12_refuse v0 2 σ2).bind fun r5 =>
    some (r5.1, r5.2)
  else
    (f_X12_isIn v2 0 4 σ2).bind fun r7 =>
    if r7 = 0 then
      (f_X12_refuse v0 5 σ2).bind fun r9 =>
      some (r9.1, r9.2)
    else
      (f_X12_isStoneAt v0 v1 σ2).bind fun r11 =>
      if r11 = 0 then
        (f_X12_refuse v0 8 σ2).bind fun r13 =>
        some (r13.1, r13.2)
      else
        if v2 = 3 then
          (f_X12_crowsOn v0 v1 σ2).bind fun r15 =>
          some (r15, σ2)
        else
          if v2 = 4 then
            (f_X12_mercyOf v0 v1 v1 σ2).bind fun r17 =>
            some (r17, σ2)
          else
            (gf Sh σ2 12 v0 20).bind fun x19 =>
            (al Sh σ2 20 x19 (w32 (w32 (17 + (w32 (10 * v2))) + v1))).bind fun x20 =>
            some (x20, σ2)
theorem L_X12_stone_b0 {sc : Nat × (Nat → Int32)} {o : Int × Mem} {v0 v1 v2 : Int} {σ : Mem} (h : f_X12_stone_b0 v0 v1 v2 σ = some o) : E sc (Fm Sh (some (0, o.1)) Sh o.2) mt_X12_stone 4 Sh Sh 0 [(2, v0), (0, v1), (0, v2)] [] Sh σ := by
  unfold f_X12_stone_b0 at h
  refine E_aload_n d_X12_stone_0 rfl (by decide) ?_
  refine E_iconst d_X12_stone_1 (c32 rfl) ?_
  refine E_put d_X12_stone_2 okX12 fl_X12_70 ⟨by decide, rfl⟩ (Or.inl ⟨rfl, rfl⟩) (Or.inl rfl) h (fun σ1 h => ?_)
  refine E_aload_n d_X12_stone_5 rfl (by decide) ?_
  refine E_iconst d_X12_stone_6 (c32 rfl) ?_
  refine E_put d_X12_stone_7 okX12 fl_X12_73 ⟨by decide, rfl⟩ (Or.inl ⟨rfl, rfl⟩) (Or.inl rfl) h (fun σ2 h => ?_)
  refine E_aload_n d_X12_stone_10 rfl (by decide) ?_
  refine E_iload_n d_X12_stone_11 rfl ?_
  refine E_i2l d_X12_stone_12 ?_
  refine bd h (fun r3 q4 h => ?_)
  refine E_cV (as := [(1, v1)]) (st := []) (a := v0) d_X12_stone_13 mk_X12_isPlaceAt nl_X12_330 (by omega) ⟨rfl, rfl, Nat.le_of_ble_eq_true rfl⟩ okX12 rfl (L_X12_isPlaceAt q4) ?_
  refine E_if_ne (tgt := 25) d_X12_stone_16 (by decide) h (fun _ h => ?_) (fun _ h => ?_)
  · refine E_aload_n d_X12_stone_19 rfl (by decide) ?_
    refine E_iconst d_X12_stone_20 (c32 rfl) ?_
    refine bd h (fun r5 q6 h => ?_)
    refine E_cV (as := [(0, 2)]) (st := []) (a := v0) d_X12_stone_21 mk_X12_refuse nl_X12_318 (by omega) ⟨rfl, rfl, Nat.le_of_ble_eq_true rfl⟩ okX12 rfl (L_X12_refuse q6) ?_
    cases h
    exact E_iret d_X12_stone_24 rfl
  · refine E_iload_n d_X12_stone_25 rfl ?_
    refine E_i2l d_X12_stone_26 ?_
    refine E_lconst d_X12_stone_27 cl0 ?_
    refine E_ldc2 d_X12_stone_28 kw_X12_333 ?_
    refine bd h (fun r7 q8 h => ?_)
    refine E_cS (as := [(1, v2), (1, 0), (1, 4)]) (st := []) d_X12_stone_31 mk_X12_isIn nl_X12_104 (by omega) ⟨rfl, rfl, Nat.le_of_ble_eq_true rfl⟩ (L_X12_isIn q8) ?_
    refine E_if_ne (tgt := 43) d_X12_stone_34 (by decide) h (fun _ h => ?_) (fun _ h => ?_)
    · refine E_aload_n d_X12_stone_37 rfl (by decide) ?_
      refine E_iconst d_X12_stone_38 (c32 rfl) ?_
      refine bd h (fun r9 q10 h => ?_)
      refine E_cV (as := [(0, 5)]) (st := []) (a := v0) d_X12_stone_39 mk_X12_refuse nl_X12_318 (by omega) ⟨rfl, rfl, Nat.le_of_ble_eq_true rfl⟩ okX12 rfl (L_X12_refuse q10) ?_
      cases h
      exact E_iret d_X12_stone_42 rfl
    · refine E_aload_n d_X12_stone_43 rfl (by decide) ?_
      refine E_iload_n d_X12_stone_44 rfl ?_
      refine bd h (fun r11 q12 h => ?_)
      refine E_cV (as := [(0, v1)]) (st := []) (a := v0) d_X12_stone_45 mk_X12_isStoneAt nl_X12_305 (by omega) ⟨rfl, rfl, Nat.le_of_ble_eq_true rfl⟩ okX12 rfl (L_X12_isStoneAt q12) ?_
      refine E_if_ne (tgt := 58) d_X12_stone_48 (by decide) h (fun _ h => ?_) (fun _ h => ?_)
      · refine E_aload_n d_X12_stone_51 rfl (by decide) ?_
        refine E_bipush d_X12_stone_52 (c8 rfl) ?_
        refine bd h (fun r13 q14 h => ?_)
        refine E_cV (as := [(0, 8)]) (st := []) (a := v0) d_X12_stone_54 mk_X12_refuse nl_X12_318 (by omega) ⟨rfl, rfl, Nat.le_of_ble_eq_true rfl⟩ okX12 rfl (L_X12_refuse q14) ?_
        cases h
        exact E_iret d_X12_stone_57 rfl
      · refine E_iload_n d_X12_stone_58 rfl ?_
        refine E_iconst d_X12_stone_59 (c32 rfl) ?_
        refine E_icmp_ne (tgt := 71) d_X12_stone_60 (by decide) h (fun _ h => ?_) (fun _ h => ?_)
        · refine E_aload_n d_X12_stone_63 rfl (by decide) ?_
          refine E_iload_n d_X12_stone_64 rfl ?_
          refine bd h (fun r15 q16 h => ?_)
          refine E_cV (as := [(0, v1)]) (st := []) (a := v0) d_X12_stone_65 mk_X12_crowsOn nl_X12_335 (by omega) ⟨rfl, rfl, Nat.le_of_ble_eq_true rfl⟩ okX12 rfl (L_X12_crowsOn q16) ?_
          refine E_goto (tgt := 99) d_X12_stone_68 (by decide) ?_
          cases h
          exact E_iret d_X12_stone_99 rfl
        · refine E_iload_n d_X12_stone_71 rfl ?_
          refine E_iconst d_X12_stone_72 (c32 rfl) ?_
          refine E_icmp_ne (tgt := 85) d_X12_stone_73 (by decide) h (fun _ h => ?_) (fun _ h => ?_)
          · refine E_aload_n d_X12_stone_76 rfl (by decide) ?_
            refine E_iload_n d_X12_stone_77 rfl ?_
            refine E_iload_n d_X12_stone_78 rfl ?_
            refine bd h (fun r17 q18 h => ?_)
            refine E_cV (as := [(0, v1), (0, v1)]) (st := []) (a := v0) d_X12_stone_79 mk_X12_mercyOf nl_X12_338 (by omega) ⟨rfl, rfl, Nat.le_of_ble_eq_true rfl⟩ okX12 rfl (L_X12_mercyOf q18) ?_
            refine E_goto (tgt := 99) d_X12_stone_82 (by decide) ?_
            cases h
            exact E_iret d_X12_stone_99 rfl
          · refine E_aload_n d_X12_stone_85 rfl (by decide) ?_
            refine E_get d_X12_stone_86 okX12 fl_X12_35 ⟨by decide, rfl⟩ h (fun x19 h => ?_)
            refine E_bipush d_X12_stone_89 (c8 rfl) ?_
            refine E_bipush d_X12_stone_91 (c8 rfl) ?_
            refine E_iload_n d_X12_stone_93 rfl ?_
            refine E_imul d_X12_stone_94 ?_
            refine E_iadd d_X12_stone_95 ?_
            refine E_iload_n d_X12_stone_96 rfl ?_
            refine E_iadd d_X12_stone_97 ?_
            refine E_iaload d_X12_stone_98 h (fun x20 h => ?_)
            cases h
            exact E_iret d_X12_stone_99 rfl
noncomputable def f_X12_stone (v0 v1 v2 : Int) (σ : Mem) : Option (Int × Mem) := if isO Sh 12 v0 = true then f_X12_stone_b0 v0 v1 v2 σ else none
theorem L_X12_stone {o : Int × Mem} {v0 v1 v2 : Int} {σ : Mem} (h : f_X12_stone v0 v1 v2 σ = some o) : (isO Sh 12 v0 = true ∧ Cn mt_X12_stone 4 [(2, v0), (0, v1), (0, v2)] Sh σ (some (0, o.1)) Sh o.2) := ⟨(ite_ok h).1, Cn_of mk_X12_stone.1.2.2.1 (Nat.le_of_ble_eq_true rfl) (fun sc => L_X12_stone_b0 (ite_ok h).2)⟩
theorem d_X12_isCrowAt_0 : decode mt_X12_isCrowAt.2.1 0 = .ok (.iload_n 1, 1) := by decide +kernel
theorem d_X12_isCrowAt_1 : decode mt_X12_isCrowAt.2.1 1 = .ok (.i2l, 1) := by decide +kernel
theorem d_X12_isCrowAt_2 : decode mt_X12_isCrowAt.2.1 2 = .ok (.lconst 0, 1) := by decide +kernel
theorem d_X12_isCrowAt_3 : decode mt_X12_isCrowAt.2.1 3 = .ok (.aload_n 0, 1) := by decide +kernel
theorem d_X12_isCrowAt_4 : decode mt_X12_isCrowAt.2.1 4 = .ok (.getfield 35, 3) := by decide +kernel
theorem d_X12_isCrowAt_7 : decode mt_X12_isCrowAt.2.1 7 = .ok (.iconst 1, 1) := by decide +kernel
theorem d_X12_isCrowAt_8 : decode mt_X12_isCrowAt.2.1 8 = .ok (.iaload, 1) := by decide +kernel
theorem d_X12_isCrowAt_9 : decode mt_X12_isCrowAt.2.1 9 = .ok (.iconst 1, 1) := by decide +kernel
theorem d_X12_isCrowAt_10 : decode mt_X12_isCrowAt.2.1 10 = .ok (.isub, 1) := by decide +kernel
theorem d_X12_isCrowAt_11 : decode mt_X12_isCrowAt.2.1 11 = .ok (.i2l, 1) := by decide +kernel
theorem d_X12_isCrowAt_12 : decode mt_X12_isCrowAt.2.1 12 = .ok (.invokestatic 104, 3) := by decide +kernel
theorem d_X12_isCrowAt_15 : decode mt_X12_isCrowAt.2.1 15 = .ok (.ireturn, 1) := by decide +kernel
noncomputable def f_X12_isCrowAt_b0 (v0 v1 : Int) (σ : Mem) : Option (Int) :=
  (gf Sh σ 12 v0 20).bind fun x1 =>
  (al Sh σ 20 x1 1).bind fun x2 =>
  (f_X12_isIn v1 0 (w32 (x2 - 1)) σ).bind fun r3 =>
  (bz r3).bind fun _ =>
  some (r3)
theorem L_X12_isCrowAt_b0 {sc : Nat × (Nat → Int32)} {o : Int} {σ : Mem} {v0 v1 : Int} (h : f_X12_isCrowAt_b0 v0 v1 σ = some o) : E sc (Fm Sh (some (0, o)) Sh σ) mt_X12_isCrowAt 2 Sh Sh 0 [(2, v0), (0, v1)] [] Sh σ := by
  unfold f_X12_isCrowAt_b0 at h
  refine E_iload_n d_X12_isCrowAt_0 rfl ?_
  refine E_i2l d_X12_isCrowAt_1 ?_
  refine E_lconst d_X12_isCrowAt_2 cl0 ?_
  refine E_aload_n d_X12_isCrowAt_3 rfl (by decide) ?_
  refine E_get d_X12_isCrowAt_4 okX12 fl_X12_35 ⟨by decide, rfl⟩ h (fun x1 h => ?_)
  refine E_iconst d_X12_isCrowAt_7 (c32 rfl) ?_
  refine E_iaload d_X12_isCrowAt_8 h (fun x2 h => ?_)
  refine E_iconst d_X12_isCrowAt_9 (c32 rfl) ?_
  refine E_isub d_X12_isCrowAt_10 ?_
  refine E_i2l d_X12_isCrowAt_11 ?_
  refine bd h (fun r3 q4 h => ?_)
  refine E_cS (as := [(1, v1), (1, 0), (1, w32 (x2 - 1))]) (st := []) d_X12_isCrowAt_12 mk_X12_isIn nl_X12_104 (by omega) ⟨rfl, rfl, Nat.le_of_ble_eq_true rfl⟩ (L_X12_isIn q4) ?_
  refine bd_bz h (fun q5 h => ?_)
  cases h
  exact E_zret d_X12_isCrowAt_15 rfl q5
noncomputable def f_X12_isCrowAt (v0 v1 : Int) (σ : Mem) : Option (Int) := if isO Sh 12 v0 = true then f_X12_isCrowAt_b0 v0 v1 σ else none
theorem L_X12_isCrowAt {o : Int} {v0 v1 : Int} {σ : Mem} (h : f_X12_isCrowAt v0 v1 σ = some o) : (isO Sh 12 v0 = true ∧ Cn mt_X12_isCrowAt 2 [(2, v0), (0, v1)] Sh σ (some (0, o)) Sh σ) := ⟨(ite_ok h).1, Cn_of mk_X12_isCrowAt.1.2.2.1 (Nat.le_of_ble_eq_true rfl) (fun sc => L_X12_isCrowAt_b0 (ite_ok h).2)⟩
theorem d_X12_crow_0 : decode mt_X12_crow.2.1 0 = .ok (.aload_n 0, 1) := by decide +kernel
theorem d_X12_crow_1 : decode mt_X12_crow.2.1 1 = .ok (.iconst 0, 1) := by decide +kernel
theorem d_X12_crow_2 : decode mt_X12_crow.2.1 2 = .ok (.putfield 70, 3) := by decide +kernel
theorem d_X12_crow_5 : decode mt_X12_crow.2.1 5 = .ok (.aload_n 0, 1) := by decide +kernel
theorem d_X12_crow_6 : decode mt_X12_crow.2.1 6 = .ok (.iconst 0, 1) := by decide +kernel
theorem d_X12_crow_7 : decode mt_X12_crow.2.1 7 = .ok (.putfield 73, 3) := by decide +kernel
theorem d_X12_crow_10 : decode mt_X12_crow.2.1 10 = .ok (.aload_n 0, 1) := by decide +kernel
theorem d_X12_crow_11 : decode mt_X12_crow.2.1 11 = .ok (.iload_n 1, 1) := by decide +kernel
theorem d_X12_crow_12 : decode mt_X12_crow.2.1 12 = .ok (.invokevirtual 341, 3) := by decide +kernel
theorem d_X12_crow_15 : decode mt_X12_crow.2.1 15 = .ok (.ifCond .ne 9, 3) := by decide +kernel
theorem d_X12_crow_18 : decode mt_X12_crow.2.1 18 = .ok (.aload_n 0, 1) := by decide +kernel
theorem d_X12_crow_19 : decode mt_X12_crow.2.1 19 = .ok (.iconst 2, 1) := by decide +kernel
theorem d_X12_crow_20 : decode mt_X12_crow.2.1 20 = .ok (.invokevirtual 318, 3) := by decide +kernel
theorem d_X12_crow_23 : decode mt_X12_crow.2.1 23 = .ok (.ireturn, 1) := by decide +kernel
theorem d_X12_crow_24 : decode mt_X12_crow.2.1 24 = .ok (.iload_n 2, 1) := by decide +kernel
theorem d_X12_crow_25 : decode mt_X12_crow.2.1 25 = .ok (.i2l, 1) := by decide +kernel
theorem d_X12_crow_26 : decode mt_X12_crow.2.1 26 = .ok (.lconst 0, 1) := by decide +kernel
theorem d_X12_crow_27 : decode mt_X12_crow.2.1 27 = .ok (.lconst 1, 1) := by decide +kernel
theorem d_X12_crow_28 : decode mt_X12_crow.2.1 28 = .ok (.invokestatic 104, 3) := by decide +kernel
theorem d_X12_crow_31 : decode mt_X12_crow.2.1 31 = .ok (.ifCond .ne 9, 3) := by decide +kernel
theorem d_X12_crow_34 : decode mt_X12_crow.2.1 34 = .ok (.aload_n 0, 1) := by decide +kernel
theorem d_X12_crow_35 : decode mt_X12_crow.2.1 35 = .ok (.iconst 5, 1) := by decide +kernel
theorem d_X12_crow_36 : decode mt_X12_crow.2.1 36 = .ok (.invokevirtual 318, 3) := by decide +kernel
theorem d_X12_crow_39 : decode mt_X12_crow.2.1 39 = .ok (.ireturn, 1) := by decide +kernel
theorem d_X12_crow_40 : decode mt_X12_crow.2.1 40 = .ok (.iload_n 2, 1) := by decide +kernel
theorem d_X12_crow_41 : decode mt_X12_crow.2.1 41 = .ok (.iconst 1, 1) := by decide +kernel
theorem d_X12_crow_42 : decode mt_X12_crow.2.1 42 = .ok (.if_icmp .ne 13, 3) := by decide +kernel
theorem d_X12_crow_45 : decode mt_X12_crow.2.1 45 = .ok (.aload_n 0, 1) := by decide +kernel
theorem d_X12_crow_46 : decode mt_X12_crow.2.1 46 = .ok (.getfield 35, 3) := by decide +kernel
theorem d_X12_crow_49 : decode mt_X12_crow.2.1 49 = .ok (.bipush 51, 2) := by decide +kernel
theorem d_X12_crow_51 : decode mt_X12_crow.2.1 51 = .ok (.iload_n 1, 1) := by decide +kernel
theorem d_X12_crow_52 : decode mt_X12_crow.2.1 52 = .ok (.iadd, 1) := by decide +kernel
theorem d_X12_crow_53 : decode mt_X12_crow.2.1 53 = .ok (.iaload, 1) := by decide +kernel
theorem d_X12_crow_54 : decode mt_X12_crow.2.1 54 = .ok (.ireturn, 1) := by decide +kernel
theorem d_X12_crow_55 : decode mt_X12_crow.2.1 55 = .ok (.aload_n 0, 1) := by decide +kernel
theorem d_X12_crow_56 : decode mt_X12_crow.2.1 56 = .ok (.getfield 35, 3) := by decide +kernel
theorem d_X12_crow_59 : decode mt_X12_crow.2.1 59 = .ok (.bipush 47, 2) := by decide +kernel
theorem d_X12_crow_61 : decode mt_X12_crow.2.1 61 = .ok (.iload_n 1, 1) := by decide +kernel
theorem d_X12_crow_62 : decode mt_X12_crow.2.1 62 = .ok (.iadd, 1) := by decide +kernel
theorem d_X12_crow_63 : decode mt_X12_crow.2.1 63 = .ok (.iaload, 1) := by decide +kernel
theorem d_X12_crow_64 : decode mt_X12_crow.2.1 64 = .ok (.ifCond .ge 12, 3) := by decide +kernel
theorem d_X12_crow_67 : decode mt_X12_crow.2.1 67 = .ok (.aload_n 0, 1) := by decide +kernel
theorem d_X12_crow_68 : decode mt_X12_crow.2.1 68 = .ok (.bipush 8, 2) := by decide +kernel
theorem d_X12_crow_70 : decode mt_X12_crow.2.1 70 = .ok (.invokevirtual 318, 3) := by decide +kernel
theorem d_X12_crow_73 : decode mt_X12_crow.2.1 73 = .ok (.goto 12, 3) := by decide +kernel
theorem d_X12_crow_76 : decode mt_X12_crow.2.1 76 = .ok (.aload_n 0, 1) := by decide +kernel
theorem d_X12_crow_77 : decode mt_X12_crow.2.1 77 = .ok (.getfield 35, 3) := by decide +kernel
theorem d_X12_crow_80 : decode mt_X12_crow.2.1 80 = .ok (.bipush 47, 2) := by decide +kernel
theorem d_X12_crow_82 : decode mt_X12_crow.2.1 82 = .ok (.iload_n 1, 1) := by decide +kernel
theorem d_X12_crow_83 : decode mt_X12_crow.2.1 83 = .ok (.iadd, 1) := by decide +kernel
theorem d_X12_crow_84 : decode mt_X12_crow.2.1 84 = .ok (.iaload, 1) := by decide +kernel
theorem d_X12_crow_85 : decode mt_X12_crow.2.1 85 = .ok (.ireturn, 1) := by decide +kernel
noncomputable def f_X12_crow_b0 (v0 v1 v2 : Int) (σ : Mem) : Option (Int × Mem) :=
  (pf Sh σ 12 v0 1 0).bind fun σ1 =>
  (pf Sh σ1 12 v0 0 0).bind fun σ2 =>
  (f_X12_isCrowAt v0 v1 σ2).bind fun r3 =>
  if r3 = 0 then
    (f_X12_refuse v0 2 σ2).bind fun r5 =>
    some (r5.1, r5.2)
  else
    (f_X12_isIn v2 0 1 σ2).bind fun r7 =>
    if r7 = 0 then
      (f_X12_refuse v0 5 σ2).bind fun r9 =>
      some (r9.1, r9.2)
    else
      if v2 = 1 then
        (gf Sh σ2 12 v0 20).bind fun x11 =>
        (al Sh σ2 20 x11 (w32 (51 + v1))).bind fun x12 =>
        some (x12, σ2)
      else
        (gf Sh σ2 12 v0 20).bind fun x13 =>
        (al Sh σ2 20 x13 (w32 (47 + v1))).bind fun x14 =>
        if 0 ≤ x14 then
          (gf Sh σ2 12 v0 20).bind fun x15 =>
          (al Sh σ2 20 x15 (w32 (47 + v1))).bind fun x16 =>
          some (x16, σ2)
        else
          (f_X12_refuse v0 8 σ2).bind fun r17 =>
          some (r17.1, r17.2)
theorem L_X12_crow_b0 {sc : Nat × (Nat → Int32)} {o : Int × Mem} {v0 v1 v2 : Int} {σ : Mem} (h : f_X12_crow_b0 v0 v1 v2 σ = some o) : E sc (Fm Sh (some (0, o.1)) Sh o.2) mt_X12_crow 3 Sh Sh 0 [(2, v0), (0, v1), (0, v2)] [] Sh σ := by
  unfold f_X12_crow_b0 at h
  refine E_aload_n d_X12_crow_0 rfl (by decide) ?_
  refine E_iconst d_X12_crow_1 (c32 rfl) ?_
  refine E_put d_X12_crow_2 okX12 fl_X12_70 ⟨by decide, rfl⟩ (Or.inl ⟨rfl, rfl⟩) (Or.inl rfl) h (fun σ1 h => ?_)
  refine E_aload_n d_X12_crow_5 rfl (by decide) ?_
  refine E_iconst d_X12_crow_6 (c32 rfl) ?_
  refine E_put d_X12_crow_7 okX12 fl_X12_73 ⟨by decide, rfl⟩ (Or.inl ⟨rfl, rfl⟩) (Or.inl rfl) h (fun σ2 h => ?_)
  refine E_aload_n d_X12_crow_10 rfl (by decide) ?_
  refine E_iload_n d_X12_crow_11 rfl ?_
  refine bd h (fun r3 q4 h => ?_)
  refine E_cV (as := [(0, v1)]) (st := []) (a := v0) d_X12_crow_12 mk_X12_isCrowAt nl_X12_341 (by omega) ⟨rfl, rfl, Nat.le_of_ble_eq_true rfl⟩ okX12 rfl (L_X12_isCrowAt q4) ?_
  refine E_if_ne (tgt := 24) d_X12_crow_15 (by decide) h (fun _ h => ?_) (fun _ h => ?_)
  · refine E_aload_n d_X12_crow_18 rfl (by decide) ?_
    refine E_iconst d_X12_crow_19 (c32 rfl) ?_
    refine bd h (fun r5 q6 h => ?_)
    refine E_cV (as := [(0, 2)]) (st := []) (a := v0) d_X12_crow_20 mk_X12_refuse nl_X12_318 (by omega) ⟨rfl, rfl, Nat.le_of_ble_eq_true rfl⟩ okX12 rfl (L_X12_refuse q6) ?_
    cases h
    exact E_iret d_X12_crow_23 rfl
  · refine E_iload_n d_X12_crow_24 rfl ?_
    refine E_i2l d_X12_crow_25 ?_
    refine E_lconst d_X12_crow_26 cl0 ?_
    refine E_lconst d_X12_crow_27 cl1 ?_
    refine bd h (fun r7 q8 h => ?_)
    refine E_cS (as := [(1, v2), (1, 0), (1, 1)]) (st := []) d_X12_crow_28 mk_X12_isIn nl_X12_104 (by omega) ⟨rfl, rfl, Nat.le_of_ble_eq_true rfl⟩ (L_X12_isIn q8) ?_
    refine E_if_ne (tgt := 40) d_X12_crow_31 (by decide) h (fun _ h => ?_) (fun _ h => ?_)
    · refine E_aload_n d_X12_crow_34 rfl (by decide) ?_
      refine E_iconst d_X12_crow_35 (c32 rfl) ?_
      refine bd h (fun r9 q10 h => ?_)
      refine E_cV (as := [(0, 5)]) (st := []) (a := v0) d_X12_crow_36 mk_X12_refuse nl_X12_318 (by omega) ⟨rfl, rfl, Nat.le_of_ble_eq_true rfl⟩ okX12 rfl (L_X12_refuse q10) ?_
      cases h
      exact E_iret d_X12_crow_39 rfl
    · refine E_iload_n d_X12_crow_40 rfl ?_
      refine E_iconst d_X12_crow_41 (c32 rfl) ?_
      refine E_icmp_ne (tgt := 55) d_X12_crow_42 (by decide) h (fun _ h => ?_) (fun _ h => ?_)
      · refine E_aload_n d_X12_crow_45 rfl (by decide) ?_
        refine E_get d_X12_crow_46 okX12 fl_X12_35 ⟨by decide, rfl⟩ h (fun x11 h => ?_)
        refine E_bipush d_X12_crow_49 (c8 rfl) ?_
        refine E_iload_n d_X12_crow_51 rfl ?_
        refine E_iadd d_X12_crow_52 ?_
        refine E_iaload d_X12_crow_53 h (fun x12 h => ?_)
        cases h
        exact E_iret d_X12_crow_54 rfl
      · refine E_aload_n d_X12_crow_55 rfl (by decide) ?_
        refine E_get d_X12_crow_56 okX12 fl_X12_35 ⟨by decide, rfl⟩ h (fun x13 h => ?_)
        refine E_bipush d_X12_crow_59 (c8 rfl) ?_
        refine E_iload_n d_X12_crow_61 rfl ?_
        refine E_iadd d_X12_crow_62 ?_
        refine E_iaload d_X12_crow_63 h (fun x14 h => ?_)
        refine E_if_ge (tgt := 76) d_X12_crow_64 (by decide) h (fun _ h => ?_) (fun _ h => ?_)
        · refine E_aload_n d_X12_crow_76 rfl (by decide) ?_
          refine E_get d_X12_crow_77 okX12 fl_X12_35 ⟨by decide, rfl⟩ h (fun x15 h => ?_)
          refine E_bipush d_X12_crow_80 (c8 rfl) ?_
          refine E_iload_n d_X12_crow_82 rfl ?_
          refine E_iadd d_X12_crow_83 ?_
          refine E_iaload d_X12_crow_84 h (fun x16 h => ?_)
          cases h
          exact E_iret d_X12_crow_85 rfl
        · refine E_aload_n d_X12_crow_67 rfl (by decide) ?_
          refine E_bipush d_X12_crow_68 (c8 rfl) ?_
          refine bd h (fun r17 q18 h => ?_)
          refine E_cV (as := [(0, 8)]) (st := []) (a := v0) d_X12_crow_70 mk_X12_refuse nl_X12_318 (by omega) ⟨rfl, rfl, Nat.le_of_ble_eq_true rfl⟩ okX12 rfl (L_X12_refuse q18) ?_
          refine E_goto (tgt := 85) d_X12_crow_73 (by decide) ?_
          cases h
          exact E_iret d_X12_crow_85 rfl
noncomputable def f_X12_crow (v0 v1 v2 : Int) (σ : Mem) : Option (Int × Mem) := if isO Sh 12 v0 = true then f_X12_crow_b0 v0 v1 v2 σ else none
theorem L_X12_crow {o : Int × Mem} {v0 v1 v2 : Int} {σ : Mem} (h : f_X12_crow v0 v1 v2 σ = some o) : (isO Sh 12 v0 = true ∧ Cn mt_X12_crow 3 [(2, v0), (0, v1), (0, v2)] Sh σ (some (0, o.1)) Sh o.2) := ⟨(ite_ok h).1, Cn_of mk_X12_crow.1.2.2.1 (Nat.le_of_ble_eq_true rfl) (fun sc => L_X12_crow_b0 (ite_ok h).2)⟩
theorem d_X12_isTray_0 : decode mt_X12_isTray.2.1 0 = .ok (.iload_n 1, 1) := by decide +kernel
theorem d_X12_isTray_1 : decode mt_X12_isTray.2.1 1 = .ok (.i2l, 1) := by decide +kernel
theorem d_X12_isTray_2 : decode mt_X12_isTray.2.1 2 = .ok (.lconst 0, 1) := by decide +kernel
theorem d_X12_isTray_3 : decode mt_X12_isTray.2.1 3 = .ok (.ldc2_w 102, 3) := by decide +kernel
theorem d_X12_isTray_6 : decode mt_X12_isTray.2.1 6 = .ok (.invokestatic 104, 3) := by decide +kernel
theorem d_X12_isTray_9 : decode mt_X12_isTray.2.1 9 = .ok (.ireturn, 1) := by decide +kernel
noncomputable def f_X12_isTray_b0 (v0 v1 : Int) (σ : Mem) : Option (Int) :=
  (f_X12_isIn v1 0 3 σ).bind fun r1 =>
  (bz r1).bind fun _ =>
  some (r1)
theorem L_X12_isTray_b0 {sc : Nat × (Nat → Int32)} {o : Int} {σ : Mem} {v0 v1 : Int} (h : f_X12_isTray_b0 v0 v1 σ = some o) : E sc (Fm Sh (some (0, o)) Sh σ) mt_X12_isTray 2 Sh Sh 0 [(2, v0), (0, v1)] [] Sh σ := by
  unfold f_X12_isTray_b0 at h
  refine E_iload_n d_X12_isTray_0 rfl ?_
  refine E_i2l d_X12_isTray_1 ?_
  refine E_lconst d_X12_isTray_2 cl0 ?_
  refine E_ldc2 d_X12_isTray_3 kw_X12_102 ?_
  refine bd h (fun r1 q2 h => ?_)
  refine E_cS (as := [(1, v1), (1, 0), (1, 3)]) (st := []) d_X12_isTray_6 mk_X12_isIn nl_X12_104 (by omega) ⟨rfl, rfl, Nat.le_of_ble_eq_true rfl⟩ (L_X12_isIn q2) ?_
  refine bd_bz h (fun q3 h => ?_)
  cases h
  exact E_zret d_X12_isTray_9 rfl q3
noncomputable def f_X12_isTray (v0 v1 : Int) (σ : Mem) : Option (Int) := if isO Sh 12 v0 = true then f_X12_isTray_b0 v0 v1 σ else none
theorem L_X12_isTray {o : Int} {v0 v1 : Int} {σ : Mem} (h : f_X12_isTray v0 v1 σ = some o) : (isO Sh 12 v0 = true ∧ Cn mt_X12_isTray 2 [(2, v0), (0, v1)] Sh σ (some (0, o)) Sh σ) := ⟨(ite_ok h).1, Cn_of mk_X12_isTray.1.2.2.1 (Nat.le_of_ble_eq_true rfl) (fun sc => L_X12_isTray_b0 (ite_ok h).2)⟩
theorem d_X12_copyMoss_0 : decode mt_X12_copyMoss.2.1 0 = .ok (.aload_n 0, 1) := by decide +kernel
theorem d_X12_copyMoss_1 : decode mt_X12_copyMoss.2.1 1 = .ok (.iconst 0, 1) := by decide +kernel
theorem d_X12_copyMoss_2 : decode mt_X12_copyMoss.2.1 2 = .ok (.putfield 70, 3) := by decide +kernel
theorem d_X12_copyMoss_5 : decode mt_X12_copyMoss.2.1 5 = .ok (.aload_n 0, 1) := by decide +kernel
theorem d_X12_copyMoss_6 : decode mt_X12_copyMoss.2.1 6 = .ok (.iconst 0, 1) := by decide +kernel
theorem d_X12_copyMoss_7 : decode mt_X12_copyMoss.2.1 7 = .ok (.putfield 73, 3) := by decide +kernel
theorem d_X12_copyMoss_10 : decode mt_X12_copyMoss.2.1 10 = .ok (.aload_n 0, 1) := by decide +kernel
theorem d_X12_copyMoss_11 : decode mt_X12_copyMoss.2.1 11 = .ok (.iload_n 1, 1) := by decide +kernel
theorem d_X12_copyMoss_12 : decode mt_X12_copyMoss.2.1 12 = .ok (.invokevirtual 344, 3) := by decide +kernel
theorem d_X12_copyMoss_15 : decode mt_X12_copyMoss.2.1 15 = .ok (.ifCond .ne 9, 3) := by decide +kernel
theorem d_X12_copyMoss_18 : decode mt_X12_copyMoss.2.1 18 = .ok (.aload_n 0, 1) := by decide +kernel
theorem d_X12_copyMoss_19 : decode mt_X12_copyMoss.2.1 19 = .ok (.iconst 1, 1) := by decide +kernel
theorem d_X12_copyMoss_20 : decode mt_X12_copyMoss.2.1 20 = .ok (.invokevirtual 318, 3) := by decide +kernel
theorem d_X12_copyMoss_23 : decode mt_X12_copyMoss.2.1 23 = .ok (.ireturn, 1) := by decide +kernel
theorem d_X12_copyMoss_24 : decode mt_X12_copyMoss.2.1 24 = .ok (.aload_n 0, 1) := by decide +kernel
theorem d_X12_copyMoss_25 : decode mt_X12_copyMoss.2.1 25 = .ok (.getfield 17, 3) := by decide +kernel
theorem d_X12_copyMoss_28 : decode mt_X12_copyMoss.2.1 28 = .ok (.iload_n 1, 1) := by decide +kernel
theorem d_X12_copyMoss_29 : decode mt_X12_copyMoss.2.1 29 = .ok (.iaload, 1) := by decide +kernel
theorem d_X12_copyMoss_30 : decode mt_X12_copyMoss.2.1 30 = .ok (.ifCond .ge 9, 3) := by decide +kernel
theorem d_X12_copyMoss_33 : decode mt_X12_copyMoss.2.1 33 = .ok (.aload_n 0, 1) := by decide +kernel
theorem d_X12_copyMoss_34 : decode mt_X12_copyMoss.2.1 34 = .ok (.iconst 3, 1) := by decide +kernel
theorem d_X12_copyMoss_35 : decode mt_X12_copyMoss.2.1 35 = .ok (.invokevirtual 318, 3) := by decide +kernel
theorem d_X12_copyMoss_38 : decode mt_X12_copyMoss.2.1 38 = .ok (.ireturn, 1) := by decide +kernel
theorem d_X12_copyMoss_39 : decode mt_X12_copyMoss.2.1 39 = .ok (.aload_n 0, 1) := by decide +kernel
theorem d_X12_copyMoss_40 : decode mt_X12_copyMoss.2.1 40 = .ok (.getfield 17, 3) := by decide +kernel
theorem d_X12_copyMoss_43 : decode mt_X12_copyMoss.2.1 43 = .ok (.iload_n 1, 1) := by decide +kernel
theorem d_X12_copyMoss_44 : decode mt_X12_copyMoss.2.1 44 = .ok (.iaload, 1) := by decide +kernel
theorem d_X12_copyMoss_45 : decode mt_X12_copyMoss.2.1 45 = .ok (.aload_n 0, 1) := by decide +kernel
theorem d_X12_copyMoss_46 : decode mt_X12_copyMoss.2.1 46 = .ok (.getfield 35, 3) := by decide +kernel
theorem d_X12_copyMoss_49 : decode mt_X12_copyMoss.2.1 49 = .ok (.iconst 0, 1) := by decide +kernel
theorem d_X12_copyMoss_50 : decode mt_X12_copyMoss.2.1 50 = .ok (.iaload, 1) := by decide +kernel
theorem d_X12_copyMoss_51 : decode mt_X12_copyMoss.2.1 51 = .ok (.if_icmp .ge 9, 3) := by decide +kernel
theorem d_X12_copyMoss_54 : decode mt_X12_copyMoss.2.1 54 = .ok (.aload_n 0, 1) := by decide +kernel
theorem d_X12_copyMoss_55 : decode mt_X12_copyMoss.2.1 55 = .ok (.iconst 4, 1) := by decide +kernel
theorem d_X12_copyMoss_56 : decode mt_X12_copyMoss.2.1 56 = .ok (.invokevirtual 318, 3) := by decide +kernel
theorem d_X12_copyMoss_59 : decode mt_X12_copyMoss.2.1 59 = .ok (.ireturn, 1) := by decide +kernel
theorem d_X12_copyMoss_60 : decode mt_X12_copyMoss.2.1 60 = .ok (.iconst 0, 1) := by decide +kernel
theorem d_X12_copyMoss_61 : decode mt_X12_copyMoss.2.1 61 = .ok (.istore_n 2, 1) := by decide +kernel
theorem d_X12_copyMoss_62 : decode mt_X12_copyMoss.2.1 62 = .ok (.iload_n 2, 1) := by decide +kernel
theorem d_X12_copyMoss_63 : decode mt_X12_copyMoss.2.1 63 = .ok (.aload_n 0, 1) := by decide +kernel
theorem d_X12_copyMoss_64 : decode mt_X12_copyMoss.2.1 64 = .ok (.getfield 35, 3) := by decide +kernel
theorem d_X12_copyMoss_67 : decode mt_X12_copyMoss.2.1 67 = .ok (.iconst 0, 1) := by decide +kernel
theorem d_X12_copyMoss_68 : decode mt_X12_copyMoss.2.1 68 = .ok (.iaload, 1) := by decide +kernel
theorem d_X12_copyMoss_69 : decode mt_X12_copyMoss.2.1 69 = .ok (.if_icmp .ge 38, 3) := by decide +kernel
theorem d_X12_copyMoss_72 : decode mt_X12_copyMoss.2.1 72 = .ok (.aload_n 0, 1) := by decide +kernel
theorem d_X12_copyMoss_73 : decode mt_X12_copyMoss.2.1 73 = .ok (.iload_n 1, 1) := by decide +kernel
theorem d_X12_copyMoss_74 : decode mt_X12_copyMoss.2.1 74 = .ok (.iload_n 2, 1) := by decide +kernel
theorem d_X12_copyMoss_75 : decode mt_X12_copyMoss.2.1 75 = .ok (.aload_n 0, 1) := by decide +kernel
theorem d_X12_copyMoss_76 : decode mt_X12_copyMoss.2.1 76 = .ok (.iload_n 2, 1) := by decide +kernel
theorem d_X12_copyMoss_77 : decode mt_X12_copyMoss.2.1 77 = .ok (.invokevirtual 305, 3) := by decide +kernel
theorem d_X12_copyMoss_80 : decode mt_X12_copyMoss.2.1 80 = .ok (.ifCond .eq 16, 3) := by decide +kernel
theorem d_X12_copyMoss_83 : decode mt_X12_copyMoss.2.1 83 = .ok (.aload_n 0, 1) := by decide +kernel
theorem d_X12_copyMoss_84 : decode mt_X12_copyMoss.2.1 84 = .ok (.getfield 35, 3) := by decide +kernel
theorem d_X12_copyMoss_87 : decode mt_X12_copyMoss.2.1 87 = .ok (.bipush 27, 2) := by decide +kernel
theorem d_X12_copyMoss_89 : decode mt_X12_copyMoss.2.1 89 = .ok (.iload_n 2, 1) := by decide +kernel
theorem d_X12_copyMoss_90 : decode mt_X12_copyMoss.2.1 90 = .ok (.iadd, 1) := by decide +kernel
theorem d_X12_copyMoss_91 : decode mt_X12_copyMoss.2.1 91 = .ok (.iaload, 1) := by decide +kernel
theorem d_X12_copyMoss_92 : decode mt_X12_copyMoss.2.1 92 = .ok (.i2l, 1) := by decide +kernel
theorem d_X12_copyMoss_93 : decode mt_X12_copyMoss.2.1 93 = .ok (.goto 4, 3) := by decide +kernel
theorem d_X12_copyMoss_96 : decode mt_X12_copyMoss.2.1 96 = .ok (.lconst 0, 1) := by decide +kernel
theorem d_X12_copyMoss_97 : decode mt_X12_copyMoss.2.1 97 = .ok (.invokevirtual 347, 3) := by decide +kernel
theorem d_X12_copyMoss_100 : decode mt_X12_copyMoss.2.1 100 = .ok (.pop, 1) := by decide +kernel
theorem d_X12_copyMoss_101 : decode mt_X12_copyMoss.2.1 101 = .ok (.iinc 2 1, 3) := by decide +kernel
theorem d_X12_copyMoss_104 : decode mt_X12_copyMoss.2.1 104 = .ok (.goto (-42), 3) := by decide +kernel
theorem d_X12_copyMoss_107 : decode mt_X12_copyMoss.2.1 107 = .ok (.aload_n 0, 1) := by decide +kernel
theorem d_X12_copyMoss_108 : decode mt_X12_copyMoss.2.1 108 = .ok (.getfield 35, 3) := by decide +kernel
theorem d_X12_copyMoss_111 : decode mt_X12_copyMoss.2.1 111 = .ok (.iconst 0, 1) := by decide +kernel
theorem d_X12_copyMoss_112 : decode mt_X12_copyMoss.2.1 112 = .ok (.iaload, 1) := by decide +kernel
theorem d_X12_copyMoss_113 : decode mt_X12_copyMoss.2.1 113 = .ok (.ireturn, 1) := by decide +kernel
noncomputable def f_X12_copyMoss_b97 (k62 : (Int → Int → Int → Mem → Option (Int × Mem))) (v0 v1 v2 s0 s1 s2 s3 : Int) (σ : Mem) : Option (Int × Mem) :=
  (f_X12_write s3 s2 s1 s0 σ).bind fun r25 =>
  k62 v0 v1 (w32 (v2 + 1)) r25.2
theorem L_X12_copyMoss_b97 {sc : Nat × (Nat → Int32)} {o : Int × Mem} {k62 : (Int → Int → Int → Mem → Option (Int × Mem))} (hk62 : ∀ {v0 v1 v2 : Int} {σ : Mem}, k62 v0 v1 v2 σ = some o → E sc (Fm Sh (some (0, o.1)) Sh o.2) mt_X12_copyMoss 4 Sh Sh 62 [(2, v0), (0, v1), (0, v2)] [] Sh σ) {v0 v1 v2 s0 s1 s2 s3 : Int} {σ : Mem} (h : f_X12_copyMoss_b97 k62 v0 v1 v2 s0 s1 s2 s3 σ = some o) : E sc (Fm Sh (some (0, o.1)) Sh o.2) mt_X12_copyMoss 4 Sh Sh 97 [(2, v0), (0, v1), (0, v2)] [(1, s0), (0, s1), (0, s2), (2, s3)] Sh σ := by
  unfold f_X12_copyMoss_b97 at h
  refine bd h (fun r25 q26 h => ?_)
  refine E_cV (as := [(0, s2), (0, s1), (1, s0)]) (st := []) (a := s3) d_X12_copyMoss_97 mk_X12_write nl_X12_347 (by omega) ⟨rfl, rfl, Nat.le_of_ble_eq_true rfl⟩ okX12 rfl (L_X12_write q26) ?_
  refine E_popT d_X12_copyMoss_100 (by decide) ?_
  refine E_iinc d_X12_copyMoss_101 (ls' := [(2, v0), (0, v1), (0, w32 (v2 + 1))]) rfl ⟨by decide, rfl⟩ ?_
  refine E_goto (tgt := 62) d_X12_copyMoss_104 (by decide) ?_
  exact (hk62 h)
noncomputable def f_X12_copyMoss_b62 (k62 : (Int → Int → Int → Mem → Option (Int × Mem))) (v0 v1 v2 : Int) (σ : Mem) : Option (Int × Mem) :=
  (gf Sh σ 12 v0 20).bind fun x17 =>
  (al Sh σ 20 x17 0).bind fun x18 =>
  if x18 ≤ v2 then
    (gf Sh σ 12 v0 20).bind fun x19 =>
    (al Sh σ 20 x19 0).bind fun x20 =>
    some (x20, σ)
  else
    (f_X12_isStoneAt v0 v2 σ).bind fun r21 =>
    if r21 = 0 then
      f_X12_copyMoss_b97 k62 v0 v1 v2 0 v2 v1 v0 σ
    else
      (gf Sh σ 12 v0 20).bind fun x23 =>
      (al Sh σ 20 x23 (w32 (27 + v2))).bind fun x24 =>
      f_X12_copyMoss_b97 k62 v0 v1 v2 x24 v2 v1 v0 σ
theorem L_X12_copyMoss_b62 {sc : Nat × (Nat → Int32)} {o : Int × Mem} {k62 : (Int → Int → Int → Mem → Option (Int × Mem))} (hk62 : ∀ {v0 v1 v2 : Int} {σ : Mem}, k62 v0 v1 v2 σ = some o → E sc (Fm Sh (some (0, o.1)) Sh o.2) mt_X12_copyMoss 4 Sh Sh 62 [(2, v0), (0, v1), (0, v2)] [] Sh σ) {v0 v1 v2 : Int} {σ : Mem} (h : f_X12_copyMoss_b62 k62 v0 v1 v2 σ = some o) : E sc (Fm Sh (some (0, o.1)) Sh o.2) mt_X12_copyMoss 4 Sh Sh 62 [(2, v0), (0, v1), (0, v2)] [] Sh σ := by
  unfold f_X12_copyMoss_b62 at h
  refine E_iload_n d_X12_copyMoss_62 rfl ?_
  refine E_aload_n d_X12_copyMoss_63 rfl (by decide) ?_
  refine E_get d_X12_copyMoss_64 okX12 fl_X12_35 ⟨by decide, rfl⟩ h (fun x17 h => ?_)
  refine E_iconst d_X12_copyMoss_67 (c32 rfl) ?_
  refine E_iaload d_X12_copyMoss_68 h (fun x18 h => ?_)
  refine E_icmp_ge (tgt := 107) d_X12_copyMoss_69 (by decide) h (fun _ h => ?_) (fun _ h => ?_)
  · refine E_aload_n d_X12_copyMoss_107 rfl (by decide) ?_
    refine E_get d_X12_copyMoss_108 okX12 fl_X12_35 ⟨by decide, rfl⟩ h (fun x19 h => ?_)
    refine E_iconst d_X12_copyMoss_111 (c32 rfl) ?_
    refine E_iaload d_X12_copyMoss_112 h (fun x20 h => ?_)
    cases h
    exact E_iret d_X12_copyMoss_113 rfl
  · refine E_aload_n d_X12_copyMoss_72 rfl (by decide) ?_
    refine E_iload_n d_X12_copyMoss_73 rfl ?_
    refine E_iload_n d_X12_copyMoss_74 rfl ?_
    refine E_aload_n d_X12_copyMoss_75 rfl (by decide) ?_
    refine E_iload_n d_X12_copyMoss_76 rfl ?_
    refine bd h (fun r21 q22 h => ?_)
    refine E_cV (as := [(0, v2)]) (st := [(0, v2), (0, v1), (2, v0)]) (a := v0) d_X12_copyMoss_77 mk_X12_isStoneAt nl_X12_305 (by omega) ⟨rfl, rfl, Nat.le_of_ble_eq_true rfl⟩ okX12 rfl (L_X12_isStoneAt q22) ?_
    refine E_if_eq (tgt := 96) d_X12_copyMoss_80 (by decide) h (fun _ h => ?_) (fun _ h => ?_)
    · refine E_lconst d_X12_copyMoss_96 cl0 ?_
      exact (L_X12_copyMoss_b97 hk62 h)
    · refine E_aload_n d_X12_copyMoss_83 rfl (by decide) ?_
      refine E_get d_X12_copyMoss_84 okX12 fl_X12_35 ⟨by decide, rfl⟩ h (fun x23 h => ?_)
      refine E_bipush d_X12_copyMoss_87 (c8 rfl) ?_
      refine E_iload_n d_X12_copyMoss_89 rfl ?_
      refine E_iadd d_X12_copyMoss_90 ?_
      refine E_iaload d_X12_copyMoss_91 h (fun x24 h => ?_)
      refine E_i2l d_X12_copyMoss_92 ?_
      refine E_goto (tgt := 97) d_X12_copyMoss_93 (by decide) ?_
      exact (L_X12_copyMoss_b97 hk62 h)
noncomputable def f_X12_copyMoss_h62 (n : Nat) : Int → Int → Int → Mem → Option (Int × Mem) := Nat.rec (motive := fun _ => Int → Int → Int → Mem → Option (Int × Mem)) (fun _ _ _ _ => none) (fun _ ih => f_X12_copyMoss_b62 (ih)) n
theorem L_X12_copyMoss_h62 {sc : Nat × (Nat → Int32)} {o : Int × Mem} : ∀ (n : Nat) {v0 v1 v2 : Int} {σ : Mem}, f_X12_copyMoss_h62 n v0 v1 v2 σ = some o → E sc (Fm Sh (some (0, o.1)) Sh o.2) mt_X12_copyMoss 4 Sh Sh 62 [(2, v0), (0, v1), (0, v2)] [] Sh σ := by
  intro n
  induction n with
  | zero => intro v0 v1 v2 σ h; cases h
  | succ n ih => intro v0 v1 v2 σ h; exact L_X12_copyMoss_b62 (@ih) h
noncomputable def f_X12_copyMoss_b0 (v0 v1 : Int) (σ : Mem) : Option (Int × Mem) :=
  (pf Sh σ 12 v0 1 0).bind fun σ1 =>
  (pf Sh σ1 12 v0 0 0).bind fun σ2 =>
  (f_X12_isTray v0 v1 σ2).bind fun r3 =>
  if r3 = 0 then
    (f_X12_refuse v0 1 σ2).bind fun r5 =>
    some (r5.1, r5.2)
  else
    (gf Sh σ2 12 v0 5).bind fun x7 =>
    (al Sh σ2 20 x7 v1).bind fun x8 =>
    if 0 ≤ x8 then
      (gf Sh σ2 12 v0 5).bind fun x9 =>
      (al Sh σ2 20 x9 v1).bind fun x10 =>
      (gf Sh σ2 12 v0 20).bind fun x11 =>
      (al Sh σ2 20 x11 0).bind fun x12 =>
      if x12 ≤ x10 then
        f_X12_copyMoss_h62 FU v0 v1 0 σ2
      else
        (f_X12_refuse v0 4 σ2).bind fun r13 =>
        some (r13.1, r13.2)
    else
      (f_X12_refuse v0 3 σ2).bind fun r15 =>
      some (r15.1, r15.2)
theorem L_X12_copyMoss_b0 {sc : Nat × (Nat → Int32)} {o : Int × Mem} {v0 v1 : Int} {σ : Mem} (h : f_X12_copyMoss_b0 v0 v1 σ = some o) : E sc (Fm Sh (some (0, o.1)) Sh o.2) mt_X12_copyMoss 4 Sh Sh 0 [(2, v0), (0, v1), (9, 0)] [] Sh σ := by
  unfold f_X12_copyMoss_b0 at h
  refine E_aload_n d_X12_copyMoss_0 rfl (by decide) ?_
  refine E_iconst d_X12_copyMoss_1 (c32 rfl) ?_
  refine E_put d_X12_copyMoss_2 okX12 fl_X12_70 ⟨by decide, rfl⟩ (Or.inl ⟨rfl, rfl⟩) (Or.inl rfl) h (fun σ1 h => ?_)
  refine E_aload_n d_X12_copyMoss_5 rfl (by decide) ?_
  refine E_iconst d_X12_copyMoss_6 (c32 rfl) ?_
  refine E_put d_X12_copyMoss_7 okX12 fl_X12_73 ⟨by decide, rfl⟩ (Or.inl ⟨rfl, rfl⟩) (Or.inl rfl) h (fun σ2 h => ?_)
  refine E_aload_n d_X12_copyMoss_10 rfl (by decide) ?_
  refine E_iload_n d_X12_copyMoss_11 rfl ?_
  refine bd h (fun r3 q4 h => ?_)
  refine E_cV (as := [(0, v1)]) (st := []) (a := v0) d_X12_copyMoss_12 mk_X12_isTray nl_X12_344 (by omega) ⟨rfl, rfl, Nat.le_of_ble_eq_true rfl⟩ okX12 rfl (L_X12_isTray q4) ?_
  refine E_if_ne (tgt := 24) d_X12_copyMoss_15 (by decide) h (fun _ h => ?_) (fun _ h => ?_)
  · refine E_aload_n d_X12_copyMoss_18 rfl (by decide) ?_
    refine E_iconst d_X12_copyMoss_19 (c32 rfl) ?_
    refine bd h (fun r5 q6 h => ?_)
    refine E_cV (as := [(0, 1)]) (st := []) (a := v0) d_X12_copyMoss_20 mk_X12_refuse nl_X12_318 (by omega) ⟨rfl, rfl, Nat.le_of_ble_eq_true rfl⟩ okX12 rfl (L_X12_refuse q6) ?_
    cases h
    exact E_iret d_X12_copyMoss_23 rfl
  · refine E_aload_n d_X12_copyMoss_24 rfl (by decide) ?_
    refine E_get d_X12_copyMoss_25 okX12 fl_X12_17 ⟨by decide, rfl⟩ h (fun x7 h => ?_)
    refine E_iload_n d_X12_copyMoss_28 rfl ?_
    refine E_iaload d_X12_copyMoss_29 h (fun x8 h => ?_)
    refine E_if_ge (tgt := 39) d_X12_copyMoss_30 (by decide) h (fun _ h => ?_) (fun _ h => ?_)
    · refine E_aload_n d_X12_copyMoss_39 rfl (by decide) ?_
      refine E_get d_X12_copyMoss_40 okX12 fl_X12_17 ⟨by decide, rfl⟩ h (fun x9 h => ?_)
      refine E_iload_n d_X12_copyMoss_43 rfl ?_
      refine E_iaload d_X12_copyMoss_44 h (fun x10 h => ?_)
      refine E_aload_n d_X12_copyMoss_45 rfl (by decide) ?_
      refine E_get d_X12_copyMoss_46 okX12 fl_X12_35 ⟨by decide, rfl⟩ h (fun x11 h => ?_)
      refine E_iconst d_X12_copyMoss_49 (c32 rfl) ?_
      refine E_iaload d_X12_copyMoss_50 h (fun x12 h => ?_)
      refine E_icmp_ge (tgt := 60) d_X12_copyMoss_51 (by decide) h (fun _ h => ?_) (fun _ h => ?_)
      · refine E_iconst d_X12_copyMoss_60 (c32 rfl) ?_
        refine E_istore_n d_X12_copyMoss_61 (ls' := [(2, v0), (0, v1), (0, 0)]) ⟨by decide, rfl⟩ ?_
        exact (L_X12_copyMoss_h62 FU h)
      · refine E_aload_n d_X12_copyMoss_54 rfl (by decide) ?_
        refine E_iconst d_X12_copyMoss_55 (c32 rfl) ?_
        refine bd h (fun r13 q14 h => ?_)
        refine E_cV (as := [(0, 4)]) (st := []) (a := v0) d_X12_copyMoss_56 mk_X12_refuse nl_X12_318 (by omega) ⟨rfl, rfl, Nat.le_of_ble_eq_true rfl⟩ okX12 rfl (L_X12_refuse q14) ?_
        cases h
        exact E_iret d_X12_copyMoss_59 rfl
    · refine E_aload_n d_X12_copyMoss_33 rfl (by decide) ?_
      refine E_iconst d_X12_copyMoss_34 (c32 rfl) ?_
      refine bd h (fun r15 q16 h => ?_)
      refine E_cV (as := [(0, 3)]) (st := []) (a := v0) d_X12_copyMoss_35 mk_X12_refuse nl_X12_318 (by omega) ⟨rfl, rfl, Nat.le_of_ble_eq_true rfl⟩ okX12 rfl (L_X12_refuse q16) ?_
      cases h
      exact E_iret d_X12_copyMoss_38 rfl
noncomputable def f_X12_copyMoss (v0 v1 : Int) (σ : Mem) : Option (Int × Mem) := if isO Sh 12 v0 = true then f_X12_copyMoss_b0 v0 v1 σ else none
theorem L_X12_copyMoss {o : Int × Mem} {v0 v1 : Int} {σ : Mem} (h : f_X12_copyMoss v0 v1 σ = some o) : (isO Sh 12 v0 = true ∧ Cn mt_X12_copyMoss 4 [(2, v0), (0, v1)] Sh σ (some (0, o.1)) Sh o.2) := ⟨(ite_ok h).1, Cn_of mk_X12_copyMoss.1.2.2.1 (Nat.le_of_ble_eq_true rfl) (fun sc => L_X12_copyMoss_b0 (ite_ok h).2)⟩
theorem d_X12_whyNoTrial_0 : decode mt_X12_whyNoTrial.2.1 0 = .ok (.aload_n 0, 1) := by decide +kernel
theorem d_X12_whyNoTrial_1 : decode mt_X12_whyNoTrial.2.1 1 = .ok (.iload_n 2, 1) := by decide +kernel
theorem d_X12_whyNoTrial_2 : decode mt_X12_whyNoTrial.2.1 2 = .ok (.i2l, 1) := by decide +kernel
theorem d_X12_whyNoTrial_3 : decode mt_X12_whyNoTrial.2.1 3 = .ok (.invokevirtual 330, 3) := by decide +kernel
theorem d_X12_whyNoTrial_6 : decode mt_X12_whyNoTrial.2.1 6 = .ok (.ifCond .ne 7, 3) := by decide +kernel
theorem d_X12_whyNoTrial_9 : decode mt_X12_whyNoTrial.2.1 9 = .ok (.iconst 2, 1) := by decide +kernel
theorem d_X12_whyNoTrial_10 : decode mt_X12_whyNoTrial.2.1 10 = .ok (.goto 20, 3) := by decide +kernel
theorem d_X12_whyNoTrial_13 : decode mt_X12_whyNoTrial.2.1 13 = .ok (.iload_n 1, 1) := by decide +kernel
theorem d_X12_whyNoTrial_14 : decode mt_X12_whyNoTrial.2.1 14 = .ok (.i2l, 1) := by decide +kernel
theorem d_X12_whyNoTrial_15 : decode mt_X12_whyNoTrial.2.1 15 = .ok (.lconst 0, 1) := by decide +kernel
theorem d_X12_whyNoTrial_16 : decode mt_X12_whyNoTrial.2.1 16 = .ok (.ldc2_w 370, 3) := by decide +kernel
theorem d_X12_whyNoTrial_19 : decode mt_X12_whyNoTrial.2.1 19 = .ok (.invokestatic 104, 3) := by decide +kernel
theorem d_X12_whyNoTrial_22 : decode mt_X12_whyNoTrial.2.1 22 = .ok (.ifCond .eq 7, 3) := by decide +kernel
theorem d_X12_whyNoTrial_25 : decode mt_X12_whyNoTrial.2.1 25 = .ok (.iconst 0, 1) := by decide +kernel
theorem d_X12_whyNoTrial_26 : decode mt_X12_whyNoTrial.2.1 26 = .ok (.goto 4, 3) := by decide +kernel
theorem d_X12_whyNoTrial_29 : decode mt_X12_whyNoTrial.2.1 29 = .ok (.iconst 5, 1) := by decide +kernel
theorem d_X12_whyNoTrial_30 : decode mt_X12_whyNoTrial.2.1 30 = .ok (.ireturn, 1) := by decide +kernel
noncomputable def f_X12_whyNoTrial_b0 (v0 v1 v2 : Int) (σ : Mem) : Option (Int) :=
  (f_X12_isPlaceAt v0 v2 σ).bind fun r1 =>
  if r1 = 0 then
    some (2)
  else
    (f_X12_isIn v1 0 99 σ).bind fun r3 =>
    if r3 = 0 then
      some (5)
    else
      some (0)
theorem L_X12_whyNoTrial_b0 {sc : Nat × (Nat → Int32)} {o : Int} {σ : Mem} {v0 v1 v2 : Int} (h : f_X12_whyNoTrial_b0 v0 v1 v2 σ = some o) : E sc (Fm Sh (some (0, o)) Sh σ) mt_X12_whyNoTrial 3 Sh Sh 0 [(2, v0), (0, v1), (0, v2)] [] Sh σ := by
  unfold f_X12_whyNoTrial_b0 at h
  refine E_aload_n d_X12_whyNoTrial_0 rfl (by decide) ?_
  refine E_iload_n d_X12_whyNoTrial_1 rfl ?_
  refine E_i2l d_X12_whyNoTrial_2 ?_
  refine bd h (fun r1 q2 h => ?_)
  refine E_cV (as := [(1, v2)]) (st := []) (a := v0) d_X12_whyNoTrial_3 mk_X12_isPlaceAt nl_X12_330 (by omega) ⟨rfl, rfl, Nat.le_of_ble_eq_true rfl⟩ okX12 rfl (L_X12_isPlaceAt q2) ?_
  refine E_if_ne (tgt := 13) d_X12_whyNoTrial_6 (by decide) h (fun _ h => ?_) (fun _ h => ?_)
  · refine E_iconst d_X12_whyNoTrial_9 (c32 rfl) ?_
    refine E_goto (tgt := 30) d_X12_whyNoTrial_10 (by decide) ?_
    cases h
    exact E_iret d_X12_whyNoTrial_30 rfl
  · refine E_iload_n d_X12_whyNoTrial_13 rfl ?_
    refine E_i2l d_X12_whyNoTrial_14 ?_
    refine E_lconst d_X12_whyNoTrial_15 cl0 ?_
    refine E_ldc2 d_X12_whyNoTrial_16 kw_X12_370 ?_
    refine bd h (fun r3 q4 h => ?_)
    refine E_cS (as := [(1, v1), (1, 0), (1, 99)]) (st := []) d_X12_whyNoTrial_19 mk_X12_isIn nl_X12_104 (by omega) ⟨rfl, rfl, Nat.le_of_ble_eq_true rfl⟩ (L_X12_isIn q4) ?_
    refine E_if_eq (tgt := 29) d_X12_whyNoTrial_22 (by decide) h (fun _ h => ?_) (fun _ h => ?_)
    · refine E_iconst d_X12_whyNoTrial_29 (c32 rfl) ?_
      cases h
      exact E_iret d_X12_whyNoTrial_30 rfl
    · refine E_iconst d_X12_whyNoTrial_25 (c32 rfl) ?_
      refine E_goto (tgt := 30) d_X12_whyNoTrial_26 (by decide) ?_
      cases h
      exact E_iret d_X12_whyNoTrial_30 rfl
noncomputable def f_X12_whyNoTrial (v0 v1 v2 : Int) (σ : Mem) : Option (Int) := if isO Sh 12 v0 = true then f_X12_whyNoTrial_b0 v0 v1 v2 σ else none
theorem L_X12_whyNoTrial {o : Int} {v0 v1 v2 : Int} {σ : Mem} (h : f_X12_whyNoTrial v0 v1 v2 σ = some o) : (isO Sh 12 v0 = true ∧ Cn mt_X12_whyNoTrial 3 [(2, v0), (0, v1), (0, v2)] Sh σ (some (0, o)) Sh σ) := ⟨(ite_ok h).1, Cn_of mk_X12_whyNoTrial.1.2.2.1 (Nat.le_of_ble_eq_true rfl) (fun sc => L_X12_whyNoTrial_b0 (ite_ok h).2)⟩
theorem d_X12_turnedFrom_0 : decode mt_X12_turnedFrom.2.1 0 = .ok (.iconst 0, 1) := by decide +kernel
theorem d_X12_turnedFrom_1 : decode mt_X12_turnedFrom.2.1 1 = .ok (.istore_n 3, 1) := by decide +kernel
theorem d_X12_turnedFrom_2 : decode mt_X12_turnedFrom.2.1 2 = .ok (.iconst 0, 1) := by decide +kernel
theorem d_X12_turnedFrom_3 : decode mt_X12_turnedFrom.2.1 3 = .ok (.istore 4, 2) := by decide +kernel
theorem d_X12_turnedFrom_5 : decode mt_X12_turnedFrom.2.1 5 = .ok (.iload 4, 2) := by decide +kernel
theorem d_X12_turnedFrom_7 : decode mt_X12_turnedFrom.2.1 7 = .ok (.aload_n 0, 1) := by decide +kernel
theorem d_X12_turnedFrom_8 : decode mt_X12_turnedFrom.2.1 8 = .ok (.getfield 35, 3) := by decide +kernel
theorem d_X12_turnedFrom_11 : decode mt_X12_turnedFrom.2.1 11 = .ok (.iconst 0, 1) := by decide +kernel
theorem d_X12_turnedFrom_12 : decode mt_X12_turnedFrom.2.1 12 = .ok (.iaload, 1) := by decide +kernel
theorem d_X12_turnedFrom_13 : decode mt_X12_turnedFrom.2.1 13 = .ok (.if_icmp .ge 40, 3) := by decide +kernel
theorem d_X12_turnedFrom_16 : decode mt_X12_turnedFrom.2.1 16 = .ok (.iload_n 3, 1) := by decide +kernel
theorem d_X12_turnedFrom_17 : decode mt_X12_turnedFrom.2.1 17 = .ok (.aload_n 0, 1) := by decide +kernel
theorem d_X12_turnedFrom_18 : decode mt_X12_turnedFrom.2.1 18 = .ok (.iload 4, 2) := by decide +kernel
theorem d_X12_turnedFrom_20 : decode mt_X12_turnedFrom.2.1 20 = .ok (.invokevirtual 305, 3) := by decide +kernel
theorem d_X12_turnedFrom_23 : decode mt_X12_turnedFrom.2.1 23 = .ok (.ifCond .eq 21, 3) := by decide +kernel
theorem d_X12_turnedFrom_26 : decode mt_X12_turnedFrom.2.1 26 = .ok (.iload_n 1, 1) := by decide +kernel
theorem d_X12_turnedFrom_27 : decode mt_X12_turnedFrom.2.1 27 = .ok (.aload_n 0, 1) := by decide +kernel
theorem d_X12_turnedFrom_28 : decode mt_X12_turnedFrom.2.1 28 = .ok (.iload 4, 2) := by decide +kernel
theorem d_X12_turnedFrom_30 : decode mt_X12_turnedFrom.2.1 30 = .ok (.iload_n 2, 1) := by decide +kernel
theorem d_X12_turnedFrom_31 : decode mt_X12_turnedFrom.2.1 31 = .ok (.invokevirtual 338, 3) := by decide +kernel
theorem d_X12_turnedFrom_34 : decode mt_X12_turnedFrom.2.1 34 = .ok (.if_icmp .le 10, 3) := by decide +kernel
theorem d_X12_turnedFrom_37 : decode mt_X12_turnedFrom.2.1 37 = .ok (.iconst 1, 1) := by decide +kernel
theorem d_X12_turnedFrom_38 : decode mt_X12_turnedFrom.2.1 38 = .ok (.iload 4, 2) := by decide +kernel
theorem d_X12_turnedFrom_40 : decode mt_X12_turnedFrom.2.1 40 = .ok (.ishl, 1) := by decide +kernel
theorem d_X12_turnedFrom_41 : decode mt_X12_turnedFrom.2.1 41 = .ok (.goto 4, 3) := by decide +kernel
theorem d_X12_turnedFrom_44 : decode mt_X12_turnedFrom.2.1 44 = .ok (.iconst 0, 1) := by decide +kernel
theorem d_X12_turnedFrom_45 : decode mt_X12_turnedFrom.2.1 45 = .ok (.ior, 1) := by decide +kernel
theorem d_X12_turnedFrom_46 : decode mt_X12_turnedFrom.2.1 46 = .ok (.istore_n 3, 1) := by decide +kernel
theorem d_X12_turnedFrom_47 : decode mt_X12_turnedFrom.2.1 47 = .ok (.iinc 4 1, 3) := by decide +kernel
theorem d_X12_turnedFrom_50 : decode mt_X12_turnedFrom.2.1 50 = .ok (.goto (-45), 3) := by decide +kernel
theorem d_X12_turnedFrom_53 : decode mt_X12_turnedFrom.2.1 53 = .ok (.iload_n 3, 1) := by decide +kernel
theorem d_X12_turnedFrom_54 : decode mt_X12_turnedFrom.2.1 54 = .ok (.ireturn, 1) := by decide +kernel
noncomputable def f_X12_turnedFrom_b45 (k5 : (Int → Int → Int → Int → Int → Mem → Option (Int))) (v0 v1 v2 v4 s0 s1 : Int) (σ : Mem) : Option (Int) :=
  k5 v0 v1 v2 (ior s1 s0) (w32 (v4 + 1)) σ
theorem L_X12_turnedFrom_b45 {sc : Nat × (Nat → Int32)} {o : Int} {σ : Mem} {k5 : (Int → Int → Int → Int → Int → Mem → Option (Int))} (hk5 : ∀ {v0 v1 v2 v3 v4 : Int}, k5 v0 v1 v2 v3 v4 σ = some o → E sc (Fm Sh (some (0, o)) Sh σ) mt_X12_turnedFrom 4 Sh Sh 5 [(2, v0), (0, v1), (0, v2), (0, v3), (0, v4)] [] Sh σ) {v0 v1 v2 v4 s0 s1 : Int} (h : f_X12_turnedFrom_b45 k5 v0 v1 v2 v4 s0 s1 σ = some o) : E sc (Fm Sh (some (0, o)) Sh σ) mt_X12_turnedFrom 4 Sh Sh 45 [(2, v0), (0, v1), (0, v2), (9, 0), (0, v4)] [(0, s0), (0, s1)] Sh σ := by
  unfold f_X12_turnedFrom_b45 at h
  refine E_ior d_X12_turnedFrom_45 ?_
  refine E_istore_n d_X12_turnedFrom_46 (ls' := [(2, v0), (0, v1), (0, v2), (0, ior s1 s0), (0, v4)]) ⟨by decide, rfl⟩ ?_
  refine E_iinc d_X12_turnedFrom_47 (ls' := [(2, v0), (0, v1), (0, v2), (0, ior s1 s0), (0, w32 (v4 + 1))]) rfl ⟨by decide, rfl⟩ ?_
  refine E_goto (tgt := 5) d_X12_turnedFrom_50 (by decide) ?_
  exact (hk5 h)
noncomputable def f_X12_turnedFrom_b44 (k5 : (Int → Int → Int → Int → Int → Mem → Option (Int))) (v0 v1 v2 v4 s0 : Int) (σ : Mem) : Option (Int) :=
  f_X12_turnedFrom_b45 k5 v0 v1 v2 v4 0 s0 σ
theorem L_X12_turnedFrom_b44 {sc : Nat × (Nat → Int32)} {o : Int} {σ : Mem} {k5 : (Int → Int → Int → Int → Int → Mem → Option (Int))} (hk5 : ∀ {v0 v1 v2 v3 v4 : Int}, k5 v0 v1 v2 v3 v4 σ = some o → E sc (Fm Sh (some (0, o)) Sh σ) mt_X12_turnedFrom 4 Sh Sh 5 [(2, v0), (0, v1), (0, v2), (0, v3), (0, v4)] [] Sh σ) {v0 v1 v2 v4 s0 : Int} (h : f_X12_turnedFrom_b44 k5 v0 v1 v2 v4 s0 σ = some o) : E sc (Fm Sh (some (0, o)) Sh σ) mt_X12_turnedFrom 4 Sh Sh 44 [(2, v0), (0, v1), (0, v2), (9, 0), (0, v4)] [(0, s0)] Sh σ := by
  unfold f_X12_turnedFrom_b44 at h
  refine E_iconst d_X12_turnedFrom_44 (c32 rfl) ?_
  exact (L_X12_turnedFrom_b45 hk5 h)
noncomputable def f_X12_turnedFrom_b5 (k5 : (Int → Int → Int → Int → Int → Mem → Option (Int))) (v0 v1 v2 v3 v4 : Int) (σ : Mem) : Option (Int) :=
  (gf Sh σ 12 v0 20).bind fun x1 =>
  (al Sh σ 20 x1 0).bind fun x2 =>
  if x2 ≤ v4 then
    some (v3)
  else
    (f_X12_isStoneAt v0 v4 σ).bind fun r3 =>
    if r3 = 0 then
      f_X12_turnedFrom_b44 k5 v0 v1 v2 v4 v3 σ
    else
      (f_X12_mercyOf v0 v4 v2 σ).bind fun r5 =>
      if v1 ≤ r5 then
        f_X12_turnedFrom_b44 k5 v0 v1 v2 v4 v3 σ
      else
        f_X12_turnedFrom_b45 k5 v0 v1 v2 v4 (ishl 1 v4) v3 σ
theorem L_X12_turnedFrom_b5 {sc : Nat × (Nat → Int32)} {o : Int} {σ : Mem} {k5 : (Int → Int → Int → Int → Int → Mem → Option (Int))} (hk5 : ∀ {v0 v1 v2 v3 v4 : Int}, k5 v0 v1 v2 v3 v4 σ = some o → E sc (Fm Sh (some (0, o)) Sh σ) mt_X12_turnedFrom 4 Sh Sh 5 [(2, v0), (0, v1), (0, v2), (0, v3), (0, v4)] [] Sh σ) {v0 v1 v2 v3 v4 : Int} (h : f_X12_turnedFrom_b5 k5 v0 v1 v2 v3 v4 σ = some o) : E sc (Fm Sh (some (0, o)) Sh σ) mt_X12_turnedFrom 4 Sh Sh 5 [(2, v0), (0, v1), (0, v2), (0, v3), (0, v4)] [] Sh σ := by
  unfold f_X12_turnedFrom_b5 at h
  refine E_iload d_X12_turnedFrom_5 rfl ?_
  refine E_aload_n d_X12_turnedFrom_7 rfl (by decide) ?_
  refine E_get d_X12_turnedFrom_8 okX12 fl_X12_35 ⟨by decide, rfl⟩ h (fun x1 h => ?_)
  refine E_iconst d_X12_turnedFrom_11 (c32 rfl) ?_
  refine E_iaload d_X12_turnedFrom_12 h (fun x2 h => ?_)
  refine E_icmp_ge (tgt := 53) d_X12_turnedFrom_13 (by decide) h (fun _ h => ?_) (fun _ h => ?_)
  · refine E_iload_n d_X12_turnedFrom_53 rfl ?_
    cases h
    exact E_iret d_X12_turnedFrom_54 rfl
  · refine E_iload_n d_X12_turnedFrom_16 rfl ?_
    refine E_aload_n d_X12_turnedFrom_17 rfl (by decide) ?_
    refine E_iload d_X12_turnedFrom_18 rfl ?_
    refine bd h (fun r3 q4 h => ?_)
    refine E_cV (as := [(0, v4)]) (st := [(0, v3)]) (a := v0) d_X12_turnedFrom_20 mk_X12_isStoneAt nl_X12_305 (by omega) ⟨rfl, rfl, Nat.le_of_ble_eq_true rfl⟩ okX12 rfl (L_X12_isStoneAt q4) ?_
    refine E_if_eq (tgt := 44) d_X12_turnedFrom_23 (by decide) h (fun _ h => ?_) (fun _ h => ?_)
    · exact E_weak (ls' := [(2, v0), (0, v1), (0, v2), (9, 0), (0, v4)]) ⟨Or.inr rfl, Or.inr rfl, Or.inr rfl, Or.inl rfl, Or.inr rfl, trivial⟩ (L_X12_turnedFrom_b44 hk5 h)
    · refine E_iload_n d_X12_turnedFrom_26 rfl ?_
      refine E_aload_n d_X12_turnedFrom_27 rfl (by decide) ?_
      refine E_iload d_X12_turnedFrom_28 rfl ?_
      refine E_iload_n d_X12_turnedFrom_30 rfl ?_
      refine bd h (fun r5 q6 h => ?_)
      refine E_cV (as := [(0, v4), (0, v2)]) (st := [(0, v1), (0, v3)]) (a := v0) d_X12_turnedFrom_31 mk_X12_mercyOf nl_X12_338 (by omega) ⟨rfl, rfl, Nat.le_of_ble_eq_true rfl⟩ okX12 rfl (L_X12_mercyOf q6) ?_
      refine E_icmp_le (tgt := 44) d_X12_turnedFrom_34 (by decide) h (fun _ h => ?_) (fun _ h => ?_)
      · exact E_weak (ls' := [(2, v0), (0, v1), (0, v2), (9, 0), (0, v4)]) ⟨Or.inr rfl, Or.inr rfl, Or.inr rfl, Or.inl rfl, Or.inr rfl, trivial⟩ (L_X12_turnedFrom_b44 hk5 h)
      · refine E_iconst d_X12_turnedFrom_37 (c32 rfl) ?_
        refine E_iload d_X12_turnedFrom_38 rfl ?_
        refine E_ishl d_X12_turnedFrom_40 ?_
        refine E_goto (tgt := 45) d_X12_turnedFrom_41 (by decide) ?_
        exact E_weak (ls' := [(2, v0), (0, v1), (0, v2), (9, 0), (0, v4)]) ⟨Or.inr rfl, Or.inr rfl, Or.inr rfl, Or.inl rfl, Or.inr rfl, trivial⟩ (L_X12_turnedFrom_b45 hk5 h)
noncomputable def f_X12_turnedFrom_h5 (n : Nat) : Int → Int → Int → Int → Int → Mem → Option (Int) := Nat.rec (motive := fun _ => Int → Int → Int → Int → Int → Mem → Option (Int)) (fun _ _ _ _ _ _ => none) (fun _ ih => f_X12_turnedFrom_b5 (ih)) n
theorem L_X12_turnedFrom_h5 {sc : Nat × (Nat → Int32)} {o : Int} {σ : Mem} : ∀ (n : Nat) {v0 v1 v2 v3 v4 : Int}, f_X12_turnedFrom_h5 n v0 v1 v2 v3 v4 σ = some o → E sc (Fm Sh (some (0, o)) Sh σ) mt_X12_turnedFrom 4 Sh Sh 5 [(2, v0), (0, v1), (0, v2), (0, v3), (0, v4)] [] Sh σ := by
  intro n
  induction n with
  | zero => intro v0 v1 v2 v3 v4 h; cases h
  | succ n ih => intro v0 v1 v2 v3 v4 h; exact L_X12_turnedFrom_b5 (@ih) h
noncomputable def f_X12_turnedFrom_b0 (v0 v1 v2 : Int) (σ : Mem) : Option (Int) :=
  f_X12_turnedFrom_h5 FU v0 v1 v2 0 0 σ
theorem L_X12_turnedFrom_b0 {sc : Nat × (Nat → Int32)} {o : Int} {σ : Mem} {v0 v1 v2 : Int} (h : f_X12_turnedFrom_b0 v0 v1 v2 σ = some o) : E sc (Fm Sh (some (0, o)) Sh σ) mt_X12_turnedFrom 4 Sh Sh 0 [(2, v0), (0, v1), (0, v2), (9, 0), (9, 0)] [] Sh σ := by
  unfold f_X12_turnedFrom_b0 at h
  refine E_iconst d_X12_turnedFrom_0 (c32 rfl) ?_
  refine E_istore_n d_X12_turnedFrom_1 (ls' := [(2, v0), (0, v1), (0, v2), (0, 0), (9, 0)]) ⟨by decide, rfl⟩ ?_
  refine E_iconst d_X12_turnedFrom_2 (c32 rfl) ?_
  refine E_istore d_X12_turnedFrom_3 (ls' := [(2, v0), (0, v1), (0, v2), (0, 0), (0, 0)]) ⟨by decide, rfl⟩ ?_
  exact (L_X12_turnedFrom_h5 FU h)
noncomputable def f_X12_turnedFrom (v0 v1 v2 : Int) (σ : Mem) : Option (Int) := if isO Sh 12 v0 = true then f_X12_turnedFrom_b0 v0 v1 v2 σ else none
theorem L_X12_turnedFrom {o : Int} {v0 v1 v2 : Int} {σ : Mem} (h : f_X12_turnedFrom v0 v1 v2 σ = some o) : (isO Sh 12 v0 = true ∧ Cn mt_X12_turnedFrom 4 [(2, v0), (0, v1), (0, v2)] Sh σ (some (0, o)) Sh σ) := ⟨(ite_ok h).1, Cn_of mk_X12_turnedFrom.1.2.2.1 (Nat.le_of_ble_eq_true rfl) (fun sc => L_X12_turnedFrom_b0 (ite_ok h).2)⟩
theorem d_X12_isMore_0 : decode mt_X12_isMore.2.1 0 = .ok (.iconst 2, 1) := by decide +kernel
theorem d_X12_isMore_1 : decode mt_X12_isMore.2.1 1 = .ok (.iload_n 1, 1) := by decide +kernel
theorem d_X12_isMore_2 : decode mt_X12_isMore.2.1 2 = .ok (.invokestatic 324, 3) := by decide +kernel
theorem d_X12_isMore_5 : decode mt_X12_isMore.2.1 5 = .ok (.imul, 1) := by decide +kernel
theorem d_X12_isMore_6 : decode mt_X12_isMore.2.1 6 = .ok (.iload_n 2, 1) := by decide +kernel
theorem d_X12_isMore_7 : decode mt_X12_isMore.2.1 7 = .ok (.invokestatic 324, 3) := by decide +kernel
theorem d_X12_isMore_10 : decode mt_X12_isMore.2.1 10 = .ok (.if_icmp .le 7, 3) := by decide +kernel
theorem d_X12_isMore_13 : decode mt_X12_isMore.2.1 13 = .ok (.iconst 1, 1) := by decide +kernel
theorem d_X12_isMore_14 : decode mt_X12_isMore.2.1 14 = .ok (.goto 4, 3) := by decide +kernel
theorem d_X12_isMore_17 : decode mt_X12_isMore.2.1 17 = .ok (.iconst 0, 1) := by decide +kernel
theorem d_X12_isMore_18 : decode mt_X12_isMore.2.1 18 = .ok (.ireturn, 1) := by decide +kernel
noncomputable def f_X12_isMore_b0 (v0 v1 v2 : Int) (σ : Mem) : Option (Int) :=
  (f_X12_sizeOf v1 σ).bind fun r1 =>
  (f_X12_sizeOf v2 σ).bind fun r3 =>
  if w32 (2 * r1) ≤ r3 then
    some (0)
  else
    some (1)
theorem L_X12_isMore_b0 {sc : Nat × (Nat → Int32)} {o : Int} {σ : Mem} {v0 v1 v2 : Int} (h : f_X12_isMore_b0 v0 v1 v2 σ = some o) : E sc (Fm Sh (some (0, o)) Sh σ) mt_X12_isMore 3 Sh Sh 0 [(2, v0), (0, v1), (0, v2)] [] Sh σ := by
  unfold f_X12_isMore_b0 at h
  refine E_iconst d_X12_isMore_0 (c32 rfl) ?_
  refine E_iload_n d_X12_isMore_1 rfl ?_
  refine bd h (fun r1 q2 h => ?_)
  refine E_cS (as := [(0, v1)]) (st := [(0, 2)]) d_X12_isMore_2 mk_X12_sizeOf nl_X12_324 (by omega) ⟨rfl, rfl, Nat.le_of_ble_eq_true rfl⟩ (L_X12_sizeOf q2) ?_
  refine E_imul d_X12_isMore_5 ?_
  refine E_iload_n d_X12_isMore_6 rfl ?_
  refine bd h (fun r3 q4 h => ?_)
  refine E_cS (as := [(0, v2)]) (st := [(0, w32 (2 * r1))]) d_X12_isMore_7 mk_X12_sizeOf nl_X12_324 (by omega) ⟨rfl, rfl, Nat.le_of_ble_eq_true rfl⟩ (L_X12_sizeOf q4) ?_
  refine E_icmp_le (tgt := 17) d_X12_isMore_10 (by decide) h (fun _ h => ?_) (fun _ h => ?_)
  · refine E_iconst d_X12_isMore_17 (c32 rfl) ?_
    cases h
    exact E_zret d_X12_isMore_18 rfl (Or.inl rfl)
  · refine E_iconst d_X12_isMore_13 (c32 rfl) ?_
    refine E_goto (tgt := 18) d_X12_isMore_14 (by decide) ?_
    cases h
    exact E_zret d_X12_isMore_18 rfl (Or.inr rfl)
noncomputable def f_X12_isMore (v0 v1 v2 : Int) (σ : Mem) : Option (Int) := if isO Sh 12 v0 = true then f_X12_isMore_b0 v0 v1 v2 σ else none
theorem L_X12_isMore {o : Int} {v0 v1 v2 : Int} {σ : Mem} (h : f_X12_isMore v0 v1 v2 σ = some o) : (isO Sh 12 v0 = true ∧ Cn mt_X12_isMore 3 [(2, v0), (0, v1), (0, v2)] Sh σ (some (0, o)) Sh σ) := ⟨(ite_ok h).1, Cn_of mk_X12_isMore.1.2.2.1 (Nat.le_of_ble_eq_true rfl) (fun sc => L_X12_isMore_b0 (ite_ok h).2)⟩
theorem d_X12_isCondemned_0 : decode mt_X12_isCondemned.2.1 0 = .ok (.aload_n 0, 1) := by decide +kernel
theorem d_X12_isCondemned_1 : decode mt_X12_isCondemned.2.1 1 = .ok (.iload_n 2, 1) := by decide +kernel
theorem d_X12_isCondemned_2 : decode mt_X12_isCondemned.2.1 2 = .ok (.invokevirtual 305, 3) := by decide +kernel
theorem d_X12_isCondemned_5 : decode mt_X12_isCondemned.2.1 5 = .ok (.ifCond .eq 24, 3) := by decide +kernel
theorem d_X12_isCondemned_8 : decode mt_X12_isCondemned.2.1 8 = .ok (.aload_n 0, 1) := by decide +kernel
theorem d_X12_isCondemned_9 : decode mt_X12_isCondemned.2.1 9 = .ok (.aload_n 0, 1) := by decide +kernel
theorem d_X12_isCondemned_10 : decode mt_X12_isCondemned.2.1 10 = .ok (.iload_n 1, 1) := by decide +kernel
theorem d_X12_isCondemned_11 : decode mt_X12_isCondemned.2.1 11 = .ok (.iload_n 2, 1) := by decide +kernel
theorem d_X12_isCondemned_12 : decode mt_X12_isCondemned.2.1 12 = .ok (.invokevirtual 351, 3) := by decide +kernel
theorem d_X12_isCondemned_15 : decode mt_X12_isCondemned.2.1 15 = .ok (.aload_n 0, 1) := by decide +kernel
theorem d_X12_isCondemned_16 : decode mt_X12_isCondemned.2.1 16 = .ok (.invokevirtual 321, 3) := by decide +kernel
theorem d_X12_isCondemned_19 : decode mt_X12_isCondemned.2.1 19 = .ok (.invokevirtual 354, 3) := by decide +kernel
theorem d_X12_isCondemned_22 : decode mt_X12_isCondemned.2.1 22 = .ok (.ifCond .eq 7, 3) := by decide +kernel
theorem d_X12_isCondemned_25 : decode mt_X12_isCondemned.2.1 25 = .ok (.iconst 1, 1) := by decide +kernel
theorem d_X12_isCondemned_26 : decode mt_X12_isCondemned.2.1 26 = .ok (.goto 4, 3) := by decide +kernel
theorem d_X12_isCondemned_29 : decode mt_X12_isCondemned.2.1 29 = .ok (.iconst 0, 1) := by decide +kernel
theorem d_X12_isCondemned_30 : decode mt_X12_isCondemned.2.1 30 = .ok (.ireturn, 1) := by decide +kernel
noncomputable def f_X12_isCondemned_b0 (v0 v1 v2 : Int) (σ : Mem) : Option (Int) :=
  (f_X12_isStoneAt v0 v2 σ).bind fun r1 =>
  if r1 = 0 then
    some (0)
  else
    (f_X12_turnedFrom v0 v1 v2 σ).bind fun r3 =>
    (f_X12_stones v0 σ).bind fun r5 =>
    (f_X12_isMore v0 r3 r5 σ).bind fun r7 =>
    if r7 = 0 then
      some (0)
    else
      some (1)
theorem L_X12_isCondemned_b0 {sc : Nat × (Nat → Int32)} {o : Int} {σ : Mem} {v0 v1 v2 : Int} (h : f_X12_isCondemned_b0 v0 v1 v2 σ = some o) : E sc (Fm Sh (some (0, o)) Sh σ) mt_X12_isCondemned 5 Sh Sh 0 [(2, v0), (0, v1), (0, v2)] [] Sh σ := by
  unfold f_X12_isCondemned_b0 at h
  refine E_aload_n d_X12_isCondemned_0 rfl (by decide) ?_
  refine E_iload_n d_X12_isCondemned_1 rfl ?_
  refine bd h (fun r1 q2 h => ?_)
  refine E_cV (as := [(0, v2)]) (st := []) (a := v0) d_X12_isCondemned_2 mk_X12_isStoneAt nl_X12_305 (by omega) ⟨rfl, rfl, Nat.le_of_ble_eq_true rfl⟩ okX12 rfl (L_X12_isStoneAt q2) ?_
  refine E_if_eq (tgt := 29) d_X12_isCondemned_5 (by decide) h (fun _ h => ?_) (fun _ h => ?_)
  · refine E_iconst d_X12_isCondemned_29 (c32 rfl) ?_
    cases h
    exact E_zret d_X12_isCondemned_30 rfl (Or.inl rfl)
  · refine E_aload_n d_X12_isCondemned_8 rfl (by decide) ?_
    refine E_aload_n d_X12_isCondemned_9 rfl (by decide) ?_
    refine E_iload_n d_X12_isCondemned_10 rfl ?_
    refine E_iload_n d_X12_isCondemned_11 rfl ?_
    refine bd h (fun r3 q4 h => ?_)
    refine E_cV (as := [(0, v1), (0, v2)]) (st := [(2, v0)]) (a := v0) d_X12_isCondemned_12 mk_X12_turnedFrom nl_X12_351 (by omega) ⟨rfl, rfl, Nat.le_of_ble_eq_true rfl⟩ okX12 rfl (L_X12_turnedFrom q4) ?_
    refine E_aload_n d_X12_isCondemned_15 rfl (by decide) ?_
    refine bd h (fun r5 q6 h => ?_)
    refine E_cV (as := []) (st := [(0, r3), (2, v0)]) (a := v0) d_X12_isCondemned_16 mk_X12_stones nl_X12_321 (by omega) ⟨rfl, rfl, Nat.le_of_ble_eq_true rfl⟩ okX12 rfl (L_X12_stones q6) ?_
    refine bd h (fun r7 q8 h => ?_)
    refine E_cV (as := [(0, r3), (0, r5)]) (st := []) (a := v0) d_X12_isCondemned_19 mk_X12_isMore nl_X12_354 (by omega) ⟨rfl, rfl, Nat.le_of_ble_eq_true rfl⟩ okX12 rfl (L_X12_isMore q8) ?_
    refine E_if_eq (tgt := 29) d_X12_isCondemned_22 (by decide) h (fun _ h => ?_) (fun _ h => ?_)
    · refine E_iconst d_X12_isCondemned_29 (c32 rfl) ?_
      cases h
      exact E_zret d_X12_isCondemned_30 rfl (Or.inl rfl)
    · refine E_iconst d_X12_isCondemned_25 (c32 rfl) ?_
      refine E_goto (tgt := 30) d_X12_isCondemned_26 (by decide) ?_
      cases h
      exact E_zret d_X12_isCondemned_30 rfl (Or.inr rfl)
noncomputable def f_X12_isCondemned (v0 v1 v2 : Int) (σ : Mem) : Option (Int) := if isO Sh 12 v0 = true then f_X12_isCondemned_b0 v0 v1 v2 σ else none
theorem L_X12_isCondemned {o : Int} {v0 v1 v2 : Int} {σ : Mem} (h : f_X12_isCondemned v0 v1 v2 σ = some o) : (isO Sh 12 v0 = true ∧ Cn mt_X12_isCondemned 5 [(2, v0), (0, v1), (0, v2)] Sh σ (some (0, o)) Sh σ) := ⟨(ite_ok h).1, Cn_of mk_X12_isCondemned.1.2.2.1 (Nat.le_of_ble_eq_true rfl) (fun sc => L_X12_isCondemned_b0 (ite_ok h).2)⟩
theorem d_X12_falls_0 : decode mt_X12_falls.2.1 0 = .ok (.aload_n 0, 1) := by decide +kernel
theorem d_X12_falls_1 : decode mt_X12_falls.2.1 1 = .ok (.getfield 35, 3) := by decide +kernel
theorem d_X12_falls_4 : decode mt_X12_falls.2.1 4 = .ok (.bipush 7, 2) := by decide +kernel
theorem d_X12_falls_6 : decode mt_X12_falls.2.1 6 = .ok (.iload_n 1, 1) := by decide +kernel
theorem d_X12_falls_7 : decode mt_X12_falls.2.1 7 = .ok (.iadd, 1) := by decide +kernel
theorem d_X12_falls_8 : decode mt_X12_falls.2.1 8 = .ok (.iconst 0, 1) := by decide +kernel
theorem d_X12_falls_9 : decode mt_X12_falls.2.1 9 = .ok (.iastore, 1) := by decide +kernel
theorem d_X12_falls_10 : decode mt_X12_falls.2.1 10 = .ok (.iconst 0, 1) := by decide +kernel
theorem d_X12_falls_11 : decode mt_X12_falls.2.1 11 = .ok (.istore_n 2, 1) := by decide +kernel
theorem d_X12_falls_12 : decode mt_X12_falls.2.1 12 = .ok (.iload_n 2, 1) := by decide +kernel
theorem d_X12_falls_13 : decode mt_X12_falls.2.1 13 = .ok (.aload_n 0, 1) := by decide +kernel
theorem d_X12_falls_14 : decode mt_X12_falls.2.1 14 = .ok (.getfield 35, 3) := by decide +kernel
theorem d_X12_falls_17 : decode mt_X12_falls.2.1 17 = .ok (.iconst 1, 1) := by decide +kernel
theorem d_X12_falls_18 : decode mt_X12_falls.2.1 18 = .ok (.iaload, 1) := by decide +kernel
theorem d_X12_falls_19 : decode mt_X12_falls.2.1 19 = .ok (.if_icmp .ge 32, 3) := by decide +kernel
theorem d_X12_falls_22 : decode mt_X12_falls.2.1 22 = .ok (.aload_n 0, 1) := by decide +kernel
theorem d_X12_falls_23 : decode mt_X12_falls.2.1 23 = .ok (.getfield 35, 3) := by decide +kernel
theorem d_X12_falls_26 : decode mt_X12_falls.2.1 26 = .ok (.bipush 47, 2) := by decide +kernel
theorem d_X12_falls_28 : decode mt_X12_falls.2.1 28 = .ok (.iload_n 2, 1) := by decide +kernel
theorem d_X12_falls_29 : decode mt_X12_falls.2.1 29 = .ok (.iadd, 1) := by decide +kernel
theorem d_X12_falls_30 : decode mt_X12_falls.2.1 30 = .ok (.iaload, 1) := by decide +kernel
theorem d_X12_falls_31 : decode mt_X12_falls.2.1 31 = .ok (.iload_n 1, 1) := by decide +kernel
theorem d_X12_falls_32 : decode mt_X12_falls.2.1 32 = .ok (.if_icmp .ne 13, 3) := by decide +kernel
theorem d_X12_falls_35 : decode mt_X12_falls.2.1 35 = .ok (.aload_n 0, 1) := by decide +kernel
theorem d_X12_falls_36 : decode mt_X12_falls.2.1 36 = .ok (.getfield 35, 3) := by decide +kernel
theorem d_X12_falls_39 : decode mt_X12_falls.2.1 39 = .ok (.bipush 47, 2) := by decide +kernel
theorem d_X12_falls_41 : decode mt_X12_falls.2.1 41 = .ok (.iload_n 2, 1) := by decide +kernel
theorem d_X12_falls_42 : decode mt_X12_falls.2.1 42 = .ok (.iadd, 1) := by decide +kernel
theorem d_X12_falls_43 : decode mt_X12_falls.2.1 43 = .ok (.iconst (-1), 1) := by decide +kernel
theorem d_X12_falls_44 : decode mt_X12_falls.2.1 44 = .ok (.iastore, 1) := by decide +kernel
theorem d_X12_falls_45 : decode mt_X12_falls.2.1 45 = .ok (.iinc 2 1, 3) := by decide +kernel
theorem d_X12_falls_48 : decode mt_X12_falls.2.1 48 = .ok (.goto (-36), 3) := by decide +kernel
theorem d_X12_falls_51 : decode mt_X12_falls.2.1 51 = .ok (.return_, 1) := by decide +kernel
noncomputable def f_X12_falls_b45 (k12 : (Int → Int → Int → Mem → Option (Mem))) (v0 v1 v2 : Int) (σ : Mem) : Option (Mem) :=
  k12 v0 v1 (w32 (v2 + 1)) σ
theorem L_X12_falls_b45 {sc : Nat × (Nat → Int32)} {o : Mem} {k12 : (Int → Int → Int → Mem → Option (Mem))} (hk12 : ∀ {v0 v1 v2 : Int} {σ : Mem}, k12 v0 v1 v2 σ = some o → E sc (Fm Sh none Sh o) mt_X12_falls 1 Sh Sh 12 [(2, v0), (0, v1), (0, v2)] [] Sh σ) {v0 v1 v2 : Int} {σ : Mem} (h : f_X12_falls_b45 k12 v0 v1 v2 σ = some o) : E sc (Fm Sh none Sh o) mt_X12_falls 1 Sh Sh 45 [(2, v0), (0, v1), (0, v2)] [] Sh σ := by
  unfold f_X12_falls_b45 at h
  refine E_iinc d_X12_falls_45 (ls' := [(2, v0), (0, v1), (0, w32 (v2 + 1))]) rfl ⟨by decide, rfl⟩ ?_
  refine E_goto (tgt := 12) d_X12_falls_48 (by decide) ?_
  exact (hk12 h)
noncomputable def f_X12_falls_b12 (k12 : (Int → Int → Int → Mem → Option (Mem))) (v0 v1 v2 : Int) (σ : Mem) : Option (Mem) :=
  (gf Sh σ 12 v0 20).bind fun x3 =>
  (al Sh σ 20 x3 1).bind fun x4 =>
  if x4 ≤ v2 then
    some σ
  else
    (gf Sh σ 12 v0 20).bind fun x5 =>
    (al Sh σ 20 x5 (w32 (47 + v2))).bind fun x6 =>
    if x6 = v1 then
      (gf Sh σ 12 v0 20).bind fun x7 =>
      (st_ Sh σ 20 x7 (w32 (47 + v2)) (-1)).bind fun σ8 =>
      f_X12_falls_b45 k12 v0 v1 v2 σ8
    else
      f_X12_falls_b45 k12 v0 v1 v2 σ
theorem L_X12_falls_b12 {sc : Nat × (Nat → Int32)} {o : Mem} {k12 : (Int → Int → Int → Mem → Option (Mem))} (hk12 : ∀ {v0 v1 v2 : Int} {σ : Mem}, k12 v0 v1 v2 σ = some o → E sc (Fm Sh none Sh o) mt_X12_falls 1 Sh Sh 12 [(2, v0), (0, v1), (0, v2)] [] Sh σ) {v0 v1 v2 : Int} {σ : Mem} (h : f_X12_falls_b12 k12 v0 v1 v2 σ = some o) : E sc (Fm Sh none Sh o) mt_X12_falls 1 Sh Sh 12 [(2, v0), (0, v1), (0, v2)] [] Sh σ := by
  unfold f_X12_falls_b12 at h
  refine E_iload_n d_X12_falls_12 rfl ?_
  refine E_aload_n d_X12_falls_13 rfl (by decide) ?_
  refine E_get d_X12_falls_14 okX12 fl_X12_35 ⟨by decide, rfl⟩ h (fun x3 h => ?_)
  refine E_iconst d_X12_falls_17 (c32 rfl) ?_
  refine E_iaload d_X12_falls_18 h (fun x4 h => ?_)
  refine E_icmp_ge (tgt := 51) d_X12_falls_19 (by decide) h (fun _ h => ?_) (fun _ h => ?_)
  · cases h
    exact E_vret d_X12_falls_51 rfl
  · refine E_aload_n d_X12_falls_22 rfl (by decide) ?_
    refine E_get d_X12_falls_23 okX12 fl_X12_35 ⟨by decide, rfl⟩ h (fun x5 h => ?_)
    refine E_bipush d_X12_falls_26 (c8 rfl) ?_
    refine E_iload_n d_X12_falls_28 rfl ?_
    refine E_iadd d_X12_falls_29 ?_
    refine E_iaload d_X12_falls_30 h (fun x6 h => ?_)
    refine E_iload_n d_X12_falls_31 rfl ?_
    refine E_icmp_ne (tgt := 45) d_X12_falls_32 (by decide) h (fun _ h => ?_) (fun _ h => ?_)
    · refine E_aload_n d_X12_falls_35 rfl (by decide) ?_
      refine E_get d_X12_falls_36 okX12 fl_X12_35 ⟨by decide, rfl⟩ h (fun x7 h => ?_)
      refine E_bipush d_X12_falls_39 (c8 rfl) ?_
      refine E_iload_n d_X12_falls_41 rfl ?_
      refine E_iadd d_X12_falls_42 ?_
      refine E_iconst d_X12_falls_43 (c32 rfl) ?_
      refine E_iastore d_X12_falls_44 h (fun σ8 h => ?_)
      exact (L_X12_falls_b45 hk12 h)
    · exact (L_X12_falls_b45 hk12 h)
noncomputable def f_X12_falls_h12 (n : Nat) : Int → Int → Int → Mem → Option (Mem) := Nat.rec (motive := fun _ => Int → Int → Int → Mem → Option (Mem)) (fun _ _ _ _ => none) (fun _ ih => f_X12_falls_b12 (ih)) n
theorem L_X12_falls_h12 {sc : Nat × (Nat → Int32)} {o : Mem} : ∀ (n : Nat) {v0 v1 v2 : Int} {σ : Mem}, f_X12_falls_h12 n v0 v1 v2 σ = some o → E sc (Fm Sh none Sh o) mt_X12_falls 1 Sh Sh 12 [(2, v0), (0, v1), (0, v2)] [] Sh σ := by
  intro n
  induction n with
  | zero => intro v0 v1 v2 σ h; cases h
  | succ n ih => intro v0 v1 v2 σ h; exact L_X12_falls_b12 (@ih) h
noncomputable def f_X12_falls_b0 (v0 v1 : Int) (σ : Mem) : Option (Mem) :=
  (gf Sh σ 12 v0 20).bind fun x1 =>
  (st_ Sh σ 20 x1 (w32 (7 + v1)) 0).bind fun σ2 =>
  f_X12_falls_h12 FU v0 v1 0 σ2
theorem L_X12_falls_b0 {sc : Nat × (Nat → Int32)} {o : Mem} {v0 v1 : Int} {σ : Mem} (h : f_X12_falls_b0 v0 v1 σ = some o) : E sc (Fm Sh none Sh o) mt_X12_falls 1 Sh Sh 0 [(2, v0), (0, v1), (9, 0)] [] Sh σ := by
  unfold f_X12_falls_b0 at h
  refine E_aload_n d_X12_falls_0 rfl (by decide) ?_
  refine E_get d_X12_falls_1 okX12 fl_X12_35 ⟨by decide, rfl⟩ h (fun x1 h => ?_)
  refine E_bipush d_X12_falls_4 (c8 rfl) ?_
  refine E_iload_n d_X12_falls_6 rfl ?_
  refine E_iadd d_X12_falls_7 ?_
  refine E_iconst d_X12_falls_8 (c32 rfl) ?_
  refine E_iastore d_X12_falls_9 h (fun σ2 h => ?_)
  refine E_iconst d_X12_falls_10 (c32 rfl) ?_
  refine E_istore_n d_X12_falls_11 (ls' := [(2, v0), (0, v1), (0, 0)]) ⟨by decide, rfl⟩ ?_
  exact (L_X12_falls_h12 FU h)
noncomputable def f_X12_falls (v0 v1 : Int) (σ : Mem) : Option (Mem) := if isO Sh 12 v0 = true then f_X12_falls_b0 v0 v1 σ else none
theorem L_X12_falls {o : Mem} {v0 v1 : Int} {σ : Mem} (h : f_X12_falls v0 v1 σ = some o) : (isO Sh 12 v0 = true ∧ Cn mt_X12_falls 1 [(2, v0), (0, v1)] Sh σ none Sh o) := ⟨(ite_ok h).1, Cn_of mk_X12_falls.1.2.2.1 (Nat.le_of_ble_eq_true rfl) (fun sc => L_X12_falls_b0 (ite_ok h).2)⟩
theorem d_X12_tries_0 : decode mt_X12_tries.2.1 0 = .ok (.aload_n 0, 1) := by decide +kernel
theorem d_X12_tries_1 : decode mt_X12_tries.2.1 1 = .ok (.iload_n 1, 1) := by decide +kernel
theorem d_X12_tries_2 : decode mt_X12_tries.2.1 2 = .ok (.iload_n 2, 1) := by decide +kernel
theorem d_X12_tries_3 : decode mt_X12_tries.2.1 3 = .ok (.invokevirtual 351, 3) := by decide +kernel
theorem d_X12_tries_6 : decode mt_X12_tries.2.1 6 = .ok (.istore 4, 2) := by decide +kernel
theorem d_X12_tries_8 : decode mt_X12_tries.2.1 8 = .ok (.aload_n 0, 1) := by decide +kernel
theorem d_X12_tries_9 : decode mt_X12_tries.2.1 9 = .ok (.iload_n 1, 1) := by decide +kernel
theorem d_X12_tries_10 : decode mt_X12_tries.2.1 10 = .ok (.iload_n 2, 1) := by decide +kernel
theorem d_X12_tries_11 : decode mt_X12_tries.2.1 11 = .ok (.invokevirtual 357, 3) := by decide +kernel
theorem d_X12_tries_14 : decode mt_X12_tries.2.1 14 = .ok (.istore 5, 2) := by decide +kernel
theorem d_X12_tries_16 : decode mt_X12_tries.2.1 16 = .ok (.aload_n 0, 1) := by decide +kernel
theorem d_X12_tries_17 : decode mt_X12_tries.2.1 17 = .ok (.getfield 35, 3) := by decide +kernel
theorem d_X12_tries_20 : decode mt_X12_tries.2.1 20 = .ok (.iconst 4, 1) := by decide +kernel
theorem d_X12_tries_21 : decode mt_X12_tries.2.1 21 = .ok (.dup2, 1) := by decide +kernel
theorem d_X12_tries_22 : decode mt_X12_tries.2.1 22 = .ok (.iaload, 1) := by decide +kernel
theorem d_X12_tries_23 : decode mt_X12_tries.2.1 23 = .ok (.iconst 1, 1) := by decide +kernel
theorem d_X12_tries_24 : decode mt_X12_tries.2.1 24 = .ok (.iadd, 1) := by decide +kernel
theorem d_X12_tries_25 : decode mt_X12_tries.2.1 25 = .ok (.iastore, 1) := by decide +kernel
theorem d_X12_tries_26 : decode mt_X12_tries.2.1 26 = .ok (.aload_n 0, 1) := by decide +kernel
theorem d_X12_tries_27 : decode mt_X12_tries.2.1 27 = .ok (.getfield 35, 3) := by decide +kernel
theorem d_X12_tries_30 : decode mt_X12_tries.2.1 30 = .ok (.iconst 5, 1) := by decide +kernel
theorem d_X12_tries_31 : decode mt_X12_tries.2.1 31 = .ok (.dup2, 1) := by decide +kernel
theorem d_X12_tries_32 : decode mt_X12_tries.2.1 32 = .ok (.iaload, 1) := by decide +kernel
theorem d_X12_tries_33 : decode mt_X12_tries.2.1 33 = .ok (.iload 5, 2) := by decide +kernel
theorem d_X12_tries_35 : decode mt_X12_tries.2.1 35 = .ok (.ifCond .eq 7, 3) := by decide +kernel
theorem d_X12_tries_38 : decode mt_X12_tries.2.1 38 = .ok (.iconst 1, 1) := by decide +kernel
theorem d_X12_tries_39 : decode mt_X12_tries.2.1 39 = .ok (.goto 4, 3) := by decide +kernel
theorem d_X12_tries_42 : decode mt_X12_tries.2.1 42 = .ok (.iconst 0, 1) := by decide +kernel
theorem d_X12_tries_43 : decode mt_X12_tries.2.1 43 = .ok (.iadd, 1) := by decide +kernel
theorem d_X12_tries_44 : decode mt_X12_tries.2.1 44 = .ok (.iastore, 1) := by decide +kernel
theorem d_X12_tries_45 : decode mt_X12_tries.2.1 45 = .ok (.iload 5, 2) := by decide +kernel
theorem d_X12_tries_47 : decode mt_X12_tries.2.1 47 = .ok (.iload_n 3, 1) := by decide +kernel
theorem d_X12_tries_48 : decode mt_X12_tries.2.1 48 = .ok (.if_icmp .ne 5, 3) := by decide +kernel
theorem d_X12_tries_51 : decode mt_X12_tries.2.1 51 = .ok (.iconst 1, 1) := by decide +kernel
theorem d_X12_tries_52 : decode mt_X12_tries.2.1 52 = .ok (.ireturn, 1) := by decide +kernel
theorem d_X12_tries_53 : decode mt_X12_tries.2.1 53 = .ok (.aload_n 0, 1) := by decide +kernel
theorem d_X12_tries_54 : decode mt_X12_tries.2.1 54 = .ok (.getfield 35, 3) := by decide +kernel
theorem d_X12_tries_57 : decode mt_X12_tries.2.1 57 = .ok (.bipush 6, 2) := by decide +kernel
theorem d_X12_tries_59 : decode mt_X12_tries.2.1 59 = .ok (.dup2, 1) := by decide +kernel
theorem d_X12_tries_60 : decode mt_X12_tries.2.1 60 = .ok (.iaload, 1) := by decide +kernel
theorem d_X12_tries_61 : decode mt_X12_tries.2.1 61 = .ok (.iconst 1, 1) := by decide +kernel
theorem d_X12_tries_62 : decode mt_X12_tries.2.1 62 = .ok (.iadd, 1) := by decide +kernel
theorem d_X12_tries_63 : decode mt_X12_tries.2.1 63 = .ok (.iastore, 1) := by decide +kernel
theorem d_X12_tries_64 : decode mt_X12_tries.2.1 64 = .ok (.iload 5, 2) := by decide +kernel
theorem d_X12_tries_66 : decode mt_X12_tries.2.1 66 = .ok (.ifCond .eq 8, 3) := by decide +kernel
theorem d_X12_tries_69 : decode mt_X12_tries.2.1 69 = .ok (.iload 4, 2) := by decide +kernel
theorem d_X12_tries_71 : decode mt_X12_tries.2.1 71 = .ok (.goto 12, 3) := by decide +kernel
theorem d_X12_tries_74 : decode mt_X12_tries.2.1 74 = .ok (.aload_n 0, 1) := by decide +kernel
theorem d_X12_tries_75 : decode mt_X12_tries.2.1 75 = .ok (.invokevirtual 321, 3) := by decide +kernel
theorem d_X12_tries_78 : decode mt_X12_tries.2.1 78 = .ok (.iload 4, 2) := by decide +kernel
theorem d_X12_tries_80 : decode mt_X12_tries.2.1 80 = .ok (.iconst (-1), 1) := by decide +kernel
theorem d_X12_tries_81 : decode mt_X12_tries.2.1 81 = .ok (.ixor, 1) := by decide +kernel
theorem d_X12_tries_82 : decode mt_X12_tries.2.1 82 = .ok (.iand, 1) := by decide +kernel
theorem d_X12_tries_83 : decode mt_X12_tries.2.1 83 = .ok (.istore 6, 2) := by decide +kernel
theorem d_X12_tries_85 : decode mt_X12_tries.2.1 85 = .ok (.iconst 0, 1) := by decide +kernel
theorem d_X12_tries_86 : decode mt_X12_tries.2.1 86 = .ok (.istore 7, 2) := by decide +kernel
theorem d_X12_tries_88 : decode mt_X12_tries.2.1 88 = .ok (.iload 7, 2) := by decide +kernel
theorem d_X12_tries_90 : decode mt_X12_tries.2.1 90 = .ok (.aload_n 0, 1) := by decide +kernel
theorem d_X12_tries_91 : decode mt_X12_tries.2.1 91 = .ok (.getfield 35, 3) := by decide +kernel
theorem d_X12_tries_94 : decode mt_X12_tries.2.1 94 = .ok (.iconst 0, 1) := by decide +kernel
theorem d_X12_tries_95 : decode mt_X12_tries.2.1 95 = .ok (.iaload, 1) := by decide +kernel
theorem d_X12_tries_96 : decode mt_X12_tries.2.1 96 = .ok (.if_icmp .ge 55, 3) := by decide +kernel
theorem d_X12_tries_99 : decode mt_X12_tries.2.1 99 = .ok (.iload 6, 2) := by decide +kernel
theorem d_X12_tries_101 : decode mt_X12_tries.2.1 101 = .ok (.iload 7, 2) := by decide +kernel
theorem d_X12_tries_103 : decode mt_X12_tries.2.1 103 = .ok (.invokestatic 108, 3) := by decide +kernel
theorem d_X12_tries_106 : decode mt_X12_tries.2.1 106 = .ok (.ifCond .ne 6, 3) := by decide +kernel
theorem d_X12_tries_109 : decode mt_X12_tries.2.1 109 = .ok (.goto 36, 3) := by decide +kernel
theorem d_X12_tries_112 : decode mt_X12_tries.2.1 112 = .ok (.aload_n 0, 1) := by decide +kernel
theorem d_X12_tries_113 : decode mt_X12_tries.2.1 113 = .ok (.getfield 35, 3) := by decide +kernel
theorem d_X12_tries_116 : decode mt_X12_tries.2.1 116 = .ok (.bipush 37, 2) := by decide +kernel
theorem d_X12_tries_118 : decode mt_X12_tries.2.1 118 = .ok (.iload 7, 2) := by decide +kernel
theorem d_X12_tries_120 : decode mt_X12_tries.2.1 120 = .ok (.iadd, 1) := by decide +kernel
theorem d_X12_tries_121 : decode mt_X12_tries.2.1 121 = .ok (.dup2, 1) := by decide +kernel
theorem d_X12_tries_122 : decode mt_X12_tries.2.1 122 = .ok (.iaload, 1) := by decide +kernel
theorem d_X12_tries_123 : decode mt_X12_tries.2.1 123 = .ok (.iconst 1, 1) := by decide +kernel
theorem d_X12_tries_124 : decode mt_X12_tries.2.1 124 = .ok (.isub, 1) := by decide +kernel
theorem d_X12_tries_125 : decode mt_X12_tries.2.1 125 = .ok (.iastore, 1) := by decide +kernel
theorem d_X12_tries_126 : decode mt_X12_tries.2.1 126 = .ok (.aload_n 0, 1) := by decide +kernel
theorem d_X12_tries_127 : decode mt_X12_tries.2.1 127 = .ok (.getfield 35, 3) := by decide +kernel
theorem d_X12_tries_130 : decode mt_X12_tries.2.1 130 = .ok (.bipush 37, 2) := by decide +kernel
theorem d_X12_tries_132 : decode mt_X12_tries.2.1 132 = .ok (.iload 7, 2) := by decide +kernel
theorem d_X12_tries_134 : decode mt_X12_tries.2.1 134 = .ok (.iadd, 1) := by decide +kernel
theorem d_X12_tries_135 : decode mt_X12_tries.2.1 135 = .ok (.iaload, 1) := by decide +kernel
theorem d_X12_tries_136 : decode mt_X12_tries.2.1 136 = .ok (.ifCond .ne 9, 3) := by decide +kernel
theorem d_X12_tries_139 : decode mt_X12_tries.2.1 139 = .ok (.aload_n 0, 1) := by decide +kernel
theorem d_X12_tries_140 : decode mt_X12_tries.2.1 140 = .ok (.iload 7, 2) := by decide +kernel
theorem d_X12_tries_142 : decode mt_X12_tries.2.1 142 = .ok (.invokevirtual 360, 3) := by decide +kernel
theorem d_X12_tries_145 : decode mt_X12_tries.2.1 145 = .ok (.iinc 7 1, 3) := by decide +kernel
theorem d_X12_tries_148 : decode mt_X12_tries.2.1 148 = .ok (.goto (-60), 3) := by decide +kernel
theorem d_X12_tries_151 : decode mt_X12_tries.2.1 151 = .ok (.iconst 0, 1) := by decide +kernel
theorem d_X12_tries_152 : decode mt_X12_tries.2.1 152 = .ok (.ireturn, 1) := by decide +kernel
noncomputable def f_X12_tries_b145 (k88 : (Int → Int → Int → Mem → Option (Int × Mem))) (v0 v6 v7 : Int) (σ : Mem) : Option (Int × Mem) :=
  k88 v0 v6 (w32 (v7 + 1)) σ
theorem L_X12_tries_b145 {sc : Nat × (Nat → Int32)} {o : Int × Mem} {k88 : (Int → Int → Int → Mem → Option (Int × Mem))} (hk88 : ∀ {v0 v6 v7 : Int} {σ : Mem}, k88 v0 v6 v7 σ = some o → E sc (Fm Sh (some (0, o.1)) Sh o.2) mt_X12_tries 6 Sh Sh 88 [(2, v0), (9, 0), (9, 0), (9, 0), (9, 0), (9, 0), (0, v6), (0, v7)] [] Sh σ) {v0 v6 v7 : Int} {σ : Mem} (h : f_X12_tries_b145 k88 v0 v6 v7 σ = some o) : E sc (Fm Sh (some (0, o.1)) Sh o.2) mt_X12_tries 6 Sh Sh 145 [(2, v0), (9, 0), (9, 0), (9, 0), (9, 0), (9, 0), (0, v6), (0, v7)] [] Sh σ := by
  unfold f_X12_tries_b145 at h
  refine E_iinc d_X12_tries_145 (ls' := [(2, v0), (9, 0), (9, 0), (9, 0), (9, 0), (9, 0), (0, v6), (0, w32 (v7 + 1))]) rfl ⟨by decide, rfl⟩ ?_
  refine E_goto (tgt := 88) d_X12_tries_148 (by decide) ?_
  exact (hk88 h)
noncomputable def f_X12_tries_b88 (k88 : (Int → Int → Int → Mem → Option (Int × Mem))) (v0 v6 v7 : Int) (σ : Mem) : Option (Int × Mem) :=
  (gf Sh σ 12 v0 20).bind fun x16 =>
  (al Sh σ 20 x16 0).bind fun x17 =>
  if x17 ≤ v7 then
    some (0, σ)
  else
    (f_X12_has v6 v7 σ).bind fun r18 =>
    if r18 = 0 then
      f_X12_tries_b145 k88 v0 v6 v7 σ
    else
      (gf Sh σ 12 v0 20).bind fun x20 =>
      (al Sh σ 20 x20 (w32 (37 + v7))).bind fun x21 =>
      (st_ Sh σ 20 x20 (w32 (37 + v7)) (w32 (x21 - 1))).bind fun σ22 =>
      (gf Sh σ22 12 v0 20).bind fun x23 =>
      (al Sh σ22 20 x23 (w32 (37 + v7))).bind fun x24 =>
      if x24 = 0 then
        (f_X12_falls v0 v7 σ22).bind fun r25 =>
        f_X12_tries_b145 k88 v0 v6 v7 r25
      else
        f_X12_tries_b145 k88 v0 v6 v7 σ22
theorem L_X12_tries_b88 {sc : Nat × (Nat → Int32)} {o : Int × Mem} {k88 : (Int → Int → Int → Mem → Option (Int × Mem))} (hk88 : ∀ {v0 v6 v7 : Int} {σ : Mem}, k88 v0 v6 v7 σ = some o → E sc (Fm Sh (some (0, o.1)) Sh o.2) mt_X12_tries 6 Sh Sh 88 [(2, v0), (9, 0), (9, 0), (9, 0), (9, 0), (9, 0), (0, v6), (0, v7)] [] Sh σ) {v0 v6 v7 : Int} {σ : Mem} (h : f_X12_tries_b88 k88 v0 v6 v7 σ = some o) : E sc (Fm Sh (some (0, o.1)) Sh o.2) mt_X12_tries 6 Sh Sh 88 [(2, v0), (9, 0), (9, 0), (9, 0), (9, 0), (9, 0), (0, v6), (0, v7)] [] Sh σ := by
  unfold f_X12_tries_b88 at h
  refine E_iload d_X12_tries_88 rfl ?_
  refine E_aload_n d_X12_tries_90 rfl (by decide) ?_
  refine E_get d_X12_tries_91 okX12 fl_X12_35 ⟨by decide, rfl⟩ h (fun x16 h => ?_)
  refine E_iconst d_X12_tries_94 (c32 rfl) ?_
  refine E_iaload d_X12_tries_95 h (fun x17 h => ?_)
  refine E_icmp_ge (tgt := 151) d_X12_tries_96 (by decide) h (fun _ h => ?_) (fun _ h => ?_)
  · refine E_iconst d_X12_tries_151 (c32 rfl) ?_
    cases h
    exact E_zret d_X12_tries_152 rfl (Or.inl rfl)
  · refine E_iload d_X12_tries_99 rfl ?_
    refine E_iload d_X12_tries_101 rfl ?_
    refine bd h (fun r18 q19 h => ?_)
    refine E_cS (as := [(0, v6), (0, v7)]) (st := []) d_X12_tries_103 mk_X12_has nl_X12_108 (by omega) ⟨rfl, rfl, Nat.le_of_ble_eq_true rfl⟩ (L_X12_has q19) ?_
    refine E_if_ne (tgt := 112) d_X12_tries_106 (by decide) h (fun _ h => ?_) (fun _ h => ?_)
    · refine E_goto (tgt := 145) d_X12_tries_109 (by decide) ?_
      exact (L_X12_tries_b145 hk88 h)
    · refine E_aload_n d_X12_tries_112 rfl (by decide) ?_
      refine E_get d_X12_tries_113 okX12 fl_X12_35 ⟨by decide, rfl⟩ h (fun x20 h => ?_)
      refine E_bipush d_X12_tries_116 (c8 rfl) ?_
      refine E_iload d_X12_tries_118 rfl ?_
      refine E_iadd d_X12_tries_120 ?_
      refine E_dup2T d_X12_tries_121 (by decide) ?_
      refine E_iaload d_X12_tries_122 h (fun x21 h => ?_)
      refine E_iconst d_X12_tries_123 (c32 rfl) ?_
      refine E_isub d_X12_tries_124 ?_
      refine E_iastore d_X12_tries_125 h (fun σ22 h => ?_)
      refine E_aload_n d_X12_tries_126 rfl (by decide) ?_
      refine E_get d_X12_tries_127 okX12 fl_X12_35 ⟨by decide, rfl⟩ h (fun x23 h => ?_)
      refine E_bipush d_X12_tries_130 (c8 rfl) ?_
      refine E_iload d_X12_tries_132 rfl ?_
      refine E_iadd d_X12_tries_134 ?_
      refine E_iaload d_X12_tries_135 h (fun x24 h => ?_)
      refine E_if_ne (tgt := 145) d_X12_tries_136 (by decide) h (fun _ h => ?_) (fun _ h => ?_)
      · refine E_aload_n d_X12_tries_139 rfl (by decide) ?_
        refine E_iload d_X12_tries_140 rfl ?_
        refine bd h (fun r25 q26 h => ?_)
        refine E_cVv (as := [(0, v7)]) (st := []) (a := v0) d_X12_tries_142 mk_X12_falls nl_X12_360 (by omega) ⟨rfl, rfl, Nat.le_of_ble_eq_true rfl⟩ okX12 rfl (L_X12_falls q26) ?_
        exact (L_X12_tries_b145 hk88 h)
      · exact (L_X12_tries_b145 hk88 h)
noncomputable def f_X12_tries_h88 (n : Nat) : Int → Int → Int → Mem → Option (Int × Mem) := Nat.rec (motive := fun _ => Int → Int → Int → Mem → Option (Int × Mem)) (fun _ _ _ _ => none) (fun _ ih => f_X12_tries_b88 (ih)) n
theorem L_X12_tries_h88 {sc : Nat × (Nat → Int32)} {o : Int × Mem} : ∀ (n : Nat) {v0 v6 v7 : Int} {σ : Mem}, f_X12_tries_h88 n v0 v6 v7 σ = some o → E sc (Fm Sh (some (0, o.1)) Sh o.2) mt_X12_tries 6 Sh Sh 88 [(2, v0), (9, 0), (9, 0), (9, 0), (9, 0), (9, 0), (0, v6), (0, v7)] [] Sh σ := by
  intro n
  induction n with
  | zero => intro v0 v6 v7 σ h; cases h
  | succ n ih => intro v0 v6 v7 σ h; exact L_X12_tries_b88 (@ih) h
noncomputable def f_X12_tries_b83 (v0 s0 : Int) (σ : Mem) : Option (Int × Mem) :=
  f_X12_tries_h88 FU v0 s0 0 σ
theorem L_X12_tries_b83 {sc : Nat × (Nat → Int32)} {o : Int × Mem} {v0 s0 : Int} {σ : Mem} (h : f_X12_tries_b83 v0 s0 σ = some o) : E sc (Fm Sh (some (0, o.1)) Sh o.2) mt_X12_tries 6 Sh Sh 83 [(2, v0), (9, 0), (9, 0), (9, 0), (9, 0), (9, 0), (9, 0), (9, 0)] [(0, s0)] Sh σ := by
  unfold f_X12_tries_b83 at h
  refine E_istore d_X12_tries_83 (ls' := [(2, v0), (9, 0), (9, 0), (9, 0), (9, 0), (9, 0), (0, s0), (9, 0)]) ⟨by decide, rfl⟩ ?_
  refine E_iconst d_X12_tries_85 (c32 rfl) ?_
  refine E_istore d_X12_tries_86 (ls' := [(2, v0), (9, 0), (9, 0), (9, 0), (9, 0), (9, 0), (0, s0), (0, 0)]) ⟨by decide, rfl⟩ ?_
  exact (L_X12_tries_h88 FU h)
noncomputable def f_X12_tries_b43 (v0 v3 v4 v5 s0 s1 s2 s3 : Int) (σ : Mem) : Option (Int × Mem) :=
  (st_ Sh σ 20 s3 s2 (w32 (s1 + s0))).bind fun σ10 =>
  if v5 = v3 then
    some (1, σ10)
  else
    (gf Sh σ10 12 v0 20).bind fun x11 =>
    (al Sh σ10 20 x11 6).bind fun x12 =>
    (st_ Sh σ10 20 x11 6 (w32 (x12 + 1))).bind fun σ13 =>
    if v5 = 0 then
      (f_X12_stones v0 σ13).bind fun r14 =>
      f_X12_tries_b83 v0 (iand r14 (ixor v4 (-1))) σ13
    else
      f_X12_tries_b83 v0 v4 σ13
theorem L_X12_tries_b43 {sc : Nat × (Nat → Int32)} {o : Int × Mem} {v0 v3 v4 v5 s0 s1 s2 s3 : Int} {σ : Mem} (h : f_X12_tries_b43 v0 v3 v4 v5 s0 s1 s2 s3 σ = some o) : E sc (Fm Sh (some (0, o.1)) Sh o.2) mt_X12_tries 6 Sh Sh 43 [(2, v0), (9, 0), (9, 0), (0, v3), (0, v4), (0, v5), (9, 0), (9, 0)] [(0, s0), (0, s1), (0, s2), (2, s3)] Sh σ := by
  unfold f_X12_tries_b43 at h
  refine E_iadd d_X12_tries_43 ?_
  refine E_iastore d_X12_tries_44 h (fun σ10 h => ?_)
  refine E_iload d_X12_tries_45 rfl ?_
  refine E_iload_n d_X12_tries_47 rfl ?_
  refine E_icmp_ne (tgt := 53) d_X12_tries_48 (by decide) h (fun _ h => ?_) (fun _ h => ?_)
  · refine E_iconst d_X12_tries_51 (c32 rfl) ?_
    cases h
    exact E_zret d_X12_tries_52 rfl (Or.inr rfl)
  · refine E_aload_n d_X12_tries_53 rfl (by decide) ?_
    refine E_get d_X12_tries_54 okX12 fl_X12_35 ⟨by decide, rfl⟩ h (fun x11 h => ?_)
    refine E_bipush d_X12_tries_57 (c8 rfl) ?_
    refine E_dup2T d_X12_tries_59 (by decide) ?_
    refine E_iaload d_X12_tries_60 h (fun x12 h => ?_)
    refine E_iconst d_X12_tries_61 (c32 rfl) ?_
    refine E_iadd d_X12_tries_62 ?_
    refine E_iastore d_X12_tries_63 h (fun σ13 h => ?_)
    refine E_iload d_X12_tries_64 rfl ?_
    refine E_if_eq (tgt := 74) d_X12_tries_66 (by decide) h (fun _ h => ?_) (fun _ h => ?_)
    · refine E_aload_n d_X12_tries_74 rfl (by decide) ?_
      refine bd h (fun r14 q15 h => ?_)
      refine E_cV (as := []) (st := []) (a := v0) d_X12_tries_75 mk_X12_stones nl_X12_321 (by omega) ⟨rfl, rfl, Nat.le_of_ble_eq_true rfl⟩ okX12 rfl (L_X12_stones q15) ?_
      refine E_iload d_X12_tries_78 rfl ?_
      refine E_iconst d_X12_tries_80 (c32 rfl) ?_
      refine E_ixor d_X12_tries_81 ?_
      refine E_iand d_X12_tries_82 ?_
      exact E_weak (ls' := [(2, v0), (9, 0), (9, 0), (9, 0), (9, 0), (9, 0), (9, 0), (9, 0)]) ⟨Or.inr rfl, Or.inl rfl, Or.inl rfl, Or.inl rfl, Or.inl rfl, Or.inl rfl, Or.inl rfl, Or.inl rfl, trivial⟩ (L_X12_tries_b83 h)
    · refine E_iload d_X12_tries_69 rfl ?_
      refine E_goto (tgt := 83) d_X12_tries_71 (by decide) ?_
      exact E_weak (ls' := [(2, v0), (9, 0), (9, 0), (9, 0), (9, 0), (9, 0), (9, 0), (9, 0)]) ⟨Or.inr rfl, Or.inl rfl, Or.inl rfl, Or.inl rfl, Or.inl rfl, Or.inl rfl, Or.inl rfl, Or.inl rfl, trivial⟩ (L_X12_tries_b83 h)
noncomputable def f_X12_tries_b0 (v0 v1 v2 v3 : Int) (σ : Mem) : Option (Int × Mem) :=
  (f_X12_turnedFrom v0 v1 v2 σ).bind fun r1 =>
  (f_X12_isCondemned v0 v1 v2 σ).bind fun r3 =>
  (gf Sh σ 12 v0 20).bind fun x5 =>
  (al Sh σ 20 x5 4).bind fun x6 =>
  (st_ Sh σ 20 x5 4 (w32 (x6 + 1))).bind fun σ7 =>
  (gf Sh σ7 12 v0 20).bind fun x8 =>
  (al Sh σ7 20 x8 5).bind fun x9 =>
  if r3 = 0 then
    f_X12_tries_b43 v0 v3 r1 r3 0 x9 5 x8 σ7
  else
    f_X12_tries_b43 v0 v3 r1 r3 1 x9 5 x8 σ7
theorem L_X12_tries_b0 {sc : Nat × (Nat → Int32)} {o : Int × Mem} {v0 v1 v2 v3 : Int} {σ : Mem} (h : f_X12_tries_b0 v0 v1 v2 v3 σ = some o) : E sc (Fm Sh (some (0, o.1)) Sh o.2) mt_X12_tries 6 Sh Sh 0 [(2, v0), (0, v1), (0, v2), (0, v3), (9, 0), (9, 0), (9, 0), (9, 0)] [] Sh σ := by
  unfold f_X12_tries_b0 at h
  refine E_aload_n d_X12_tries_0 rfl (by decide) ?_
  refine E_iload_n d_X12_tries_1 rfl ?_
  refine E_iload_n d_X12_tries_2 rfl ?_
  refine bd h (fun r1 q2 h => ?_)
  refine E_cV (as := [(0, v1), (0, v2)]) (st := []) (a := v0) d_X12_tries_3 mk_X12_turnedFrom nl_X12_351 (by omega) ⟨rfl, rfl, Nat.le_of_ble_eq_true rfl⟩ okX12 rfl (L_X12_turnedFrom q2) ?_
  refine E_istore d_X12_tries_6 (ls' := [(2, v0), (0, v1), (0, v2), (0, v3), (0, r1), (9, 0), (9, 0), (9, 0)]) ⟨by decide, rfl⟩ ?_
  refine E_aload_n d_X12_tries_8 rfl (by decide) ?_
  refine E_iload_n d_X12_tries_9 rfl ?_
  refine E_iload_n d_X12_tries_10 rfl ?_
  refine bd h (fun r3 q4 h => ?_)
  refine E_cV (as := [(0, v1), (0, v2)]) (st := []) (a := v0) d_X12_tries_11 mk_X12_isCondemned nl_X12_357 (by omega) ⟨rfl, rfl, Nat.le_of_ble_eq_true rfl⟩ okX12 rfl (L_X12_isCondemned q4) ?_
  refine E_istore d_X12_tries_14 (ls' := [(2, v0), (0, v1), (0, v2), (0, v3), (0, r1), (0, r3), (9, 0), (9, 0)]) ⟨by decide, rfl⟩ ?_
  refine E_aload_n d_X12_tries_16 rfl (by decide) ?_
  refine E_get d_X12_tries_17 okX12 fl_X12_35 ⟨by decide, rfl⟩ h (fun x5 h => ?_)
  refine E_iconst d_X12_tries_20 (c32 rfl) ?_
  refine E_dup2T d_X12_tries_21 (by decide) ?_
  refine E_iaload d_X12_tries_22 h (fun x6 h => ?_)
  refine E_iconst d_X12_tries_23 (c32 rfl) ?_
  refine E_iadd d_X12_tries_24 ?_
  refine E_iastore d_X12_tries_25 h (fun σ7 h => ?_)
  refine E_aload_n d_X12_tries_26 rfl (by decide) ?_
  refine E_get d_X12_tries_27 okX12 fl_X12_35 ⟨by decide, rfl⟩ h (fun x8 h => ?_)
  refine E_iconst d_X12_tries_30 (c32 rfl) ?_
  refine E_dup2T d_X12_tries_31 (by decide) ?_
  refine E_iaload d_X12_tries_32 h (fun x9 h => ?_)
  refine E_iload d_X12_tries_33 rfl ?_
  refine E_if_eq (tgt := 42) d_X12_tries_35 (by decide) h (fun _ h => ?_) (fun _ h => ?_)
  · refine E_iconst d_X12_tries_42 (c32 rfl) ?_
    exact E_weak (ls' := [(2, v0), (9, 0), (9, 0), (0, v3), (0, r1), (0, r3), (9, 0), (9, 0)]) ⟨Or.inr rfl, Or.inl rfl, Or.inl rfl, Or.inr rfl, Or.inr rfl, Or.inr rfl, Or.inl rfl, Or.inl rfl, trivial⟩ (L_X12_tries_b43 h)
  · refine E_iconst d_X12_tries_38 (c32 rfl) ?_
    refine E_goto (tgt := 43) d_X12_tries_39 (by decide) ?_
    exact E_weak (ls' := [(2, v0), (9, 0), (9, 0), (0, v3), (0, r1), (0, r3), (9, 0), (9, 0)]) ⟨Or.inr rfl, Or.inl rfl, Or.inl rfl, Or.inr rfl, Or.inr rfl, Or.inr rfl, Or.inl rfl, Or.inl rfl, trivial⟩ (L_X12_tries_b43 h)
noncomputable def f_X12_tries (v0 v1 v2 v3 : Int) (σ : Mem) : Option (Int × Mem) := if isO Sh 12 v0 = true then f_X12_tries_b0 v0 v1 v2 v3 σ else none
theorem L_X12_tries {o : Int × Mem} {v0 v1 v2 v3 : Int} {σ : Mem} (h : f_X12_tries v0 v1 v2 v3 σ = some o) : (isO Sh 12 v0 = true ∧ Cn mt_X12_tries 6 [(2, v0), (0, v1), (0, v2), (0, v3)] Sh σ (some (0, o.1)) Sh o.2) := ⟨(ite_ok h).1, Cn_of mk_X12_tries.1.2.2.1 (Nat.le_of_ble_eq_true rfl) (fun sc => L_X12_tries_b0 (ite_ok h).2)⟩
theorem d_X12_judge_0 : decode mt_X12_judge.2.1 0 = .ok (.aload_n 0, 1) := by decide +kernel
theorem d_X12_judge_1 : decode mt_X12_judge.2.1 1 = .ok (.iconst 0, 1) := by decide +kernel
theorem d_X12_judge_2 : decode mt_X12_judge.2.1 2 = .ok (.putfield 70, 3) := by decide +kernel
theorem d_X12_judge_5 : decode mt_X12_judge.2.1 5 = .ok (.aload_n 0, 1) := by decide +kernel
theorem d_X12_judge_6 : decode mt_X12_judge.2.1 6 = .ok (.aload_n 0, 1) := by decide +kernel
theorem d_X12_judge_7 : decode mt_X12_judge.2.1 7 = .ok (.iload_n 1, 1) := by decide +kernel
theorem d_X12_judge_8 : decode mt_X12_judge.2.1 8 = .ok (.iload_n 2, 1) := by decide +kernel
theorem d_X12_judge_9 : decode mt_X12_judge.2.1 9 = .ok (.invokevirtual 363, 3) := by decide +kernel
theorem d_X12_judge_12 : decode mt_X12_judge.2.1 12 = .ok (.putfield 73, 3) := by decide +kernel
theorem d_X12_judge_15 : decode mt_X12_judge.2.1 15 = .ok (.aload_n 0, 1) := by decide +kernel
theorem d_X12_judge_16 : decode mt_X12_judge.2.1 16 = .ok (.getfield 73, 3) := by decide +kernel
theorem d_X12_judge_19 : decode mt_X12_judge.2.1 19 = .ok (.ifCond .le 5, 3) := by decide +kernel
theorem d_X12_judge_22 : decode mt_X12_judge.2.1 22 = .ok (.iconst (-1), 1) := by decide +kernel
theorem d_X12_judge_23 : decode mt_X12_judge.2.1 23 = .ok (.ireturn, 1) := by decide +kernel
theorem d_X12_judge_24 : decode mt_X12_judge.2.1 24 = .ok (.aload_n 0, 1) := by decide +kernel
theorem d_X12_judge_25 : decode mt_X12_judge.2.1 25 = .ok (.getfield 35, 3) := by decide +kernel
theorem d_X12_judge_28 : decode mt_X12_judge.2.1 28 = .ok (.iconst 5, 1) := by decide +kernel
theorem d_X12_judge_29 : decode mt_X12_judge.2.1 29 = .ok (.iaload, 1) := by decide +kernel
theorem d_X12_judge_30 : decode mt_X12_judge.2.1 30 = .ok (.istore 4, 2) := by decide +kernel
theorem d_X12_judge_32 : decode mt_X12_judge.2.1 32 = .ok (.aload_n 0, 1) := by decide +kernel
theorem d_X12_judge_33 : decode mt_X12_judge.2.1 33 = .ok (.iload_n 1, 1) := by decide +kernel
theorem d_X12_judge_34 : decode mt_X12_judge.2.1 34 = .ok (.iload_n 2, 1) := by decide +kernel
theorem d_X12_judge_35 : decode mt_X12_judge.2.1 35 = .ok (.iload_n 3, 1) := by decide +kernel
theorem d_X12_judge_36 : decode mt_X12_judge.2.1 36 = .ok (.invokevirtual 366, 3) := by decide +kernel
theorem d_X12_judge_39 : decode mt_X12_judge.2.1 39 = .ok (.pop, 1) := by decide +kernel
theorem d_X12_judge_40 : decode mt_X12_judge.2.1 40 = .ok (.aload_n 0, 1) := by decide +kernel
theorem d_X12_judge_41 : decode mt_X12_judge.2.1 41 = .ok (.getfield 35, 3) := by decide +kernel
theorem d_X12_judge_44 : decode mt_X12_judge.2.1 44 = .ok (.iconst 5, 1) := by decide +kernel
theorem d_X12_judge_45 : decode mt_X12_judge.2.1 45 = .ok (.iaload, 1) := by decide +kernel
theorem d_X12_judge_46 : decode mt_X12_judge.2.1 46 = .ok (.iload 4, 2) := by decide +kernel
theorem d_X12_judge_48 : decode mt_X12_judge.2.1 48 = .ok (.isub, 1) := by decide +kernel
theorem d_X12_judge_49 : decode mt_X12_judge.2.1 49 = .ok (.ireturn, 1) := by decide +kernel
noncomputable def f_X12_judge_b0 (v0 v1 v2 v3 : Int) (σ : Mem) : Option (Int × Mem) :=
  (pf Sh σ 12 v0 1 0).bind fun σ1 =>
  (f_X12_whyNoTrial v0 v1 v2 σ1).bind fun r2 =>
  (pf Sh σ1 12 v0 0 r2).bind fun σ4 =>
  (gf Sh σ4 12 v0 0).bind fun x5 =>
  if x5 ≤ 0 then
    (gf Sh σ4 12 v0 20).bind fun x6 =>
    (al Sh σ4 20 x6 5).bind fun x7 =>
    (f_X12_tries v0 v1 v2 v3 σ4).bind fun r8 =>
    (gf Sh r8.2 12 v0 20).bind fun x10 =>
    (al Sh r8.2 20 x10 5).bind fun x11 =>
    some (w32 (x11 - x7), r8.2)
  else
    some ((-1), σ4)
theorem L_X12_judge_b0 {sc : Nat × (Nat → Int32)} {o : Int × Mem} {v0 v1 v2 v3 : Int} {σ : Mem} (h : f_X12_judge_b0 v0 v1 v2 v3 σ = some o) : E sc (Fm Sh (some (0, o.1)) Sh o.2) mt_X12_judge 7 Sh Sh 0 [(2, v0), (0, v1), (0, v2), (0, v3), (9, 0)] [] Sh σ := by
  unfold f_X12_judge_b0 at h
  refine E_aload_n d_X12_judge_0 rfl (by decide) ?_
  refine E_iconst d_X12_judge_1 (c32 rfl) ?_
  refine E_put d_X12_judge_2 okX12 fl_X12_70 ⟨by decide, rfl⟩ (Or.inl ⟨rfl, rfl⟩) (Or.inl rfl) h (fun σ1 h => ?_)
  refine E_aload_n d_X12_judge_5 rfl (by decide) ?_
  refine E_aload_n d_X12_judge_6 rfl (by decide) ?_
  refine E_iload_n d_X12_judge_7 rfl ?_
  refine E_iload_n d_X12_judge_8 rfl ?_
  refine bd h (fun r2 q3 h => ?_)
  refine E_cV (as := [(0, v1), (0, v2)]) (st := [(2, v0)]) (a := v0) d_X12_judge_9 mk_X12_whyNoTrial nl_X12_363 (by omega) ⟨rfl, rfl, Nat.le_of_ble_eq_true rfl⟩ okX12 rfl (L_X12_whyNoTrial q3) ?_
  refine E_put d_X12_judge_12 okX12 fl_X12_73 ⟨by decide, rfl⟩ (Or.inl ⟨rfl, rfl⟩) (Or.inl rfl) h (fun σ4 h => ?_)
  refine E_aload_n d_X12_judge_15 rfl (by decide) ?_
  refine E_get d_X12_judge_16 okX12 fl_X12_73 ⟨by decide, rfl⟩ h (fun x5 h => ?_)
  refine E_if_le (tgt := 24) d_X12_judge_19 (by decide) h (fun _ h => ?_) (fun _ h => ?_)
  · refine E_aload_n d_X12_judge_24 rfl (by decide) ?_
    refine E_get d_X12_judge_25 okX12 fl_X12_35 ⟨by decide, rfl⟩ h (fun x6 h => ?_)
    refine E_iconst d_X12_judge_28 (c32 rfl) ?_
    refine E_iaload d_X12_judge_29 h (fun x7 h => ?_)
    refine E_istore d_X12_judge_30 (ls' := [(2, v0), (0, v1), (0, v2), (0, v3), (0, x7)]) ⟨by decide, rfl⟩ ?_
    refine E_aload_n d_X12_judge_32 rfl (by decide) ?_
    refine E_iload_n d_X12_judge_33 rfl ?_
    refine E_iload_n d_X12_judge_34 rfl ?_
    refine E_iload_n d_X12_judge_35 rfl ?_
    refine bd h (fun r8 q9 h => ?_)
    refine E_cV (as := [(0, v1), (0, v2), (0, v3)]) (st := []) (a := v0) d_X12_judge_36 mk_X12_tries nl_X12_366 (by omega) ⟨rfl, rfl, Nat.le_of_ble_eq_true rfl⟩ okX12 rfl (L_X12_tries q9) ?_
    refine E_popT d_X12_judge_39 (by decide) ?_
    refine E_aload_n d_X12_judge_40 rfl (by decide) ?_
    refine E_get d_X12_judge_41 okX12 fl_X12_35 ⟨by decide, rfl⟩ h (fun x10 h => ?_)
    refine E_iconst d_X12_judge_44 (c32 rfl) ?_
    refine E_iaload d_X12_judge_45 h (fun x11 h => ?_)
    refine E_iload d_X12_judge_46 rfl ?_
    refine E_isub d_X12_judge_48 ?_
    cases h
    exact E_iret d_X12_judge_49 rfl
  · refine E_iconst d_X12_judge_22 (c32 rfl) ?_
    cases h
    exact E_iret d_X12_judge_23 rfl
noncomputable def f_X12_judge (v0 v1 v2 v3 : Int) (σ : Mem) : Option (Int × Mem) := if isO Sh 12 v0 = true then f_X12_judge_b0 v0 v1 v2 v3 σ else none
theorem L_X12_judge {o : Int × Mem} {v0 v1 v2 v3 : Int} {σ : Mem} (h : f_X12_judge v0 v1 v2 v3 σ = some o) : (isO Sh 12 v0 = true ∧ Cn mt_X12_judge 7 [(2, v0), (0, v1), (0, v2), (0, v3)] Sh σ (some (0, o.1)) Sh o.2) := ⟨(ite_ok h).1, Cn_of mk_X12_judge.1.2.2.1 (Nat.le_of_ble_eq_true rfl) (fun sc => L_X12_judge_b0 (ite_ok h).2)⟩
