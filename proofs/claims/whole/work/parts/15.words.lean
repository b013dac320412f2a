theorem tb_1 : ∀ w ∈ tables_1_1, w ∈ lw_tbl := fun w h => List.mem_append_right _ (show w ∈ tables_1 from List.mem_append_left _ h)
theorem tb_2 : ∀ w ∈ tables_1_2, w ∈ lw_tbl := fun w h => List.mem_append_right _ (show w ∈ tables_1 from List.mem_append_right _ (List.mem_append_left _ h))
theorem tb_3 : ∀ w ∈ tables_1_3, w ∈ lw_tbl := fun w h => List.mem_append_right _ (show w ∈ tables_1 from List.mem_append_right _ (List.mem_append_right _ (List.mem_append_left _ h)))
theorem tb_4 : ∀ w ∈ tables_1_4, w ∈ lw_tbl := fun w h => List.mem_append_right _ (show w ∈ tables_1 from List.mem_append_right _ (List.mem_append_right _ (List.mem_append_right _ (List.mem_append_left _ h))))
theorem tb_5 : ∀ w ∈ tables_1_5, w ∈ lw_tbl := fun w h => List.mem_append_right _ (show w ∈ tables_1 from List.mem_append_right _ (List.mem_append_right _ (List.mem_append_right _ (List.mem_append_right _ (List.mem_append_left _ h)))))
theorem tb_6 : ∀ w ∈ tables_1_6, w ∈ lw_tbl := fun w h => List.mem_append_right _ (show w ∈ tables_1 from List.mem_append_right _ (List.mem_append_right _ (List.mem_append_right _ (List.mem_append_right _ (List.mem_append_right _ (List.mem_append_left _ h))))))
theorem tb_7 : ∀ w ∈ tables_1_7, w ∈ lw_tbl := fun w h => List.mem_append_right _ (show w ∈ tables_1 from List.mem_append_right _ (List.mem_append_right _ (List.mem_append_right _ (List.mem_append_right _ (List.mem_append_right _ (List.mem_append_right _ (List.mem_append_left _ h)))))))
theorem tb_8 : ∀ w ∈ tables_1_8, w ∈ lw_tbl := fun w h => List.mem_append_right _ (show w ∈ tables_1 from List.mem_append_right _ (List.mem_append_right _ (List.mem_append_right _ (List.mem_append_right _ (List.mem_append_right _ (List.mem_append_right _ (List.mem_append_right _ (List.mem_append_left _ h))))))))
theorem tb_9 : ∀ w ∈ tables_1_9, w ∈ lw_tbl := fun w h => List.mem_append_right _ (show w ∈ tables_1 from List.mem_append_right _ (List.mem_append_right _ (List.mem_append_right _ (List.mem_append_right _ (List.mem_append_right _ (List.mem_append_right _ (List.mem_append_right _ (List.mem_append_right _ (h)))))))))
theorem sl_1 : ∀ q ∈ lw_privs_1, Cond.selects q.1.cls q.1 q.1 ∈ lw_tbl := fun q h => List.mem_append_left _ (List.mem_map.mpr ⟨q, show q ∈ lw_privs from List.mem_append_left _ h, rfl⟩)
theorem sl_2 : ∀ q ∈ lw_privs_2, Cond.selects q.1.cls q.1 q.1 ∈ lw_tbl := fun q h => List.mem_append_left _ (List.mem_map.mpr ⟨q, show q ∈ lw_privs from List.mem_append_right _ (List.mem_append_left _ h), rfl⟩)
theorem sl_3 : ∀ q ∈ lw_privs_3, Cond.selects q.1.cls q.1 q.1 ∈ lw_tbl := fun q h => List.mem_append_left _ (List.mem_map.mpr ⟨q, show q ∈ lw_privs from List.mem_append_right _ (List.mem_append_right _ (List.mem_append_left _ h)), rfl⟩)
theorem sl_4 : ∀ q ∈ lw_privs_4, Cond.selects q.1.cls q.1 q.1 ∈ lw_tbl := fun q h => List.mem_append_left _ (List.mem_map.mpr ⟨q, show q ∈ lw_privs from List.mem_append_right _ (List.mem_append_right _ (List.mem_append_right _ (List.mem_append_left _ h))), rfl⟩)
theorem sl_5 : ∀ q ∈ lw_privs_5, Cond.selects q.1.cls q.1 q.1 ∈ lw_tbl := fun q h => List.mem_append_left _ (List.mem_map.mpr ⟨q, show q ∈ lw_privs from List.mem_append_right _ (List.mem_append_right _ (List.mem_append_right _ (List.mem_append_right _ (List.mem_append_left _ h)))), rfl⟩)
theorem sl_6 : ∀ q ∈ lw_privs_6, Cond.selects q.1.cls q.1 q.1 ∈ lw_tbl := fun q h => List.mem_append_left _ (List.mem_map.mpr ⟨q, show q ∈ lw_privs from List.mem_append_right _ (List.mem_append_right _ (List.mem_append_right _ (List.mem_append_right _ (List.mem_append_right _ (List.mem_append_left _ h))))), rfl⟩)
theorem sl_7 : ∀ q ∈ lw_privs_7, Cond.selects q.1.cls q.1 q.1 ∈ lw_tbl := fun q h => List.mem_append_left _ (List.mem_map.mpr ⟨q, show q ∈ lw_privs from List.mem_append_right _ (List.mem_append_right _ (List.mem_append_right _ (List.mem_append_right _ (List.mem_append_right _ (List.mem_append_right _ (List.mem_append_left _ h)))))), rfl⟩)
theorem sl_8 : ∀ q ∈ lw_privs_8, Cond.selects q.1.cls q.1 q.1 ∈ lw_tbl := fun q h => List.mem_append_left _ (List.mem_map.mpr ⟨q, show q ∈ lw_privs from List.mem_append_right _ (List.mem_append_right _ (List.mem_append_right _ (List.mem_append_right _ (List.mem_append_right _ (List.mem_append_right _ (List.mem_append_right _ (List.mem_append_left _ h))))))), rfl⟩)
theorem sl_9 : ∀ q ∈ lw_privs_9, Cond.selects q.1.cls q.1 q.1 ∈ lw_tbl := fun q h => List.mem_append_left _ (List.mem_map.mpr ⟨q, show q ∈ lw_privs from List.mem_append_right _ (List.mem_append_right _ (List.mem_append_right _ (List.mem_append_right _ (List.mem_append_right _ (List.mem_append_right _ (List.mem_append_right _ (List.mem_append_right _ (List.mem_append_left _ h)))))))), rfl⟩)
theorem sl_10 : ∀ q ∈ lw_privs_10, Cond.selects q.1.cls q.1 q.1 ∈ lw_tbl := fun q h => List.mem_append_left _ (List.mem_map.mpr ⟨q, show q ∈ lw_privs from List.mem_append_right _ (List.mem_append_right _ (List.mem_append_right _ (List.mem_append_right _ (List.mem_append_right _ (List.mem_append_right _ (List.mem_append_right _ (List.mem_append_right _ (List.mem_append_right _ (List.mem_append_left _ h))))))))), rfl⟩)
theorem sl_11 : ∀ q ∈ lw_privs_11, Cond.selects q.1.cls q.1 q.1 ∈ lw_tbl := fun q h => List.mem_append_left _ (List.mem_map.mpr ⟨q, show q ∈ lw_privs from List.mem_append_right _ (List.mem_append_right _ (List.mem_append_right _ (List.mem_append_right _ (List.mem_append_right _ (List.mem_append_right _ (List.mem_append_right _ (List.mem_append_right _ (List.mem_append_right _ (List.mem_append_right _ (List.mem_append_left _ h)))))))))), rfl⟩)
theorem sl_12 : ∀ q ∈ lw_privs_12, Cond.selects q.1.cls q.1 q.1 ∈ lw_tbl := fun q h => List.mem_append_left _ (List.mem_map.mpr ⟨q, show q ∈ lw_privs from List.mem_append_right _ (List.mem_append_right _ (List.mem_append_right _ (List.mem_append_right _ (List.mem_append_right _ (List.mem_append_right _ (List.mem_append_right _ (List.mem_append_right _ (List.mem_append_right _ (List.mem_append_right _ (List.mem_append_right _ (List.mem_append_left _ h))))))))))), rfl⟩)
theorem sl_13 : ∀ q ∈ lw_privs_13, Cond.selects q.1.cls q.1 q.1 ∈ lw_tbl := fun q h => List.mem_append_left _ (List.mem_map.mpr ⟨q, show q ∈ lw_privs from List.mem_append_right _ (List.mem_append_right _ (List.mem_append_right _ (List.mem_append_right _ (List.mem_append_right _ (List.mem_append_right _ (List.mem_append_right _ (List.mem_append_right _ (List.mem_append_right _ (List.mem_append_right _ (List.mem_append_right _ (List.mem_append_right _ (List.mem_append_left _ h)))))))))))), rfl⟩)
theorem sl_14 : ∀ q ∈ lw_privs_14, Cond.selects q.1.cls q.1 q.1 ∈ lw_tbl := fun q h => List.mem_append_left _ (List.mem_map.mpr ⟨q, show q ∈ lw_privs from List.mem_append_right _ (List.mem_append_right _ (List.mem_append_right _ (List.mem_append_right _ (List.mem_append_right _ (List.mem_append_right _ (List.mem_append_right _ (List.mem_append_right _ (List.mem_append_right _ (List.mem_append_right _ (List.mem_append_right _ (List.mem_append_right _ (List.mem_append_right _ (h))))))))))))), rfl⟩)
set_option maxRecDepth 20000 in
theorem ck_X11 : Cond.initialized "ParapetCourt" ∈ lw_tbl ∧ plainName "ParapetCourt" = true ∧ ("ParapetCourt" ≠ "java/lang/invoke/MethodHandle" ∧ "ParapetCourt" ≠ "java/lang/invoke/VarHandle") := ⟨tb_1 _ (List.mem_of_getElem? (i := 1) rfl), by decide +kernel, by decide +kernel, by decide +kernel⟩
set_option maxRecDepth 20000 in
theorem ck_X0 : Cond.initialized "ParapetCourt$Cutter" ∈ lw_tbl ∧ plainName "ParapetCourt$Cutter" = true ∧ ("ParapetCourt$Cutter" ≠ "java/lang/invoke/MethodHandle" ∧ "ParapetCourt$Cutter" ≠ "java/lang/invoke/VarHandle") := ⟨tb_1 _ (List.mem_of_getElem? (i := 13) rfl), by decide +kernel, by decide +kernel, by decide +kernel⟩
set_option maxRecDepth 20000 in
theorem ck_X1 : Cond.initialized "ParapetCourt$Debate" ∈ lw_tbl ∧ plainName "ParapetCourt$Debate" = true ∧ ("ParapetCourt$Debate" ≠ "java/lang/invoke/MethodHandle" ∧ "ParapetCourt$Debate" ≠ "java/lang/invoke/VarHandle") := ⟨tb_1 _ (List.mem_of_getElem? (i := 14) rfl), by decide +kernel, by decide +kernel, by decide +kernel⟩
set_option maxRecDepth 20000 in
theorem ck_X2 : Cond.initialized "ParapetCourt$Fraction" ∈ lw_tbl ∧ plainName "ParapetCourt$Fraction" = true ∧ ("ParapetCourt$Fraction" ≠ "java/lang/invoke/MethodHandle" ∧ "ParapetCourt$Fraction" ≠ "java/lang/invoke/VarHandle") := ⟨tb_1 _ (List.mem_of_getElem? (i := 15) rfl), by decide +kernel, by decide +kernel, by decide +kernel⟩
set_option maxRecDepth 20000 in
theorem ck_X3 : Cond.initialized "ParapetCourt$Guess" ∈ lw_tbl ∧ plainName "ParapetCourt$Guess" = true ∧ ("ParapetCourt$Guess" ≠ "java/lang/invoke/MethodHandle" ∧ "ParapetCourt$Guess" ≠ "java/lang/invoke/VarHandle") := ⟨tb_1 _ (List.mem_of_getElem? (i := 12) rfl), by decide +kernel, by decide +kernel, by decide +kernel⟩
set_option maxRecDepth 20000 in
theorem ck_X4 : Cond.initialized "ParapetCourt$Life" ∈ lw_tbl ∧ plainName "ParapetCourt$Life" = true ∧ ("ParapetCourt$Life" ≠ "java/lang/invoke/MethodHandle" ∧ "ParapetCourt$Life" ≠ "java/lang/invoke/VarHandle") := ⟨tb_1 _ (List.mem_of_getElem? (i := 11) rfl), by decide +kernel, by decide +kernel, by decide +kernel⟩
set_option maxRecDepth 20000 in
theorem ck_X5 : Cond.initialized "ParapetCourt$Terms" ∈ lw_tbl ∧ plainName "ParapetCourt$Terms" = true ∧ ("ParapetCourt$Terms" ≠ "java/lang/invoke/MethodHandle" ∧ "ParapetCourt$Terms" ≠ "java/lang/invoke/VarHandle") := ⟨tb_1 _ (List.mem_of_getElem? (i := 8) rfl), by decide +kernel, by decide +kernel, by decide +kernel⟩
set_option maxRecDepth 20000 in
theorem ck_X6 : Cond.initialized "ParapetCourt$TermsReader" ∈ lw_tbl ∧ plainName "ParapetCourt$TermsReader" = true ∧ ("ParapetCourt$TermsReader" ≠ "java/lang/invoke/MethodHandle" ∧ "ParapetCourt$TermsReader" ≠ "java/lang/invoke/VarHandle") := ⟨tb_1 _ (List.mem_of_getElem? (i := 10) rfl), by decide +kernel, by decide +kernel, by decide +kernel⟩
set_option maxRecDepth 20000 in
theorem ck_X7 : Cond.initialized "ParapetCourt$Text" ∈ lw_tbl ∧ plainName "ParapetCourt$Text" = true ∧ ("ParapetCourt$Text" ≠ "java/lang/invoke/MethodHandle" ∧ "ParapetCourt$Text" ≠ "java/lang/invoke/VarHandle") := ⟨tb_1 _ (List.mem_of_getElem? (i := 2) rfl), by decide +kernel, by decide +kernel, by decide +kernel⟩
set_option maxRecDepth 20000 in
theorem ck_X8 : Cond.initialized "ParapetCourt$Tray" ∈ lw_tbl ∧ plainName "ParapetCourt$Tray" = true ∧ ("ParapetCourt$Tray" ≠ "java/lang/invoke/MethodHandle" ∧ "ParapetCourt$Tray" ≠ "java/lang/invoke/VarHandle") := ⟨tb_1 _ (List.mem_of_getElem? (i := 16) rfl), by decide +kernel, by decide +kernel, by decide +kernel⟩
set_option maxRecDepth 20000 in
theorem ck_X9 : Cond.initialized "ParapetCourt$Wall" ∈ lw_tbl ∧ plainName "ParapetCourt$Wall" = true ∧ ("ParapetCourt$Wall" ≠ "java/lang/invoke/MethodHandle" ∧ "ParapetCourt$Wall" ≠ "java/lang/invoke/VarHandle") := ⟨tb_1 _ (List.mem_of_getElem? (i := 7) rfl), by decide +kernel, by decide +kernel, by decide +kernel⟩
set_option maxRecDepth 20000 in
theorem ck_X10 : Cond.initialized "ParapetCourt$WallReader" ∈ lw_tbl ∧ plainName "ParapetCourt$WallReader" = true ∧ ("ParapetCourt$WallReader" ≠ "java/lang/invoke/MethodHandle" ∧ "ParapetCourt$WallReader" ≠ "java/lang/invoke/VarHandle") := ⟨tb_1 _ (List.mem_of_getElem? (i := 9) rfl), by decide +kernel, by decide +kernel, by decide +kernel⟩
set_option maxRecDepth 20000 in
theorem ck_X12 : Cond.initialized "ParapetCourtModel" ∈ lw_tbl ∧ plainName "ParapetCourtModel" = true ∧ ("ParapetCourtModel" ≠ "java/lang/invoke/MethodHandle" ∧ "ParapetCourtModel" ≠ "java/lang/invoke/VarHandle") := ⟨tb_1 _ (List.mem_of_getElem? (i := 17) rfl), by decide +kernel, by decide +kernel, by decide +kernel⟩
set_option maxRecDepth 20000 in
theorem ck_JI : Cond.initialized "java/lang/Integer" ∈ lw_tbl ∧ plainName "java/lang/Integer" = true ∧ ("java/lang/Integer" ≠ "java/lang/invoke/MethodHandle" ∧ "java/lang/Integer" ≠ "java/lang/invoke/VarHandle") := ⟨tb_1 _ (List.mem_of_getElem? (i := 20) rfl), by decide +kernel, by decide +kernel, by decide +kernel⟩
set_option maxRecDepth 20000 in
theorem fl_X0_15 : FL "ParapetCourt$Cutter" 15 (TX0 1) := Or.inl (tb_2 _ (List.mem_of_getElem? (i := 141) rfl))
set_option maxRecDepth 20000 in
theorem fl_X0_19 : FL "ParapetCourt$Cutter" 19 (TX0 2) := Or.inl (tb_2 _ (List.mem_of_getElem? (i := 142) rfl))
set_option maxRecDepth 20000 in
theorem fl_X0_22 : FL "ParapetCourt$Cutter" 22 (TX0 5) := Or.inl (tb_2 _ (List.mem_of_getElem? (i := 145) rfl))
set_option maxRecDepth 20000 in
theorem fl_X0_32 : FL "ParapetCourt$Cutter" 32 (TX0 6) := Or.inl (tb_2 _ (List.mem_of_getElem? (i := 146) rfl))
set_option maxRecDepth 20000 in
theorem fl_X0_35 : FL "ParapetCourt$Cutter" 35 (TX0 3) := Or.inl (tb_2 _ (List.mem_of_getElem? (i := 143) rfl))
set_option maxRecDepth 20000 in
theorem fl_X0_38 : FL "ParapetCourt$Cutter" 38 (TX0 4) := Or.inl (tb_2 _ (List.mem_of_getElem? (i := 144) rfl))
set_option maxRecDepth 20000 in
theorem fl_X0_46 : FL "ParapetCourt$Cutter" 46 (TX0 9) := Or.inl (tb_2 _ (List.mem_of_getElem? (i := 149) rfl))
set_option maxRecDepth 20000 in
theorem fl_X0_52 : FL "ParapetCourt$Cutter" 52 (TX0 7) := Or.inl (tb_2 _ (List.mem_of_getElem? (i := 147) rfl))
set_option maxRecDepth 20000 in
theorem fl_X0_55 : FL "ParapetCourt$Cutter" 55 (TX0 8) := Or.inl (tb_2 _ (List.mem_of_getElem? (i := 148) rfl))
set_option maxRecDepth 20000 in
theorem fl_X0_9 : FL "ParapetCourt$Cutter" 9 (TX0 0) := Or.inl (tb_2 _ (List.mem_of_getElem? (i := 140) rfl))
set_option maxRecDepth 20000 in
theorem fl_X10_102 : FL "ParapetCourt$WallReader" 102 (TX9 7) := Or.inr ⟨"ParapetCourt", tb_1 _ (List.mem_of_getElem? (i := 159) rfl)⟩
set_option maxRecDepth 20000 in
theorem fl_X10_12 : FL "ParapetCourt$WallReader" 12 (TX10 1) := Or.inl (tb_2 _ (List.mem_of_getElem? (i := 28) rfl))
set_option maxRecDepth 20000 in
theorem fl_X10_18 : FL "ParapetCourt$WallReader" 18 (TX10 0) := Or.inl (tb_2 _ (List.mem_of_getElem? (i := 27) rfl))
set_option maxRecDepth 20000 in
theorem fl_X10_25 : FL "ParapetCourt$WallReader" 25 (TX10 2) := Or.inl (tb_2 _ (List.mem_of_getElem? (i := 30) rfl))
set_option maxRecDepth 20000 in
theorem fl_X10_61 : FL "ParapetCourt$WallReader" 61 (TX7 9) := Or.inr ⟨"ParapetCourt", tb_1 _ (List.mem_of_getElem? (i := 99) rfl)⟩
set_option maxRecDepth 20000 in
theorem fl_X10_65 : FL "ParapetCourt$WallReader" 65 (TX9 11) := Or.inr ⟨"ParapetCourt", tb_1 _ (List.mem_of_getElem? (i := 168) rfl)⟩
set_option maxRecDepth 20000 in
theorem fl_X10_74 : FL "ParapetCourt$WallReader" 74 (TX7 6) := Or.inr ⟨"ParapetCourt", tb_1 _ (List.mem_of_getElem? (i := 93) rfl)⟩
set_option maxRecDepth 20000 in
theorem fl_X10_92 : FL "ParapetCourt$WallReader" 92 (TX9 0) := Or.inr ⟨"ParapetCourt", tb_1 _ (List.mem_of_getElem? (i := 141) rfl)⟩
set_option maxRecDepth 20000 in
theorem fl_X11_102 : FL "ParapetCourt" 102 (TX11 14) := Or.inl (tb_3 _ (List.mem_of_getElem? (i := 1) rfl))
set_option maxRecDepth 20000 in
theorem fl_X11_109 : FL "ParapetCourt" 109 (TX11 15) := Or.inl (tb_3 _ (List.mem_of_getElem? (i := 2) rfl))
set_option maxRecDepth 20000 in
theorem fl_X11_11 : FL "ParapetCourt" 11 (TX11 0) := Or.inl (tb_2 _ (List.mem_of_getElem? (i := 227) rfl))
set_option maxRecDepth 20000 in
theorem fl_X11_114 : FL "ParapetCourt" 114 (TX11 19) := Or.inl (tb_3 _ (List.mem_of_getElem? (i := 6) rfl))
set_option maxRecDepth 20000 in
theorem fl_X11_118 : FL "ParapetCourt" 118 (TX2 0) := Or.inr ⟨"ParapetCourt", tb_2 _ (List.mem_of_getElem? (i := 201) rfl)⟩
set_option maxRecDepth 20000 in
theorem fl_X11_122 : FL "ParapetCourt" 122 (TX2 1) := Or.inr ⟨"ParapetCourt", tb_2 _ (List.mem_of_getElem? (i := 203) rfl)⟩
set_option maxRecDepth 20000 in
theorem fl_X11_149 : FL "ParapetCourt" 149 (TX8 0) := Or.inr ⟨"ParapetCourt", tb_2 _ (List.mem_of_getElem? (i := 215) rfl)⟩
set_option maxRecDepth 20000 in
theorem fl_X11_15 : FL "ParapetCourt" 15 (TX11 1) := Or.inl (tb_2 _ (List.mem_of_getElem? (i := 228) rfl))
set_option maxRecDepth 20000 in
theorem fl_X11_167 : FL "ParapetCourt" 167 (TX8 1) := Or.inr ⟨"ParapetCourt", tb_2 _ (List.mem_of_getElem? (i := 217) rfl)⟩
set_option maxRecDepth 20000 in
theorem fl_X11_174 : FL "ParapetCourt" 174 (TX11 16) := Or.inl (tb_3 _ (List.mem_of_getElem? (i := 3) rfl))
set_option maxRecDepth 20000 in
theorem fl_X11_187 : FL "ParapetCourt" 187 (TX10 1) := Or.inr ⟨"ParapetCourt", tb_2 _ (List.mem_of_getElem? (i := 29) rfl)⟩
set_option maxRecDepth 20000 in
theorem fl_X11_196 : FL "ParapetCourt" 196 (TX9 0) := Or.inr ⟨"ParapetCourt", tb_1 _ (List.mem_of_getElem? (i := 145) rfl)⟩
set_option maxRecDepth 20000 in
theorem fl_X11_200 : FL "ParapetCourt" 200 (TX6 2) := Or.inr ⟨"ParapetCourt", tb_2 _ (List.mem_of_getElem? (i := 49) rfl)⟩
set_option maxRecDepth 20000 in
theorem fl_X11_205 : FL "ParapetCourt" 205 (TX5 1) := Or.inr ⟨"ParapetCourt", tb_1 _ (List.mem_of_getElem? (i := 228) rfl)⟩
set_option maxRecDepth 20000 in
theorem fl_X11_208 : FL "ParapetCourt" 208 (TX7 10) := Or.inr ⟨"ParapetCourt", tb_1 _ (List.mem_of_getElem? (i := 103) rfl)⟩
set_option maxRecDepth 20000 in
theorem fl_X11_211 : FL "ParapetCourt" 211 (TX7 11) := Or.inr ⟨"ParapetCourt", tb_1 _ (List.mem_of_getElem? (i := 105) rfl)⟩
set_option maxRecDepth 20000 in
theorem fl_X11_218 : FL "ParapetCourt" 218 (TX9 7) := Or.inr ⟨"ParapetCourt", tb_1 _ (List.mem_of_getElem? (i := 160) rfl)⟩
set_option maxRecDepth 20000 in
theorem fl_X11_221 : FL "ParapetCourt" 221 (TX9 11) := Or.inr ⟨"ParapetCourt", tb_1 _ (List.mem_of_getElem? (i := 170) rfl)⟩
set_option maxRecDepth 20000 in
theorem fl_X11_224 : FL "ParapetCourt" 224 (TX9 12) := Or.inr ⟨"ParapetCourt", tb_1 _ (List.mem_of_getElem? (i := 173) rfl)⟩
set_option maxRecDepth 20000 in
theorem fl_X11_227 : FL "ParapetCourt" 227 (TX9 13) := Or.inr ⟨"ParapetCourt", tb_1 _ (List.mem_of_getElem? (i := 175) rfl)⟩
set_option maxRecDepth 20000 in
theorem fl_X11_230 : FL "ParapetCourt" 230 (TX9 14) := Or.inr ⟨"ParapetCourt", tb_1 _ (List.mem_of_getElem? (i := 178) rfl)⟩
set_option maxRecDepth 20000 in
theorem fl_X11_233 : FL "ParapetCourt" 233 (TX9 15) := Or.inr ⟨"ParapetCourt", tb_1 _ (List.mem_of_getElem? (i := 181) rfl)⟩
set_option maxRecDepth 20000 in
theorem fl_X11_236 : FL "ParapetCourt" 236 (TX9 1) := Or.inr ⟨"ParapetCourt", tb_1 _ (List.mem_of_getElem? (i := 147) rfl)⟩
set_option maxRecDepth 20000 in
theorem fl_X11_24 : FL "ParapetCourt" 24 (TX11 2) := Or.inl (tb_2 _ (List.mem_of_getElem? (i := 229) rfl))
set_option maxRecDepth 20000 in
theorem fl_X11_246 : FL "ParapetCourt" 246 (TX9 2) := Or.inr ⟨"ParapetCourt", tb_1 _ (List.mem_of_getElem? (i := 150) rfl)⟩
set_option maxRecDepth 20000 in
theorem fl_X11_250 : FL "ParapetCourt" 250 (TX9 3) := Or.inr ⟨"ParapetCourt", tb_1 _ (List.mem_of_getElem? (i := 153) rfl)⟩
set_option maxRecDepth 20000 in
theorem fl_X11_253 : FL "ParapetCourt" 253 (TX9 4) := Or.inr ⟨"ParapetCourt", tb_1 _ (List.mem_of_getElem? (i := 155) rfl)⟩
set_option maxRecDepth 20000 in
theorem fl_X11_267 : FL "ParapetCourt" 267 (TX9 8) := Or.inr ⟨"ParapetCourt", tb_1 _ (List.mem_of_getElem? (i := 163) rfl)⟩
set_option maxRecDepth 20000 in
theorem fl_X11_270 : FL "ParapetCourt" 270 (TX9 9) := Or.inr ⟨"ParapetCourt", tb_1 _ (List.mem_of_getElem? (i := 165) rfl)⟩
set_option maxRecDepth 20000 in
theorem fl_X11_31 : FL "ParapetCourt" 31 (TX11 3) := Or.inl (tb_2 _ (List.mem_of_getElem? (i := 230) rfl))
set_option maxRecDepth 20000 in
theorem fl_X11_350 : FL "ParapetCourt" 350 (TX3 0) := Or.inr ⟨"ParapetCourt", tb_2 _ (List.mem_of_getElem? (i := 118) rfl)⟩
set_option maxRecDepth 20000 in
theorem fl_X11_353 : FL "ParapetCourt" 353 (TX3 1) := Or.inr ⟨"ParapetCourt", tb_2 _ (List.mem_of_getElem? (i := 120) rfl)⟩
set_option maxRecDepth 20000 in
theorem fl_X11_359 : FL "ParapetCourt" 359 (TX3 2) := Or.inr ⟨"ParapetCourt", tb_2 _ (List.mem_of_getElem? (i := 122) rfl)⟩
set_option maxRecDepth 20000 in
theorem fl_X11_362 : FL "ParapetCourt" 362 (TX3 3) := Or.inr ⟨"ParapetCourt", tb_2 _ (List.mem_of_getElem? (i := 124) rfl)⟩
set_option maxRecDepth 20000 in
theorem fl_X11_376 : FL "ParapetCourt" 376 (TX8 2) := Or.inr ⟨"ParapetCourt", tb_2 _ (List.mem_of_getElem? (i := 219) rfl)⟩
set_option maxRecDepth 20000 in
theorem fl_X11_38 : FL "ParapetCourt" 38 (TX11 4) := Or.inl (tb_2 _ (List.mem_of_getElem? (i := 231) rfl))
set_option maxRecDepth 20000 in
theorem fl_X11_382 : FL "ParapetCourt" 382 (TX0 9) := Or.inr ⟨"ParapetCourt", tb_2 _ (List.mem_of_getElem? (i := 150) rfl)⟩
set_option maxRecDepth 20000 in
theorem fl_X11_446 : FL "ParapetCourt" 446 (TX11 18) := Or.inl (tb_3 _ (List.mem_of_getElem? (i := 5) rfl))
set_option maxRecDepth 20000 in
theorem fl_X11_450 : FL "ParapetCourt" 450 (TX4 4) := Or.inr ⟨"ParapetCourt", tb_2 _ (List.mem_of_getElem? (i := 79) rfl)⟩
set_option maxRecDepth 20000 in
theorem fl_X11_453 : FL "ParapetCourt" 453 (TX4 5) := Or.inr ⟨"ParapetCourt", tb_2 _ (List.mem_of_getElem? (i := 81) rfl)⟩
set_option maxRecDepth 20000 in
theorem fl_X11_456 : FL "ParapetCourt" 456 (TX4 6) := Or.inr ⟨"ParapetCourt", tb_2 _ (List.mem_of_getElem? (i := 83) rfl)⟩
set_option maxRecDepth 20000 in
theorem fl_X11_459 : FL "ParapetCourt" 459 (TX4 7) := Or.inr ⟨"ParapetCourt", tb_2 _ (List.mem_of_getElem? (i := 85) rfl)⟩
set_option maxRecDepth 20000 in
theorem fl_X11_460 : FL "ParapetCourt" 460 (TX4 8) := Or.inr ⟨"ParapetCourt", tb_2 _ (List.mem_of_getElem? (i := 87) rfl)⟩
set_option maxRecDepth 20000 in
theorem fl_X11_461 : FL "ParapetCourt" 461 (TX4 9) := Or.inr ⟨"ParapetCourt", tb_2 _ (List.mem_of_getElem? (i := 89) rfl)⟩
set_option maxRecDepth 20000 in
theorem fl_X11_464 : FL "ParapetCourt" 464 (TX5 0) := Or.inr ⟨"ParapetCourt", tb_1 _ (List.mem_of_getElem? (i := 225) rfl)⟩
set_option maxRecDepth 20000 in
theorem fl_X11_467 : FL "ParapetCourt" 467 (TX11 17) := Or.inl (tb_3 _ (List.mem_of_getElem? (i := 4) rfl))
set_option maxRecDepth 20000 in
theorem fl_X11_47 : FL "ParapetCourt" 47 (TX11 5) := Or.inl (tb_2 _ (List.mem_of_getElem? (i := 232) rfl))
set_option maxRecDepth 20000 in
theorem fl_X11_56 : FL "ParapetCourt" 56 (TX11 6) := Or.inl (tb_2 _ (List.mem_of_getElem? (i := 233) rfl))
set_option maxRecDepth 20000 in
theorem fl_X11_60 : FL "ParapetCourt" 60 (TX11 7) := Or.inl (tb_2 _ (List.mem_of_getElem? (i := 234) rfl))
set_option maxRecDepth 20000 in
theorem fl_X11_64 : FL "ParapetCourt" 64 (TX11 8) := Or.inl (tb_2 _ (List.mem_of_getElem? (i := 235) rfl))
set_option maxRecDepth 20000 in
theorem fl_X11_73 : FL "ParapetCourt" 73 (TX11 9) := Or.inl (tb_2 _ (List.mem_of_getElem? (i := 236) rfl))
set_option maxRecDepth 20000 in
theorem fl_X11_77 : FL "ParapetCourt" 77 (TX11 10) := Or.inl (tb_2 _ (List.mem_of_getElem? (i := 237) rfl))
set_option maxRecDepth 20000 in
theorem fl_X11_80 : FL "ParapetCourt" 80 (TX11 11) := Or.inl (tb_2 _ (List.mem_of_getElem? (i := 238) rfl))
set_option maxRecDepth 20000 in
theorem fl_X11_86 : FL "ParapetCourt" 86 (TX11 12) := Or.inl (tb_2 _ (List.mem_of_getElem? (i := 239) rfl))
set_option maxRecDepth 20000 in
theorem fl_X11_93 : FL "ParapetCourt" 93 (TX11 13) := Or.inl (tb_3 _ (List.mem_of_getElem? (i := 0) rfl))
set_option maxRecDepth 20000 in
theorem fl_X12_112 : FL "ParapetCourtModel" 112 (TX12 9) := Or.inl (tb_6 _ (List.mem_of_getElem? (i := 144) rfl))
set_option maxRecDepth 20000 in
theorem fl_X12_115 : FL "ParapetCourtModel" 115 (TX12 16) := Or.inl (tb_6 _ (List.mem_of_getElem? (i := 151) rfl))
set_option maxRecDepth 20000 in
theorem fl_X12_118 : FL "ParapetCourtModel" 118 (TX12 15) := Or.inl (tb_6 _ (List.mem_of_getElem? (i := 150) rfl))
set_option maxRecDepth 20000 in
theorem fl_X12_124 : FL "ParapetCourtModel" 124 (TX12 14) := Or.inl (tb_6 _ (List.mem_of_getElem? (i := 149) rfl))
set_option maxRecDepth 20000 in
theorem fl_X12_13 : FL "ParapetCourtModel" 13 (TX12 4) := Or.inl (tb_6 _ (List.mem_of_getElem? (i := 139) rfl))
set_option maxRecDepth 20000 in
theorem fl_X12_130 : FL "ParapetCourtModel" 130 (TX12 19) := Or.inl (tb_6 _ (List.mem_of_getElem? (i := 154) rfl))
set_option maxRecDepth 20000 in
theorem fl_X12_137 : FL "ParapetCourtModel" 137 (TX12 18) := Or.inl (tb_6 _ (List.mem_of_getElem? (i := 153) rfl))
set_option maxRecDepth 20000 in
theorem fl_X12_143 : FL "ParapetCourtModel" 143 (TX12 17) := Or.inl (tb_6 _ (List.mem_of_getElem? (i := 152) rfl))
set_option maxRecDepth 20000 in
theorem fl_X12_17 : FL "ParapetCourtModel" 17 (TX12 5) := Or.inl (tb_6 _ (List.mem_of_getElem? (i := 140) rfl))
set_option maxRecDepth 20000 in
theorem fl_X12_20 : FL "ParapetCourtModel" 20 (TX12 6) := Or.inl (tb_6 _ (List.mem_of_getElem? (i := 141) rfl))
set_option maxRecDepth 20000 in
theorem fl_X12_200 : FL "ParapetCourtModel" 200 (TX12 12) := Or.inl (tb_6 _ (List.mem_of_getElem? (i := 147) rfl))
set_option maxRecDepth 20000 in
theorem fl_X12_203 : FL "ParapetCourtModel" 203 (TX12 13) := Or.inl (tb_6 _ (List.mem_of_getElem? (i := 148) rfl))
set_option maxRecDepth 20000 in
theorem fl_X12_223 : FL "ParapetCourtModel" 223 (TX12 8) := Or.inl (tb_6 _ (List.mem_of_getElem? (i := 143) rfl))
set_option maxRecDepth 20000 in
theorem fl_X12_238 : FL "ParapetCourtModel" 238 (TX12 24) := Or.inl (tb_6 _ (List.mem_of_getElem? (i := 159) rfl))
set_option maxRecDepth 20000 in
theorem fl_X12_24 : FL "ParapetCourtModel" 24 (TX12 7) := Or.inl (tb_6 _ (List.mem_of_getElem? (i := 142) rfl))
set_option maxRecDepth 20000 in
theorem fl_X12_28 : FL "ParapetCourtModel" 28 (TX12 10) := Or.inl (tb_6 _ (List.mem_of_getElem? (i := 145) rfl))
set_option maxRecDepth 20000 in
theorem fl_X12_296 : FL "ParapetCourtModel" 296 (TX12 25) := Or.inl (tb_6 _ (List.mem_of_getElem? (i := 160) rfl))
set_option maxRecDepth 20000 in
theorem fl_X12_32 : FL "ParapetCourtModel" 32 (TX12 11) := Or.inl (tb_6 _ (List.mem_of_getElem? (i := 146) rfl))
set_option maxRecDepth 20000 in
theorem fl_X12_35 : FL "ParapetCourtModel" 35 (TX12 20) := Or.inl (tb_6 _ (List.mem_of_getElem? (i := 155) rfl))
set_option maxRecDepth 20000 in
theorem fl_X12_38 : FL "ParapetCourtModel" 38 (TX12 21) := Or.inl (tb_6 _ (List.mem_of_getElem? (i := 156) rfl))
set_option maxRecDepth 20000 in
theorem fl_X12_395 : FL "ParapetCourtModel" 395 (TX12 28) := Or.inl (tb_6 _ (List.mem_of_getElem? (i := 163) rfl))
set_option maxRecDepth 20000 in
theorem fl_X12_41 : FL "ParapetCourtModel" 41 (TX12 22) := Or.inl (tb_6 _ (List.mem_of_getElem? (i := 157) rfl))
set_option maxRecDepth 20000 in
theorem fl_X12_433 : FL "ParapetCourtModel" 433 (TX12 32) := Or.inl (tb_6 _ (List.mem_of_getElem? (i := 167) rfl))
set_option maxRecDepth 20000 in
theorem fl_X12_44 : FL "ParapetCourtModel" 44 (TX12 26) := Or.inl (tb_6 _ (List.mem_of_getElem? (i := 161) rfl))
set_option maxRecDepth 20000 in
theorem fl_X12_447 : FL "ParapetCourtModel" 447 (TX12 33) := Or.inl (tb_6 _ (List.mem_of_getElem? (i := 168) rfl))
set_option maxRecDepth 20000 in
theorem fl_X12_459 : FL "ParapetCourtModel" 459 (TX12 38) := Or.inl (tb_6 _ (List.mem_of_getElem? (i := 173) rfl))
set_option maxRecDepth 20000 in
theorem fl_X12_463 : FL "ParapetCourtModel" 463 (TX12 41) := Or.inl (tb_6 _ (List.mem_of_getElem? (i := 176) rfl))
set_option maxRecDepth 20000 in
theorem fl_X12_47 : FL "ParapetCourtModel" 47 (TX12 27) := Or.inl (tb_6 _ (List.mem_of_getElem? (i := 162) rfl))
set_option maxRecDepth 20000 in
theorem fl_X12_478 : FL "ParapetCourtModel" 478 (TX12 39) := Or.inl (tb_6 _ (List.mem_of_getElem? (i := 174) rfl))
set_option maxRecDepth 20000 in
theorem fl_X12_481 : FL "ParapetCourtModel" 481 (TX12 37) := Or.inl (tb_6 _ (List.mem_of_getElem? (i := 172) rfl))
set_option maxRecDepth 20000 in
theorem fl_X12_484 : FL "ParapetCourtModel" 484 (TX12 44) := Or.inl (tb_6 _ (List.mem_of_getElem? (i := 179) rfl))
set_option maxRecDepth 20000 in
theorem fl_X12_487 : FL "ParapetCourtModel" 487 (TX12 40) := Or.inl (tb_6 _ (List.mem_of_getElem? (i := 175) rfl))
set_option maxRecDepth 20000 in
theorem fl_X12_502 : FL "ParapetCourtModel" 502 (TX12 42) := Or.inl (tb_6 _ (List.mem_of_getElem? (i := 177) rfl))
set_option maxRecDepth 20000 in
theorem fl_X12_505 : FL "ParapetCourtModel" 505 (TX12 43) := Or.inl (tb_6 _ (List.mem_of_getElem? (i := 178) rfl))
set_option maxRecDepth 20000 in
theorem fl_X12_51 : FL "ParapetCourtModel" 51 (TX12 29) := Or.inl (tb_6 _ (List.mem_of_getElem? (i := 164) rfl))
set_option maxRecDepth 20000 in
theorem fl_X12_513 : FL "ParapetCourtModel" 513 (TX12 36) := Or.inl (tb_6 _ (List.mem_of_getElem? (i := 171) rfl))
set_option maxRecDepth 20000 in
theorem fl_X12_516 : FL "ParapetCourtModel" 516 (TX12 23) := Or.inl (tb_6 _ (List.mem_of_getElem? (i := 158) rfl))
set_option maxRecDepth 20000 in
theorem fl_X12_54 : FL "ParapetCourtModel" 54 (TX12 30) := Or.inl (tb_6 _ (List.mem_of_getElem? (i := 165) rfl))
set_option maxRecDepth 20000 in
theorem fl_X12_57 : FL "ParapetCourtModel" 57 (TX12 31) := Or.inl (tb_6 _ (List.mem_of_getElem? (i := 166) rfl))
set_option maxRecDepth 20000 in
theorem fl_X12_60 : FL "ParapetCourtModel" 60 (TX12 34) := Or.inl (tb_6 _ (List.mem_of_getElem? (i := 169) rfl))
set_option maxRecDepth 20000 in
theorem fl_X12_63 : FL "ParapetCourtModel" 63 (TX12 35) := Or.inl (tb_6 _ (List.mem_of_getElem? (i := 170) rfl))
set_option maxRecDepth 20000 in
theorem fl_X12_7 : FL "ParapetCourtModel" 7 (TX12 3) := Or.inl (tb_6 _ (List.mem_of_getElem? (i := 138) rfl))
set_option maxRecDepth 20000 in
theorem fl_X12_70 : FL "ParapetCourtModel" 70 (TX12 1) := Or.inl (tb_6 _ (List.mem_of_getElem? (i := 136) rfl))
set_option maxRecDepth 20000 in
theorem fl_X12_73 : FL "ParapetCourtModel" 73 (TX12 0) := Or.inl (tb_6 _ (List.mem_of_getElem? (i := 135) rfl))
set_option maxRecDepth 20000 in
theorem fl_X12_76 : FL "ParapetCourtModel" 76 (TX12 2) := Or.inl (tb_6 _ (List.mem_of_getElem? (i := 137) rfl))
set_option maxRecDepth 20000 in
theorem fl_X1_15 : FL "ParapetCourt$Debate" 15 (TX1 1) := Or.inl (tb_2 _ (List.mem_of_getElem? (i := 179) rfl))
set_option maxRecDepth 20000 in
theorem fl_X1_19 : FL "ParapetCourt$Debate" 19 (TX1 2) := Or.inl (tb_2 _ (List.mem_of_getElem? (i := 180) rfl))
set_option maxRecDepth 20000 in
theorem fl_X1_22 : FL "ParapetCourt$Debate" 22 (TX1 3) := Or.inl (tb_2 _ (List.mem_of_getElem? (i := 181) rfl))
set_option maxRecDepth 20000 in
theorem fl_X1_25 : FL "ParapetCourt$Debate" 25 (TX1 4) := Or.inl (tb_2 _ (List.mem_of_getElem? (i := 182) rfl))
set_option maxRecDepth 20000 in
theorem fl_X1_28 : FL "ParapetCourt$Debate" 28 (TX9 0) := Or.inr ⟨"ParapetCourt", tb_1 _ (List.mem_of_getElem? (i := 140) rfl)⟩
set_option maxRecDepth 20000 in
theorem fl_X1_9 : FL "ParapetCourt$Debate" 9 (TX1 0) := Or.inl (tb_2 _ (List.mem_of_getElem? (i := 178) rfl))
set_option maxRecDepth 20000 in
theorem fl_X2_19 : FL "ParapetCourt$Fraction" 19 (TX2 0) := Or.inl (tb_2 _ (List.mem_of_getElem? (i := 200) rfl))
set_option maxRecDepth 20000 in
theorem fl_X2_9 : FL "ParapetCourt$Fraction" 9 (TX2 1) := Or.inl (tb_2 _ (List.mem_of_getElem? (i := 202) rfl))
set_option maxRecDepth 20000 in
theorem fl_X3_15 : FL "ParapetCourt$Guess" 15 (TX3 1) := Or.inl (tb_2 _ (List.mem_of_getElem? (i := 119) rfl))
set_option maxRecDepth 20000 in
theorem fl_X3_27 : FL "ParapetCourt$Guess" 27 (TX9 0) := Or.inr ⟨"ParapetCourt", tb_1 _ (List.mem_of_getElem? (i := 142) rfl)⟩
set_option maxRecDepth 20000 in
theorem fl_X3_44 : FL "ParapetCourt$Guess" 44 (TX3 2) := Or.inl (tb_2 _ (List.mem_of_getElem? (i := 121) rfl))
set_option maxRecDepth 20000 in
theorem fl_X3_47 : FL "ParapetCourt$Guess" 47 (TX3 3) := Or.inl (tb_2 _ (List.mem_of_getElem? (i := 123) rfl))
set_option maxRecDepth 20000 in
theorem fl_X3_9 : FL "ParapetCourt$Guess" 9 (TX3 0) := Or.inl (tb_2 _ (List.mem_of_getElem? (i := 117) rfl))
set_option maxRecDepth 20000 in
theorem fl_X4_102 : FL "ParapetCourt$Life" 102 (TX9 3) := Or.inr ⟨"ParapetCourt", tb_1 _ (List.mem_of_getElem? (i := 152) rfl)⟩
set_option maxRecDepth 20000 in
theorem fl_X4_130 : FL "ParapetCourt$Life" 130 (TX9 0) := Or.inr ⟨"ParapetCourt", tb_1 _ (List.mem_of_getElem? (i := 144) rfl)⟩
set_option maxRecDepth 20000 in
theorem fl_X4_136 : FL "ParapetCourt$Life" 136 (TX9 11) := Or.inr ⟨"ParapetCourt", tb_1 _ (List.mem_of_getElem? (i := 169) rfl)⟩
set_option maxRecDepth 20000 in
theorem fl_X4_140 : FL "ParapetCourt$Life" 140 (TX9 2) := Or.inr ⟨"ParapetCourt", tb_1 _ (List.mem_of_getElem? (i := 149) rfl)⟩
set_option maxRecDepth 20000 in
theorem fl_X4_146 : FL "ParapetCourt$Life" 146 (TX9 8) := Or.inr ⟨"ParapetCourt", tb_1 _ (List.mem_of_getElem? (i := 162) rfl)⟩
set_option maxRecDepth 20000 in
theorem fl_X4_15 : FL "ParapetCourt$Life" 15 (TX4 0) := Or.inl (tb_2 _ (List.mem_of_getElem? (i := 74) rfl))
set_option maxRecDepth 20000 in
theorem fl_X4_19 : FL "ParapetCourt$Life" 19 (TX4 1) := Or.inl (tb_2 _ (List.mem_of_getElem? (i := 75) rfl))
set_option maxRecDepth 20000 in
theorem fl_X4_23 : FL "ParapetCourt$Life" 23 (TX4 3) := Or.inl (tb_2 _ (List.mem_of_getElem? (i := 77) rfl))
set_option maxRecDepth 20000 in
theorem fl_X4_27 : FL "ParapetCourt$Life" 27 (TX4 4) := Or.inl (tb_2 _ (List.mem_of_getElem? (i := 78) rfl))
set_option maxRecDepth 20000 in
theorem fl_X4_30 : FL "ParapetCourt$Life" 30 (TX4 5) := Or.inl (tb_2 _ (List.mem_of_getElem? (i := 80) rfl))
set_option maxRecDepth 20000 in
theorem fl_X4_33 : FL "ParapetCourt$Life" 33 (TX9 12) := Or.inr ⟨"ParapetCourt", tb_1 _ (List.mem_of_getElem? (i := 171) rfl)⟩
set_option maxRecDepth 20000 in
theorem fl_X4_38 : FL "ParapetCourt$Life" 38 (TX4 6) := Or.inl (tb_2 _ (List.mem_of_getElem? (i := 82) rfl))
set_option maxRecDepth 20000 in
theorem fl_X4_41 : FL "ParapetCourt$Life" 41 (TX9 14) := Or.inr ⟨"ParapetCourt", tb_1 _ (List.mem_of_getElem? (i := 176) rfl)⟩
set_option maxRecDepth 20000 in
theorem fl_X4_44 : FL "ParapetCourt$Life" 44 (TX4 7) := Or.inl (tb_2 _ (List.mem_of_getElem? (i := 84) rfl))
set_option maxRecDepth 20000 in
theorem fl_X4_45 : FL "ParapetCourt$Life" 45 (TX9 15) := Or.inr ⟨"ParapetCourt", tb_1 _ (List.mem_of_getElem? (i := 180) rfl)⟩
set_option maxRecDepth 20000 in
theorem fl_X4_48 : FL "ParapetCourt$Life" 48 (TX4 8) := Or.inl (tb_2 _ (List.mem_of_getElem? (i := 86) rfl))
set_option maxRecDepth 20000 in
theorem fl_X4_49 : FL "ParapetCourt$Life" 49 (TX4 9) := Or.inl (tb_2 _ (List.mem_of_getElem? (i := 88) rfl))
set_option maxRecDepth 20000 in
theorem fl_X4_54 : FL "ParapetCourt$Life" 54 (TX5 2) := Or.inr ⟨"ParapetCourt", tb_1 _ (List.mem_of_getElem? (i := 230) rfl)⟩
set_option maxRecDepth 20000 in
theorem fl_X4_59 : FL "ParapetCourt$Life" 59 (TX5 3) := Or.inr ⟨"ParapetCourt", tb_1 _ (List.mem_of_getElem? (i := 233) rfl)⟩
set_option maxRecDepth 20000 in
theorem fl_X4_70 : FL "ParapetCourt$Life" 70 (TX5 7) := Or.inr ⟨"ParapetCourt", tb_2 _ (List.mem_of_getElem? (i := 1) rfl)⟩
set_option maxRecDepth 20000 in
theorem fl_X4_73 : FL "ParapetCourt$Life" 73 (TX5 4) := Or.inr ⟨"ParapetCourt", tb_1 _ (List.mem_of_getElem? (i := 235) rfl)⟩
set_option maxRecDepth 20000 in
theorem fl_X4_9 : FL "ParapetCourt$Life" 9 (TX4 2) := Or.inl (tb_2 _ (List.mem_of_getElem? (i := 76) rfl))
set_option maxRecDepth 20000 in
theorem fl_X4_92 : FL "ParapetCourt$Life" 92 (TX5 6) := Or.inr ⟨"ParapetCourt", tb_1 _ (List.mem_of_getElem? (i := 239) rfl)⟩
set_option maxRecDepth 20000 in
theorem fl_X4_95 : FL "ParapetCourt$Life" 95 (TX5 5) := Or.inr ⟨"ParapetCourt", tb_1 _ (List.mem_of_getElem? (i := 237) rfl)⟩
set_option maxRecDepth 20000 in
theorem fl_X5_15 : FL "ParapetCourt$Terms" 15 (TX5 4) := Or.inl (tb_1 _ (List.mem_of_getElem? (i := 234) rfl))
set_option maxRecDepth 20000 in
theorem fl_X5_18 : FL "ParapetCourt$Terms" 18 (TX5 5) := Or.inl (tb_1 _ (List.mem_of_getElem? (i := 236) rfl))
set_option maxRecDepth 20000 in
theorem fl_X5_21 : FL "ParapetCourt$Terms" 21 (TX5 6) := Or.inl (tb_1 _ (List.mem_of_getElem? (i := 238) rfl))
set_option maxRecDepth 20000 in
theorem fl_X5_24 : FL "ParapetCourt$Terms" 24 (TX5 7) := Or.inl (tb_2 _ (List.mem_of_getElem? (i := 0) rfl))
set_option maxRecDepth 20000 in
theorem fl_X5_27 : FL "ParapetCourt$Terms" 27 (TX5 0) := Or.inl (tb_1 _ (List.mem_of_getElem? (i := 223) rfl))
set_option maxRecDepth 20000 in
theorem fl_X5_31 : FL "ParapetCourt$Terms" 31 (TX5 1) := Or.inl (tb_1 _ (List.mem_of_getElem? (i := 226) rfl))
set_option maxRecDepth 20000 in
theorem fl_X5_35 : FL "ParapetCourt$Terms" 35 (TX5 2) := Or.inl (tb_1 _ (List.mem_of_getElem? (i := 229) rfl))
set_option maxRecDepth 20000 in
theorem fl_X5_9 : FL "ParapetCourt$Terms" 9 (TX5 3) := Or.inl (tb_1 _ (List.mem_of_getElem? (i := 232) rfl))
set_option maxRecDepth 20000 in
theorem fl_X6_108 : FL "ParapetCourt$TermsReader" 108 (TX7 9) := Or.inr ⟨"ParapetCourt", tb_1 _ (List.mem_of_getElem? (i := 100) rfl)⟩
set_option maxRecDepth 20000 in
theorem fl_X6_114 : FL "ParapetCourt$TermsReader" 114 (TX6 5) := Or.inl (tb_2 _ (List.mem_of_getElem? (i := 52) rfl))
set_option maxRecDepth 20000 in
theorem fl_X6_117 : FL "ParapetCourt$TermsReader" 117 (TX9 0) := Or.inr ⟨"ParapetCourt", tb_1 _ (List.mem_of_getElem? (i := 143) rfl)⟩
set_option maxRecDepth 20000 in
theorem fl_X6_12 : FL "ParapetCourt$TermsReader" 12 (TX6 2) := Or.inl (tb_2 _ (List.mem_of_getElem? (i := 48) rfl))
set_option maxRecDepth 20000 in
theorem fl_X6_125 : FL "ParapetCourt$TermsReader" 125 (TX7 6) := Or.inr ⟨"ParapetCourt", tb_1 _ (List.mem_of_getElem? (i := 95) rfl)⟩
set_option maxRecDepth 20000 in
theorem fl_X6_18 : FL "ParapetCourt$TermsReader" 18 (TX6 3) := Or.inl (tb_2 _ (List.mem_of_getElem? (i := 50) rfl))
set_option maxRecDepth 20000 in
theorem fl_X6_22 : FL "ParapetCourt$TermsReader" 22 (TX6 0) := Or.inl (tb_2 _ (List.mem_of_getElem? (i := 46) rfl))
set_option maxRecDepth 20000 in
theorem fl_X6_26 : FL "ParapetCourt$TermsReader" 26 (TX6 1) := Or.inl (tb_2 _ (List.mem_of_getElem? (i := 47) rfl))
set_option maxRecDepth 20000 in
theorem fl_X6_30 : FL "ParapetCourt$TermsReader" 30 (TX6 4) := Or.inl (tb_2 _ (List.mem_of_getElem? (i := 51) rfl))
set_option maxRecDepth 20000 in
theorem fl_X6_37 : FL "ParapetCourt$TermsReader" 37 (TX5 0) := Or.inr ⟨"ParapetCourt", tb_1 _ (List.mem_of_getElem? (i := 224) rfl)⟩
set_option maxRecDepth 20000 in
theorem fl_X6_76 : FL "ParapetCourt$TermsReader" 76 (TX5 1) := Or.inr ⟨"ParapetCourt", tb_1 _ (List.mem_of_getElem? (i := 227) rfl)⟩
set_option maxRecDepth 20000 in
theorem fl_X6_79 : FL "ParapetCourt$TermsReader" 79 (TX5 2) := Or.inr ⟨"ParapetCourt", tb_1 _ (List.mem_of_getElem? (i := 231) rfl)⟩
set_option maxRecDepth 20000 in
theorem fl_X6_82 : FL "ParapetCourt$TermsReader" 82 (TX7 7) := Or.inr ⟨"ParapetCourt", tb_1 _ (List.mem_of_getElem? (i := 96) rfl)⟩
set_option maxRecDepth 20000 in
theorem fl_X7_101 : FL "ParapetCourt$Text" 101 (TX7 9) := Or.inl (tb_1 _ (List.mem_of_getElem? (i := 101) rfl))
set_option maxRecDepth 20000 in
theorem fl_X7_15 : FL "ParapetCourt$Text" 15 (TX7 10) := Or.inl (tb_1 _ (List.mem_of_getElem? (i := 102) rfl))
set_option maxRecDepth 20000 in
theorem fl_X7_19 : FL "ParapetCourt$Text" 19 (TX7 11) := Or.inl (tb_1 _ (List.mem_of_getElem? (i := 104) rfl))
set_option maxRecDepth 20000 in
theorem fl_X7_22 : FL "ParapetCourt$Text" 22 (TX7 0) := Or.inl (tb_1 _ (List.mem_of_getElem? (i := 87) rfl))
set_option maxRecDepth 20000 in
theorem fl_X7_46 : FL "ParapetCourt$Text" 46 (TX7 2) := Or.inl (tb_1 _ (List.mem_of_getElem? (i := 89) rfl))
set_option maxRecDepth 20000 in
theorem fl_X7_48 : FL "ParapetCourt$Text" 48 (TX7 3) := Or.inl (tb_1 _ (List.mem_of_getElem? (i := 90) rfl))
set_option maxRecDepth 20000 in
theorem fl_X7_54 : FL "ParapetCourt$Text" 54 (TX7 5) := Or.inl (tb_1 _ (List.mem_of_getElem? (i := 92) rfl))
set_option maxRecDepth 20000 in
theorem fl_X7_57 : FL "ParapetCourt$Text" 57 (TX7 4) := Or.inl (tb_1 _ (List.mem_of_getElem? (i := 91) rfl))
set_option maxRecDepth 20000 in
theorem fl_X7_76 : FL "ParapetCourt$Text" 76 (TX7 6) := Or.inl (tb_1 _ (List.mem_of_getElem? (i := 94) rfl))
set_option maxRecDepth 20000 in
theorem fl_X7_86 : FL "ParapetCourt$Text" 86 (TX7 7) := Or.inl (tb_1 _ (List.mem_of_getElem? (i := 97) rfl))
set_option maxRecDepth 20000 in
theorem fl_X7_89 : FL "ParapetCourt$Text" 89 (TX7 8) := Or.inl (tb_1 _ (List.mem_of_getElem? (i := 98) rfl))
set_option maxRecDepth 20000 in
theorem fl_X7_9 : FL "ParapetCourt$Text" 9 (TX7 1) := Or.inl (tb_1 _ (List.mem_of_getElem? (i := 88) rfl))
set_option maxRecDepth 20000 in
theorem fl_X8_15 : FL "ParapetCourt$Tray" 15 (TX8 1) := Or.inl (tb_2 _ (List.mem_of_getElem? (i := 216) rfl))
set_option maxRecDepth 20000 in
theorem fl_X8_19 : FL "ParapetCourt$Tray" 19 (TX8 2) := Or.inl (tb_2 _ (List.mem_of_getElem? (i := 218) rfl))
set_option maxRecDepth 20000 in
theorem fl_X8_9 : FL "ParapetCourt$Tray" 9 (TX8 0) := Or.inl (tb_2 _ (List.mem_of_getElem? (i := 214) rfl))
set_option maxRecDepth 20000 in
theorem fl_X9_15 : FL "ParapetCourt$Wall" 15 (TX9 3) := Or.inl (tb_1 _ (List.mem_of_getElem? (i := 151) rfl))
set_option maxRecDepth 20000 in
theorem fl_X9_18 : FL "ParapetCourt$Wall" 18 (TX9 4) := Or.inl (tb_1 _ (List.mem_of_getElem? (i := 154) rfl))
set_option maxRecDepth 20000 in
theorem fl_X9_21 : FL "ParapetCourt$Wall" 21 (TX9 5) := Or.inl (tb_1 _ (List.mem_of_getElem? (i := 156) rfl))
set_option maxRecDepth 20000 in
theorem fl_X9_24 : FL "ParapetCourt$Wall" 24 (TX9 6) := Or.inl (tb_1 _ (List.mem_of_getElem? (i := 157) rfl))
set_option maxRecDepth 20000 in
theorem fl_X9_28 : FL "ParapetCourt$Wall" 28 (TX9 8) := Or.inl (tb_1 _ (List.mem_of_getElem? (i := 161) rfl))
set_option maxRecDepth 20000 in
theorem fl_X9_31 : FL "ParapetCourt$Wall" 31 (TX9 9) := Or.inl (tb_1 _ (List.mem_of_getElem? (i := 164) rfl))
set_option maxRecDepth 20000 in
theorem fl_X9_35 : FL "ParapetCourt$Wall" 35 (TX9 10) := Or.inl (tb_1 _ (List.mem_of_getElem? (i := 166) rfl))
set_option maxRecDepth 20000 in
theorem fl_X9_38 : FL "ParapetCourt$Wall" 38 (TX9 11) := Or.inl (tb_1 _ (List.mem_of_getElem? (i := 167) rfl))
set_option maxRecDepth 20000 in
theorem fl_X9_42 : FL "ParapetCourt$Wall" 42 (TX9 0) := Or.inl (tb_1 _ (List.mem_of_getElem? (i := 139) rfl))
set_option maxRecDepth 20000 in
theorem fl_X9_45 : FL "ParapetCourt$Wall" 45 (TX9 1) := Or.inl (tb_1 _ (List.mem_of_getElem? (i := 146) rfl))
set_option maxRecDepth 20000 in
theorem fl_X9_48 : FL "ParapetCourt$Wall" 48 (TX9 7) := Or.inl (tb_1 _ (List.mem_of_getElem? (i := 158) rfl))
set_option maxRecDepth 20000 in
theorem fl_X9_51 : FL "ParapetCourt$Wall" 51 (TX9 12) := Or.inl (tb_1 _ (List.mem_of_getElem? (i := 172) rfl))
set_option maxRecDepth 20000 in
theorem fl_X9_54 : FL "ParapetCourt$Wall" 54 (TX9 13) := Or.inl (tb_1 _ (List.mem_of_getElem? (i := 174) rfl))
set_option maxRecDepth 20000 in
theorem fl_X9_57 : FL "ParapetCourt$Wall" 57 (TX9 14) := Or.inl (tb_1 _ (List.mem_of_getElem? (i := 177) rfl))
set_option maxRecDepth 20000 in
theorem fl_X9_60 : FL "ParapetCourt$Wall" 60 (TX9 15) := Or.inl (tb_1 _ (List.mem_of_getElem? (i := 179) rfl))
set_option maxRecDepth 20000 in
theorem fl_X9_9 : FL "ParapetCourt$Wall" 9 (TX9 2) := Or.inl (tb_1 _ (List.mem_of_getElem? (i := 148) rfl))
set_option maxRecDepth 20000 in
theorem nl_X0_26 : NL "ParapetCourt$Cutter" 26 mt_JI_bitCount.1 := Or.inl (tb_5 _ (List.mem_of_getElem? (i := 127) rfl))
set_option maxRecDepth 20000 in
theorem nl_X0_42 : NL "ParapetCourt$Cutter" 42 mt_X0_cutFrom.1 := Or.inl (tb_5 _ (List.mem_of_getElem? (i := 136) rfl))
set_option maxRecDepth 20000 in
theorem nl_X0_49 : NL "ParapetCourt$Cutter" 49 mt_X0_canHold.1 := Or.inl (tb_5 _ (List.mem_of_getElem? (i := 140) rfl))
set_option maxRecDepth 20000 in
theorem nl_X0_58 : Cond.methodLink "ParapetCourt$Cutter" 58 ⟨"java/lang/Math", "min", "(II)I"⟩ ∈ lw_tbl := tb_5 _ (List.mem_of_getElem? (i := 144) rfl)
set_option maxRecDepth 20000 in
theorem nl_X0_64 : NL "ParapetCourt$Cutter" 64 mt_X0_canPart.1 := Or.inl (tb_5 _ (List.mem_of_getElem? (i := 145) rfl))
set_option maxRecDepth 20000 in
theorem nl_X10_105 : NL "ParapetCourt$WallReader" 105 mt_X7_isName.1 := Or.inr ⟨"ParapetCourt", tb_3 _ (List.mem_of_getElem? (i := 210) rfl)⟩
set_option maxRecDepth 20000 in
theorem nl_X10_108 : NL "ParapetCourt$WallReader" 108 mt_X9_stoneNamed.1 := Or.inr ⟨"ParapetCourt", tb_3 _ (List.mem_of_getElem? (i := 214) rfl)⟩
set_option maxRecDepth 20000 in
theorem nl_X10_112 : NL "ParapetCourt$WallReader" 112 mt_X9_addCrow.1 := Or.inr ⟨"ParapetCourt", tb_4 _ (List.mem_of_getElem? (i := 17) rfl)⟩
set_option maxRecDepth 20000 in
theorem nl_X10_116 : NL "ParapetCourt$WallReader" 116 mt_X9_crowNamed.1 := Or.inr ⟨"ParapetCourt", tb_3 _ (List.mem_of_getElem? (i := 218) rfl)⟩
set_option maxRecDepth 20000 in
theorem nl_X10_22 : NL "ParapetCourt$WallReader" 22 mt_X9_empty.1 := Or.inr ⟨"ParapetCourt", tb_3 _ (List.mem_of_getElem? (i := 164) rfl)⟩
set_option maxRecDepth 20000 in
theorem nl_X10_29 : NL "ParapetCourt$WallReader" 29 mt_X7_isAtEnd.1 := Or.inr ⟨"ParapetCourt", tb_3 _ (List.mem_of_getElem? (i := 168) rfl)⟩
set_option maxRecDepth 20000 in
theorem nl_X10_35 : NL "ParapetCourt$WallReader" 35 mt_X7_isWord.1 := Or.inr ⟨"ParapetCourt", tb_3 _ (List.mem_of_getElem? (i := 172) rfl)⟩
set_option maxRecDepth 20000 in
theorem nl_X10_39 : NL "ParapetCourt$WallReader" 39 mt_X10_readOdds.1 := Or.inl (tb_3 _ (List.mem_of_getElem? (i := 176) rfl))
set_option maxRecDepth 20000 in
theorem nl_X10_42 : NL "ParapetCourt$WallReader" 42 mt_X10_readStone.1 := Or.inl (tb_3 _ (List.mem_of_getElem? (i := 198) rfl))
set_option maxRecDepth 20000 in
theorem nl_X10_45 : NL "ParapetCourt$WallReader" 45 mt_X10_readGap.1 := Or.inl (tb_4 _ (List.mem_of_getElem? (i := 4) rfl))
set_option maxRecDepth 20000 in
theorem nl_X10_48 : NL "ParapetCourt$WallReader" 48 mt_X10_readCrow.1 := Or.inl (tb_4 _ (List.mem_of_getElem? (i := 13) rfl))
set_option maxRecDepth 20000 in
theorem nl_X10_51 : NL "ParapetCourt$WallReader" 51 mt_X7_refuse.1 := Or.inr ⟨"ParapetCourt", tb_3 _ (List.mem_of_getElem? (i := 180) rfl)⟩
set_option maxRecDepth 20000 in
theorem nl_X10_54 : NL "ParapetCourt$WallReader" 54 mt_X7_step.1 := Or.inr ⟨"ParapetCourt", tb_3 _ (List.mem_of_getElem? (i := 184) rfl)⟩
set_option maxRecDepth 20000 in
theorem nl_X10_57 : NL "ParapetCourt$WallReader" 57 mt_X7_takeNumber.1 := Or.inr ⟨"ParapetCourt", tb_3 _ (List.mem_of_getElem? (i := 185) rfl)⟩
set_option maxRecDepth 20000 in
theorem nl_X10_68 : NL "ParapetCourt$WallReader" 68 mt_X7_takeSign.1 := Or.inr ⟨"ParapetCourt", tb_3 _ (List.mem_of_getElem? (i := 190) rfl)⟩
set_option maxRecDepth 20000 in
theorem nl_X10_71 : NL "ParapetCourt$WallReader" 71 mt_X9_isFull.1 := Or.inr ⟨"ParapetCourt", tb_3 _ (List.mem_of_getElem? (i := 202) rfl)⟩
set_option maxRecDepth 20000 in
theorem nl_X10_78 : NL "ParapetCourt$WallReader" 78 mt_X10_takeNewName.1 := Or.inl (tb_3 _ (List.mem_of_getElem? (i := 206) rfl))
set_option maxRecDepth 20000 in
theorem nl_X10_81 : NL "ParapetCourt$WallReader" 81 mt_X7_takeWord.1 := Or.inr ⟨"ParapetCourt", tb_3 _ (List.mem_of_getElem? (i := 222) rfl)⟩
set_option maxRecDepth 20000 in
theorem nl_X10_84 : NL "ParapetCourt$WallReader" 84 mt_X10_readPerhaps.1 := Or.inl (tb_3 _ (List.mem_of_getElem? (i := 227) rfl))
set_option maxRecDepth 20000 in
theorem nl_X10_88 : NL "ParapetCourt$WallReader" 88 mt_X9_addPlace.1 := Or.inr ⟨"ParapetCourt", tb_3 _ (List.mem_of_getElem? (i := 231) rfl)⟩
set_option maxRecDepth 20000 in
theorem nl_X10_95 : NL "ParapetCourt$WallReader" 95 mt_X9_setStone.1 := Or.inr ⟨"ParapetCourt", tb_4 _ (List.mem_of_getElem? (i := 0) rfl)⟩
set_option maxRecDepth 20000 in
theorem nl_X10_99 : NL "ParapetCourt$WallReader" 99 mt_X9_addGap.1 := Or.inr ⟨"ParapetCourt", tb_4 _ (List.mem_of_getElem? (i := 8) rfl)⟩
set_option maxRecDepth 20000 in
theorem nl_X11_125 : NL "ParapetCourt" 125 mt_X11_isTray.1 := Or.inl (tb_3 _ (List.mem_of_getElem? (i := 64) rfl))
set_option maxRecDepth 20000 in
theorem nl_X11_129 : NL "ParapetCourt" 129 mt_X8_isSort.1 := Or.inr ⟨"ParapetCourt", tb_3 _ (List.mem_of_getElem? (i := 67) rfl)⟩
set_option maxRecDepth 20000 in
theorem nl_X11_132 : NL "ParapetCourt" 132 mt_X11_refused.1 := Or.inl (tb_3 _ (List.mem_of_getElem? (i := 70) rfl))
set_option maxRecDepth 20000 in
theorem nl_X11_135 : NL "ParapetCourt" 135 mt_X8_make.1 := Or.inr ⟨"ParapetCourt", tb_3 _ (List.mem_of_getElem? (i := 74) rfl)⟩
set_option maxRecDepth 20000 in
theorem nl_X11_139 : NL "ParapetCourt" 139 mt_X11_trayPlaceWhy.1 := Or.inl (tb_3 _ (List.mem_of_getElem? (i := 82) rfl))
set_option maxRecDepth 20000 in
theorem nl_X11_143 : NL "ParapetCourt" 143 mt_X8_put.1 := Or.inr ⟨"ParapetCourt", tb_3 _ (List.mem_of_getElem? (i := 94) rfl)⟩
set_option maxRecDepth 20000 in
theorem nl_X11_153 : NL "ParapetCourt" 153 mt_X11_pourWhy.1 := Or.inl (tb_3 _ (List.mem_of_getElem? (i := 107) rfl))
set_option maxRecDepth 20000 in
theorem nl_X11_157 : Cond.methodLink "ParapetCourt" 157 arraycopyName ∈ lw_tbl := tb_3 _ (List.mem_of_getElem? (i := 111) rfl)
set_option maxRecDepth 20000 in
theorem nl_X11_163 : NL "ParapetCourt" 163 mt_X8_isMissing.1 := Or.inr ⟨"ParapetCourt", tb_3 _ (List.mem_of_getElem? (i := 86) rfl)⟩
set_option maxRecDepth 20000 in
theorem nl_X11_170 : NL "ParapetCourt" 170 mt_X8_hasRow.1 := Or.inr ⟨"ParapetCourt", tb_3 _ (List.mem_of_getElem? (i := 90) rfl)⟩
set_option maxRecDepth 20000 in
theorem nl_X11_177 : NL "ParapetCourt" 177 mt_X11_feedInt.1 := Or.inl (tb_3 _ (List.mem_of_getElem? (i := 118) rfl))
set_option maxRecDepth 20000 in
theorem nl_X11_181 : NL "ParapetCourt" 181 mt_X7_begin.1 := Or.inr ⟨"ParapetCourt", tb_3 _ (List.mem_of_getElem? (i := 126) rfl)⟩
set_option maxRecDepth 20000 in
theorem nl_X11_184 : NL "ParapetCourt" 184 mt_X10_reads.1 := Or.inr ⟨"ParapetCourt", tb_3 _ (List.mem_of_getElem? (i := 160) rfl)⟩
set_option maxRecDepth 20000 in
theorem nl_X11_190 : NL "ParapetCourt" 190 mt_X9_copyFrom.1 := Or.inr ⟨"ParapetCourt", tb_4 _ (List.mem_of_getElem? (i := 25) rfl)⟩
set_option maxRecDepth 20000 in
theorem nl_X11_193 : NL "ParapetCourt" 193 mt_X5_forget.1 := Or.inr ⟨"ParapetCourt", tb_4 _ (List.mem_of_getElem? (i := 29) rfl)⟩
set_option maxRecDepth 20000 in
theorem nl_X11_199 : NL "ParapetCourt" 199 mt_X6_reads.1 := Or.inr ⟨"ParapetCourt", tb_4 _ (List.mem_of_getElem? (i := 37) rfl)⟩
set_option maxRecDepth 20000 in
theorem nl_X11_202 : NL "ParapetCourt" 202 mt_X5_copyFrom.1 := Or.inr ⟨"ParapetCourt", tb_4 _ (List.mem_of_getElem? (i := 104) rfl)⟩
set_option maxRecDepth 20000 in
theorem nl_X11_214 : NL "ParapetCourt" 214 mt_X9_stoneCount.1 := Or.inr ⟨"ParapetCourt", tb_4 _ (List.mem_of_getElem? (i := 116) rfl)⟩
set_option maxRecDepth 20000 in
theorem nl_X11_239 : NL "ParapetCourt" 239 mt_X9_mossOfAll.1 := Or.inr ⟨"ParapetCourt", tb_4 _ (List.mem_of_getElem? (i := 126) rfl)⟩
set_option maxRecDepth 20000 in
theorem nl_X11_242 : NL "ParapetCourt" 242 mt_X11_stoneWhy.1 := Or.inl (tb_4 _ (List.mem_of_getElem? (i := 134) rfl))
set_option maxRecDepth 20000 in
theorem nl_X11_256 : NL "ParapetCourt" 256 mt_X9_crowsOn.1 := Or.inr ⟨"ParapetCourt", tb_4 _ (List.mem_of_getElem? (i := 146) rfl)⟩
set_option maxRecDepth 20000 in
theorem nl_X11_260 : NL "ParapetCourt" 260 mt_X9_mercyFor.1 := Or.inr ⟨"ParapetCourt", tb_4 _ (List.mem_of_getElem? (i := 150) rfl)⟩
set_option maxRecDepth 20000 in
theorem nl_X11_264 : NL "ParapetCourt" 264 mt_X9_isCrow.1 := Or.inr ⟨"ParapetCourt", tb_4 _ (List.mem_of_getElem? (i := 162) rfl)⟩
set_option maxRecDepth 20000 in
theorem nl_X11_274 : NL "ParapetCourt" 274 mt_X11_guiltWhy.1 := Or.inl (tb_4 _ (List.mem_of_getElem? (i := 174) rfl))
set_option maxRecDepth 20000 in
theorem nl_X11_277 : NL "ParapetCourt" 277 mt_X9_holdTrial.1 := Or.inr ⟨"ParapetCourt", tb_4 _ (List.mem_of_getElem? (i := 182) rfl)⟩
set_option maxRecDepth 20000 in
theorem nl_X11_281 : NL "ParapetCourt" 281 mt_X9_passYears.1 := Or.inr ⟨"ParapetCourt", tb_4 _ (List.mem_of_getElem? (i := 204) rfl)⟩
set_option maxRecDepth 20000 in
theorem nl_X11_284 : NL "ParapetCourt" 284 mt_X11_isLenient.1 := Or.inl (tb_4 _ (List.mem_of_getElem? (i := 212) rfl))
set_option maxRecDepth 20000 in
theorem nl_X11_287 : NL "ParapetCourt" 287 mt_X9_makeGap.1 := Or.inr ⟨"ParapetCourt", tb_4 _ (List.mem_of_getElem? (i := 223) rfl)⟩
set_option maxRecDepth 20000 in
theorem nl_X11_290 : NL "ParapetCourt" 290 mt_X9_isPlace.1 := Or.inr ⟨"ParapetCourt", tb_4 _ (List.mem_of_getElem? (i := 138) rfl)⟩
set_option maxRecDepth 20000 in
theorem nl_X11_294 : NL "ParapetCourt" 294 mt_X9_isStone.1 := Or.inr ⟨"ParapetCourt", tb_4 _ (List.mem_of_getElem? (i := 142) rfl)⟩
set_option maxRecDepth 20000 in
theorem nl_X11_297 : NL "ParapetCourt" 297 mt_X9_setStone.1 := Or.inr ⟨"ParapetCourt", tb_4 _ (List.mem_of_getElem? (i := 228) rfl)⟩
set_option maxRecDepth 20000 in
theorem nl_X11_301 : NL "ParapetCourt" 301 mt_X9_moveCrow.1 := Or.inr ⟨"ParapetCourt", tb_4 _ (List.mem_of_getElem? (i := 233) rfl)⟩
set_option maxRecDepth 20000 in
theorem nl_X11_304 : NL "ParapetCourt" 304 mt_X9_addCrow.1 := Or.inr ⟨"ParapetCourt", tb_4 _ (List.mem_of_getElem? (i := 238) rfl)⟩
set_option maxRecDepth 20000 in
theorem nl_X11_310 : NL "ParapetCourt" 310 mt_X11_isGuilt.1 := Or.inl (tb_4 _ (List.mem_of_getElem? (i := 178) rfl))
set_option maxRecDepth 20000 in
theorem nl_X11_313 : NL "ParapetCourt" 313 mt_X11_twoPlacesWhy.1 := Or.inl (tb_5 _ (List.mem_of_getElem? (i := 7) rfl))
set_option maxRecDepth 20000 in
theorem nl_X11_316 : Cond.methodLink "ParapetCourt" 316 ⟨"java/lang/Math", "abs", "(I)I"⟩ ∈ lw_tbl := tb_5 _ (List.mem_of_getElem? (i := 11) rfl)
set_option maxRecDepth 20000 in
theorem nl_X11_321 : Cond.methodLink "ParapetCourt" 321 ⟨"java/lang/Math", "min", "(II)I"⟩ ∈ lw_tbl := tb_5 _ (List.mem_of_getElem? (i := 12) rfl)
set_option maxRecDepth 20000 in
theorem nl_X11_324 : NL "ParapetCourt" 324 mt_X9_turningFrom.1 := Or.inr ⟨"ParapetCourt", tb_5 _ (List.mem_of_getElem? (i := 21) rfl)⟩
set_option maxRecDepth 20000 in
theorem nl_X11_327 : NL "ParapetCourt" 327 mt_X9_condemns.1 := Or.inr ⟨"ParapetCourt", tb_5 _ (List.mem_of_getElem? (i := 26) rfl)⟩
set_option maxRecDepth 20000 in
theorem nl_X11_331 : NL "ParapetCourt" 331 mt_X11_guiltOfStonesWhy.1 := Or.inl (tb_5 _ (List.mem_of_getElem? (i := 34) rfl))
set_option maxRecDepth 20000 in
theorem nl_X11_334 : NL "ParapetCourt" 334 mt_X9_bestPlace.1 := Or.inr ⟨"ParapetCourt", tb_5 _ (List.mem_of_getElem? (i := 38) rfl)⟩
set_option maxRecDepth 20000 in
theorem nl_X11_337 : NL "ParapetCourt" 337 mt_X9_leastGuilt.1 := Or.inr ⟨"ParapetCourt", tb_5 _ (List.mem_of_getElem? (i := 54) rfl)⟩
set_option maxRecDepth 20000 in
theorem nl_X11_340 : NL "ParapetCourt" 340 mt_X9_yearsToFree.1 := Or.inr ⟨"ParapetCourt", tb_5 _ (List.mem_of_getElem? (i := 63) rfl)⟩
set_option maxRecDepth 20000 in
theorem nl_X11_343 : NL "ParapetCourt" 343 mt_X11_fitsWhy.1 := Or.inl (tb_5 _ (List.mem_of_getElem? (i := 71) rfl))
set_option maxRecDepth 20000 in
theorem nl_X11_347 : NL "ParapetCourt" 347 mt_X3_count.1 := Or.inr ⟨"ParapetCourt", tb_5 _ (List.mem_of_getElem? (i := 92) rfl)⟩
set_option maxRecDepth 20000 in
theorem nl_X11_356 : NL "ParapetCourt" 356 mt_X3_findQuestion.1 := Or.inr ⟨"ParapetCourt", tb_5 _ (List.mem_of_getElem? (i := 104) rfl)⟩
set_option maxRecDepth 20000 in
theorem nl_X11_365 : NL "ParapetCourt" 365 mt_X11_threesWhy.1 := Or.inl (tb_5 _ (List.mem_of_getElem? (i := 75) rfl))
set_option maxRecDepth 20000 in
theorem nl_X11_368 : NL "ParapetCourt" 368 mt_X3_begin.1 := Or.inr ⟨"ParapetCourt", tb_5 _ (List.mem_of_getElem? (i := 80) rfl)⟩
set_option maxRecDepth 20000 in
theorem nl_X11_370 : NL "ParapetCourt" 370 mt_X3_tell.1 := Or.inr ⟨"ParapetCourt", tb_5 _ (List.mem_of_getElem? (i := 84) rfl)⟩
set_option maxRecDepth 20000 in
theorem nl_X11_379 : NL "ParapetCourt" 379 mt_X11_cutsWhy.1 := Or.inl (tb_5 _ (List.mem_of_getElem? (i := 119) rfl))
set_option maxRecDepth 20000 in
theorem nl_X11_385 : NL "ParapetCourt" 385 mt_X0_cutOn.1 := Or.inr ⟨"ParapetCourt", tb_5 _ (List.mem_of_getElem? (i := 153) rfl)⟩
set_option maxRecDepth 20000 in
theorem nl_X11_388 : NL "ParapetCourt" 388 mt_X0_begin.1 := Or.inr ⟨"ParapetCourt", tb_5 _ (List.mem_of_getElem? (i := 123) rfl)⟩
set_option maxRecDepth 20000 in
theorem nl_X11_389 : NL "ParapetCourt" 389 mt_X0_tell.1 := Or.inr ⟨"ParapetCourt", tb_5 _ (List.mem_of_getElem? (i := 128) rfl)⟩
set_option maxRecDepth 20000 in
theorem nl_X11_392 : NL "ParapetCourt" 392 mt_X0_findWay.1 := Or.inr ⟨"ParapetCourt", tb_5 _ (List.mem_of_getElem? (i := 132) rfl)⟩
set_option maxRecDepth 20000 in
theorem nl_X11_395 : NL "ParapetCourt" 395 mt_X11_windowsWhy.1 := Or.inl (tb_5 _ (List.mem_of_getElem? (i := 161) rfl))
set_option maxRecDepth 20000 in
theorem nl_X11_398 : NL "ParapetCourt" 398 mt_X9_windowsFor.1 := Or.inr ⟨"ParapetCourt", tb_5 _ (List.mem_of_getElem? (i := 165) rfl)⟩
set_option maxRecDepth 20000 in
theorem nl_X11_401 : NL "ParapetCourt" 401 mt_JI_bitCount.1 := Or.inl (tb_5 _ (List.mem_of_getElem? (i := 170) rfl))
set_option maxRecDepth 20000 in
theorem nl_X11_406 : NL "ParapetCourt" 406 mt_X11_walkWhy.1 := Or.inl (tb_5 _ (List.mem_of_getElem? (i := 179) rfl))
set_option maxRecDepth 20000 in
theorem nl_X11_409 : NL "ParapetCourt" 409 mt_X9_walkTo.1 := Or.inr ⟨"ParapetCourt", tb_5 _ (List.mem_of_getElem? (i := 183) rfl)⟩
set_option maxRecDepth 20000 in
theorem nl_X11_412 : NL "ParapetCourt" 412 mt_X9_around.1 := Or.inr ⟨"ParapetCourt", tb_5 _ (List.mem_of_getElem? (i := 202) rfl)⟩
set_option maxRecDepth 20000 in
theorem nl_X11_415 : NL "ParapetCourt" 415 mt_X9_longestRow.1 := Or.inr ⟨"ParapetCourt", tb_5 _ (List.mem_of_getElem? (i := 207) rfl)⟩
set_option maxRecDepth 20000 in
theorem nl_X11_418 : NL "ParapetCourt" 418 mt_X11_gameWhy.1 := Or.inl (tb_5 _ (List.mem_of_getElem? (i := 216) rfl))
set_option maxRecDepth 20000 in
theorem nl_X11_422 : NL "ParapetCourt" 422 mt_X1_begin.1 := Or.inr ⟨"ParapetCourt", tb_5 _ (List.mem_of_getElem? (i := 220) rfl)⟩
set_option maxRecDepth 20000 in
theorem nl_X11_424 : NL "ParapetCourt" 424 mt_X1_outcome.1 := Or.inr ⟨"ParapetCourt", tb_5 _ (List.mem_of_getElem? (i := 238) rfl)⟩
set_option maxRecDepth 20000 in
theorem nl_X11_427 : NL "ParapetCourt" 427 mt_X1_firstMove.1 := Or.inr ⟨"ParapetCourt", tb_6 _ (List.mem_of_getElem? (i := 12) rfl)⟩
set_option maxRecDepth 20000 in
theorem nl_X11_430 : NL "ParapetCourt" 430 mt_X9_turnCount.1 := Or.inr ⟨"ParapetCourt", tb_6 _ (List.mem_of_getElem? (i := 24) rfl)⟩
set_option maxRecDepth 20000 in
theorem nl_X11_433 : NL "ParapetCourt" 433 mt_X2_tell.1 := Or.inr ⟨"ParapetCourt", tb_6 _ (List.mem_of_getElem? (i := 25) rfl)⟩
set_option maxRecDepth 20000 in
theorem nl_X11_436 : NL "ParapetCourt" 436 mt_X2_tellAtLeast.1 := Or.inr ⟨"ParapetCourt", tb_6 _ (List.mem_of_getElem? (i := 36) rfl)⟩
set_option maxRecDepth 20000 in
theorem nl_X11_440 : NL "ParapetCourt" 440 mt_X11_seedsWhy.1 := Or.inl (tb_6 _ (List.mem_of_getElem? (i := 49) rfl))
set_option maxRecDepth 20000 in
theorem nl_X11_443 : NL "ParapetCourt" 443 mt_X4_run.1 := Or.inr ⟨"ParapetCourt", tb_6 _ (List.mem_of_getElem? (i := 53) rfl)⟩
set_option maxRecDepth 20000 in
theorem nl_X12_104 : NL "ParapetCourtModel" 104 mt_X12_isIn.1 := Or.inl (tb_7 _ (List.mem_of_getElem? (i := 146) rfl))
set_option maxRecDepth 20000 in
theorem nl_X12_108 : NL "ParapetCourtModel" 108 mt_X12_has.1 := Or.inl (tb_8 _ (List.mem_of_getElem? (i := 59) rfl))
set_option maxRecDepth 20000 in
theorem nl_X12_121 : NL "ParapetCourtModel" 121 mt_X12_look2.1 := Or.inl (tb_7 _ (List.mem_of_getElem? (i := 99) rfl))
set_option maxRecDepth 20000 in
theorem nl_X12_127 : NL "ParapetCourtModel" 127 mt_X12_isLetter.1 := Or.inl (tb_7 _ (List.mem_of_getElem? (i := 103) rfl))
set_option maxRecDepth 20000 in
theorem nl_X12_140 : NL "ParapetCourtModel" 140 mt_X12_isDigit.1 := Or.inl (tb_7 _ (List.mem_of_getElem? (i := 108) rfl))
set_option maxRecDepth 20000 in
theorem nl_X12_146 : NL "ParapetCourtModel" 146 mt_X12_isSignByte.1 := Or.inl (tb_7 _ (List.mem_of_getElem? (i := 111) rfl))
set_option maxRecDepth 20000 in
theorem nl_X12_149 : NL "ParapetCourtModel" 149 mt_X12_spelled.1 := Or.inl (tb_7 _ (List.mem_of_getElem? (i := 123) rfl))
set_option maxRecDepth 20000 in
theorem nl_X12_153 : NL "ParapetCourtModel" 153 mt_X12_isWord.1 := Or.inl (tb_7 _ (List.mem_of_getElem? (i := 126) rfl))
set_option maxRecDepth 20000 in
theorem nl_X12_159 : NL "ParapetCourtModel" 159 mt_X12_isMoss.1 := Or.inl (tb_7 _ (List.mem_of_getElem? (i := 202) rfl))
set_option maxRecDepth 20000 in
theorem nl_X12_163 : NL "ParapetCourtModel" 163 mt_X12_isOdds.1 := Or.inl (tb_7 _ (List.mem_of_getElem? (i := 119) rfl))
set_option maxRecDepth 20000 in
theorem nl_X12_166 : NL "ParapetCourtModel" 166 mt_X12_isStone.1 := Or.inl (tb_7 _ (List.mem_of_getElem? (i := 149) rfl))
set_option maxRecDepth 20000 in
theorem nl_X12_169 : NL "ParapetCourtModel" 169 mt_X12_isLenient.1 := Or.inl (tb_7 _ (List.mem_of_getElem? (i := 169) rfl))
set_option maxRecDepth 20000 in
theorem nl_X12_172 : NL "ParapetCourtModel" 172 mt_X12_isStrong.1 := Or.inl (tb_7 _ (List.mem_of_getElem? (i := 174) rfl))
set_option maxRecDepth 20000 in
theorem nl_X12_175 : NL "ParapetCourtModel" 175 mt_X12_isGap.1 := Or.inl (tb_7 _ (List.mem_of_getElem? (i := 178) rfl))
set_option maxRecDepth 20000 in
theorem nl_X12_178 : NL "ParapetCourtModel" 178 mt_X12_isCrow.1 := Or.inl (tb_7 _ (List.mem_of_getElem? (i := 182) rfl))
set_option maxRecDepth 20000 in
theorem nl_X12_181 : NL "ParapetCourtModel" 181 mt_X12_isOn.1 := Or.inl (tb_7 _ (List.mem_of_getElem? (i := 186) rfl))
set_option maxRecDepth 20000 in
theorem nl_X12_184 : NL "ParapetCourtModel" 184 mt_X12_sideWord.1 := Or.inl (tb_7 _ (List.mem_of_getElem? (i := 190) rfl))
set_option maxRecDepth 20000 in
theorem nl_X12_188 : NL "ParapetCourtModel" 188 mt_X12_stepWord.1 := Or.inl (tb_7 _ (List.mem_of_getElem? (i := 194) rfl))
set_option maxRecDepth 20000 in
theorem nl_X12_191 : NL "ParapetCourtModel" 191 mt_X12_testWord.1 := Or.inl (tb_7 _ (List.mem_of_getElem? (i := 198) rfl))
set_option maxRecDepth 20000 in
theorem nl_X12_194 : NL "ParapetCourtModel" 194 mt_X12_isEnd.1 := Or.inl (tb_7 _ (List.mem_of_getElem? (i := 206) rfl))
set_option maxRecDepth 20000 in
theorem nl_X12_197 : NL "ParapetCourtModel" 197 mt_X12_isKept.1 := Or.inl (tb_7 _ (List.mem_of_getElem? (i := 165) rfl))
set_option maxRecDepth 20000 in
theorem nl_X12_206 : NL "ParapetCourtModel" 206 mt_X12_fail.1 := Or.inl (tb_7 _ (List.mem_of_getElem? (i := 134) rfl))
set_option maxRecDepth 20000 in
theorem nl_X12_210 : NL "ParapetCourtModel" 210 mt_X12_advance.1 := Or.inl (tb_7 _ (List.mem_of_getElem? (i := 95) rfl))
set_option maxRecDepth 20000 in
theorem nl_X12_213 : NL "ParapetCourtModel" 213 mt_X12_amiss.1 := Or.inl (tb_7 _ (List.mem_of_getElem? (i := 142) rfl))
set_option maxRecDepth 20000 in
theorem nl_X12_216 : NL "ParapetCourtModel" 216 mt_X12_must.1 := Or.inl (tb_7 _ (List.mem_of_getElem? (i := 218) rfl))
set_option maxRecDepth 20000 in
theorem nl_X12_220 : NL "ParapetCourtModel" 220 mt_X12_count.1 := Or.inl (tb_7 _ (List.mem_of_getElem? (i := 138) rfl))
set_option maxRecDepth 20000 in
theorem nl_X12_226 : NL "ParapetCourtModel" 226 mt_X12_lay.1 := Or.inl (tb_7 _ (List.mem_of_getElem? (i := 79) rfl))
set_option maxRecDepth 20000 in
theorem nl_X12_229 : NL "ParapetCourtModel" 229 mt_X12_isName.1 := Or.inl (tb_7 _ (List.mem_of_getElem? (i := 161) rfl))
set_option maxRecDepth 20000 in
theorem nl_X12_232 : NL "ParapetCourtModel" 232 mt_X12_named.1 := Or.inl (tb_7 _ (List.mem_of_getElem? (i := 210) rfl))
set_option maxRecDepth 20000 in
theorem nl_X12_235 : Cond.methodLink "ParapetCourtModel" 235 ⟨"java/lang/Math", "max", "(II)I"⟩ ∈ lw_tbl := tb_8 _ (List.mem_of_getElem? (i := 2) rfl)
set_option maxRecDepth 20000 in
theorem nl_X12_242 : NL "ParapetCourtModel" 242 mt_X12_readNew.1 := Or.inl (tb_7 _ (List.mem_of_getElem? (i := 157) rfl))
set_option maxRecDepth 20000 in
theorem nl_X12_245 : NL "ParapetCourtModel" 245 mt_X12_behindWord.1 := Or.inl (tb_7 _ (List.mem_of_getElem? (i := 214) rfl))
set_option maxRecDepth 20000 in
theorem nl_X12_249 : NL "ParapetCourtModel" 249 mt_X12_perhaps.1 := Or.inl (tb_7 _ (List.mem_of_getElem? (i := 222) rfl))
set_option maxRecDepth 20000 in
theorem nl_X12_253 : NL "ParapetCourtModel" 253 mt_X12_sets.1 := Or.inl (tb_7 _ (List.mem_of_getElem? (i := 226) rfl))
set_option maxRecDepth 20000 in
theorem nl_X12_257 : NL "ParapetCourtModel" 257 mt_X12_readTold.1 := Or.inl (tb_7 _ (List.mem_of_getElem? (i := 238) rfl))
set_option maxRecDepth 20000 in
theorem nl_X12_260 : NL "ParapetCourtModel" 260 mt_X12_hatches.1 := Or.inl (tb_8 _ (List.mem_of_getElem? (i := 3) rfl))
set_option maxRecDepth 20000 in
theorem nl_X12_263 : NL "ParapetCourtModel" 263 mt_X12_readOdds.1 := Or.inl (tb_7 _ (List.mem_of_getElem? (i := 130) rfl))
set_option maxRecDepth 20000 in
theorem nl_X12_266 : NL "ParapetCourtModel" 266 mt_X12_readStone.1 := Or.inl (tb_7 _ (List.mem_of_getElem? (i := 153) rfl))
set_option maxRecDepth 20000 in
theorem nl_X12_269 : NL "ParapetCourtModel" 269 mt_X12_readGap.1 := Or.inl (tb_7 _ (List.mem_of_getElem? (i := 230) rfl))
set_option maxRecDepth 20000 in
theorem nl_X12_272 : NL "ParapetCourtModel" 272 mt_X12_readCrow.1 := Or.inl (tb_7 _ (List.mem_of_getElem? (i := 234) rfl))
set_option maxRecDepth 20000 in
theorem nl_X12_275 : NL "ParapetCourtModel" 275 mt_X12_starts.1 := Or.inl (tb_7 _ (List.mem_of_getElem? (i := 91) rfl))
set_option maxRecDepth 20000 in
theorem nl_X12_278 : NL "ParapetCourtModel" 278 mt_X12_readPart.1 := Or.inl (tb_7 _ (List.mem_of_getElem? (i := 115) rfl))
set_option maxRecDepth 20000 in
theorem nl_X12_281 : NL "ParapetCourtModel" 281 mt_X12_isSign.1 := Or.inl (tb_8 _ (List.mem_of_getElem? (i := 7) rfl))
set_option maxRecDepth 20000 in
theorem nl_X12_284 : NL "ParapetCourtModel" 284 mt_X12_isWell.1 := Or.inl (tb_8 _ (List.mem_of_getElem? (i := 11) rfl))
set_option maxRecDepth 20000 in
theorem nl_X12_287 : NL "ParapetCourtModel" 287 mt_X12_copy.1 := Or.inl (tb_8 _ (List.mem_of_getElem? (i := 15) rfl))
set_option maxRecDepth 20000 in
theorem nl_X12_290 : NL "ParapetCourtModel" 290 mt_X12_readPlace.1 := Or.inl (tb_8 _ (List.mem_of_getElem? (i := 31) rfl))
set_option maxRecDepth 20000 in
theorem nl_X12_293 : NL "ParapetCourtModel" 293 mt_X12_readTest.1 := Or.inl (tb_8 _ (List.mem_of_getElem? (i := 35) rfl))
set_option maxRecDepth 20000 in
theorem nl_X12_299 : NL "ParapetCourtModel" 299 mt_X12_readRest.1 := Or.inl (tb_8 _ (List.mem_of_getElem? (i := 27) rfl))
set_option maxRecDepth 20000 in
theorem nl_X12_302 : NL "ParapetCourtModel" 302 mt_X12_readStep.1 := Or.inl (tb_8 _ (List.mem_of_getElem? (i := 23) rfl))
set_option maxRecDepth 20000 in
theorem nl_X12_305 : NL "ParapetCourtModel" 305 mt_X12_isStoneAt.1 := Or.inl (tb_8 _ (List.mem_of_getElem? (i := 52) rfl))
set_option maxRecDepth 20000 in
theorem nl_X12_308 : Cond.methodLink "ParapetCourtModel" 308 ⟨"java/lang/Math", "abs", "(I)I"⟩ ∈ lw_tbl := tb_8 _ (List.mem_of_getElem? (i := 87) rfl)
set_option maxRecDepth 20000 in
theorem nl_X12_310 : Cond.methodLink "ParapetCourtModel" 310 ⟨"java/lang/Math", "min", "(II)I"⟩ ∈ lw_tbl := tb_8 _ (List.mem_of_getElem? (i := 88) rfl)
set_option maxRecDepth 20000 in
theorem nl_X12_313 : NL "ParapetCourtModel" 313 mt_X12_farOf.1 := Or.inl (tb_8 _ (List.mem_of_getElem? (i := 83) rfl))
set_option maxRecDepth 20000 in
theorem nl_X12_318 : NL "ParapetCourtModel" 318 mt_X12_refuse.1 := Or.inl (tb_8 _ (List.mem_of_getElem? (i := 44) rfl))
set_option maxRecDepth 20000 in
theorem nl_X12_321 : NL "ParapetCourtModel" 321 mt_X12_stones.1 := Or.inl (tb_8 _ (List.mem_of_getElem? (i := 48) rfl))
set_option maxRecDepth 20000 in
theorem nl_X12_324 : NL "ParapetCourtModel" 324 mt_X12_sizeOf.1 := Or.inl (tb_8 _ (List.mem_of_getElem? (i := 56) rfl))
set_option maxRecDepth 20000 in
theorem nl_X12_327 : NL "ParapetCourtModel" 327 mt_X12_mossAll.1 := Or.inl (tb_8 _ (List.mem_of_getElem? (i := 62) rfl))
set_option maxRecDepth 20000 in
theorem nl_X12_330 : NL "ParapetCourtModel" 330 mt_X12_isPlaceAt.1 := Or.inl (tb_8 _ (List.mem_of_getElem? (i := 70) rfl))
set_option maxRecDepth 20000 in
theorem nl_X12_335 : NL "ParapetCourtModel" 335 mt_X12_crowsOn.1 := Or.inl (tb_8 _ (List.mem_of_getElem? (i := 75) rfl))
set_option maxRecDepth 20000 in
theorem nl_X12_338 : NL "ParapetCourtModel" 338 mt_X12_mercyOf.1 := Or.inl (tb_8 _ (List.mem_of_getElem? (i := 79) rfl))
set_option maxRecDepth 20000 in
theorem nl_X12_341 : NL "ParapetCourtModel" 341 mt_X12_isCrowAt.1 := Or.inl (tb_8 _ (List.mem_of_getElem? (i := 93) rfl))
set_option maxRecDepth 20000 in
theorem nl_X12_344 : NL "ParapetCourtModel" 344 mt_X12_isTray.1 := Or.inl (tb_8 _ (List.mem_of_getElem? (i := 101) rfl))
set_option maxRecDepth 20000 in
theorem nl_X12_347 : NL "ParapetCourtModel" 347 mt_X12_write.1 := Or.inl (tb_8 _ (List.mem_of_getElem? (i := 106) rfl))
set_option maxRecDepth 20000 in
theorem nl_X12_351 : NL "ParapetCourtModel" 351 mt_X12_turnedFrom.1 := Or.inl (tb_8 _ (List.mem_of_getElem? (i := 120) rfl))
set_option maxRecDepth 20000 in
theorem nl_X12_354 : NL "ParapetCourtModel" 354 mt_X12_isMore.1 := Or.inl (tb_8 _ (List.mem_of_getElem? (i := 128) rfl))
set_option maxRecDepth 20000 in
theorem nl_X12_357 : NL "ParapetCourtModel" 357 mt_X12_isCondemned.1 := Or.inl (tb_8 _ (List.mem_of_getElem? (i := 124) rfl))
set_option maxRecDepth 20000 in
theorem nl_X12_360 : NL "ParapetCourtModel" 360 mt_X12_falls.1 := Or.inl (tb_8 _ (List.mem_of_getElem? (i := 132) rfl))
set_option maxRecDepth 20000 in
theorem nl_X12_363 : NL "ParapetCourtModel" 363 mt_X12_whyNoTrial.1 := Or.inl (tb_8 _ (List.mem_of_getElem? (i := 111) rfl))
set_option maxRecDepth 20000 in
theorem nl_X12_366 : NL "ParapetCourtModel" 366 mt_X12_tries.1 := Or.inl (tb_8 _ (List.mem_of_getElem? (i := 116) rfl))
set_option maxRecDepth 20000 in
theorem nl_X12_372 : NL "ParapetCourtModel" 372 mt_X12_ages.1 := Or.inl (tb_8 _ (List.mem_of_getElem? (i := 140) rfl))
set_option maxRecDepth 20000 in
theorem nl_X12_377 : NL "ParapetCourtModel" 377 mt_X12_clears.1 := Or.inl (tb_8 _ (List.mem_of_getElem? (i := 153) rfl))
set_option maxRecDepth 20000 in
theorem nl_X12_380 : NL "ParapetCourtModel" 380 mt_X12_flies.1 := Or.inl (tb_8 _ (List.mem_of_getElem? (i := 169) rfl))
set_option maxRecDepth 20000 in
theorem nl_X12_385 : NL "ParapetCourtModel" 385 mt_X12_placeBy.1 := Or.inl (tb_8 _ (List.mem_of_getElem? (i := 202) rfl))
set_option maxRecDepth 20000 in
theorem nl_X12_391 : NL "ParapetCourtModel" 391 mt_X12_numberOf.1 := Or.inl (tb_8 _ (List.mem_of_getElem? (i := 227) rfl))
set_option maxRecDepth 20000 in
theorem nl_X12_398 : NL "ParapetCourtModel" 398 mt_X12_turns.1 := Or.inl (tb_8 _ (List.mem_of_getElem? (i := 235) rfl))
set_option maxRecDepth 20000 in
theorem nl_X12_402 : NL "ParapetCourtModel" 402 mt_X12_whyNoFits.1 := Or.inl (tb_8 _ (List.mem_of_getElem? (i := 222) rfl))
set_option maxRecDepth 20000 in
theorem nl_X12_405 : NL "ParapetCourtModel" 405 mt_X12_laysFits.1 := Or.inl (tb_8 _ (List.mem_of_getElem? (i := 231) rfl))
set_option maxRecDepth 20000 in
theorem nl_X12_410 : NL "ParapetCourtModel" 410 mt_X12_holds.1 := Or.inl (tb_9 _ (List.mem_of_getElem? (i := 24) rfl))
set_option maxRecDepth 20000 in
theorem nl_X12_413 : NL "ParapetCourtModel" 413 mt_X12_cutsFrom.1 := Or.inl (tb_9 _ (List.mem_of_getElem? (i := 20) rfl))
set_option maxRecDepth 20000 in
theorem nl_X12_417 : NL "ParapetCourtModel" 417 mt_X12_whyNoCuts.1 := Or.inl (tb_9 _ (List.mem_of_getElem? (i := 11) rfl))
set_option maxRecDepth 20000 in
theorem nl_X12_420 : NL "ParapetCourtModel" 420 mt_X12_cutting.1 := Or.inl (tb_9 _ (List.mem_of_getElem? (i := 16) rfl))
set_option maxRecDepth 20000 in
theorem nl_X12_423 : NL "ParapetCourtModel" 423 mt_X12_whyNoWindows.1 := Or.inl (tb_9 _ (List.mem_of_getElem? (i := 36) rfl))
set_option maxRecDepth 20000 in
theorem nl_X12_426 : NL "ParapetCourtModel" 426 mt_X12_windowsFor.1 := Or.inl (tb_9 _ (List.mem_of_getElem? (i := 40) rfl))
set_option maxRecDepth 20000 in
theorem nl_X12_429 : NL "ParapetCourtModel" 429 mt_X12_stepsTo.1 := Or.inl (tb_9 _ (List.mem_of_getElem? (i := 56) rfl))
set_option maxRecDepth 20000 in
theorem nl_X12_436 : NL "ParapetCourtModel" 436 mt_X12_walkOf.1 := Or.inl (tb_9 _ (List.mem_of_getElem? (i := 52) rfl))
set_option maxRecDepth 20000 in
theorem nl_X12_439 : NL "ParapetCourtModel" 439 mt_X12_scoreOf.1 := Or.inl (tb_9 _ (List.mem_of_getElem? (i := 80) rfl))
set_option maxRecDepth 20000 in
theorem nl_X12_443 : NL "ParapetCourtModel" 443 mt_X12_plays.1 := Or.inl (tb_9 _ (List.mem_of_getElem? (i := 76) rfl))
set_option maxRecDepth 20000 in
theorem nl_X12_450 : NL "ParapetCourtModel" 450 mt_X12_whyNoGame.1 := Or.inl (tb_9 _ (List.mem_of_getElem? (i := 72) rfl))
set_option maxRecDepth 20000 in
theorem nl_X12_453 : NL "ParapetCourtModel" 453 mt_X12_fraction.1 := Or.inl (tb_9 _ (List.mem_of_getElem? (i := 92) rfl))
set_option maxRecDepth 20000 in
theorem nl_X12_466 : NL "ParapetCourtModel" 466 mt_X12_draw.1 := Or.inl (tb_9 _ (List.mem_of_getElem? (i := 137) rfl))
set_option maxRecDepth 20000 in
theorem nl_X12_469 : NL "ParapetCourtModel" 469 mt_X12_anyYears.1 := Or.inl (tb_9 _ (List.mem_of_getElem? (i := 125) rfl))
set_option maxRecDepth 20000 in
theorem nl_X12_472 : NL "ParapetCourtModel" 472 mt_X12_isCut.1 := Or.inl (tb_9 _ (List.mem_of_getElem? (i := 129) rfl))
set_option maxRecDepth 20000 in
theorem nl_X12_475 : NL "ParapetCourtModel" 475 mt_X12_isAny.1 := Or.inl (tb_9 _ (List.mem_of_getElem? (i := 133) rfl))
set_option maxRecDepth 20000 in
theorem nl_X12_490 : NL "ParapetCourtModel" 490 mt_X12_does.1 := Or.inl (tb_9 _ (List.mem_of_getElem? (i := 121) rfl))
set_option maxRecDepth 20000 in
theorem nl_X12_493 : NL "ParapetCourtModel" 493 mt_X12_isSo.1 := Or.inl (tb_9 _ (List.mem_of_getElem? (i := 142) rfl))
set_option maxRecDepth 20000 in
theorem nl_X12_496 : NL "ParapetCourtModel" 496 mt_X12_doAll.1 := Or.inl (tb_9 _ (List.mem_of_getElem? (i := 113) rfl))
set_option maxRecDepth 20000 in
theorem nl_X12_499 : NL "ParapetCourtModel" 499 mt_X12_doOne.1 := Or.inl (tb_9 _ (List.mem_of_getElem? (i := 117) rfl))
set_option maxRecDepth 20000 in
theorem nl_X12_510 : NL "ParapetCourtModel" 510 mt_X12_runsTerms.1 := Or.inl (tb_9 _ (List.mem_of_getElem? (i := 109) rfl))
set_option maxRecDepth 20000 in
theorem nl_X12_66 : NL "ParapetCourtModel" 66 mt_X12_empties.1 := Or.inl (tb_6 _ (List.mem_of_getElem? (i := 131) rfl))
set_option maxRecDepth 20000 in
theorem nl_X12_79 : Cond.methodLink "ParapetCourtModel" 79 ⟨"java/lang/Math", "abs", "(J)J"⟩ ∈ lw_tbl := tb_9 _ (List.mem_of_getElem? (i := 96) rfl)
set_option maxRecDepth 20000 in
theorem nl_X12_85 : NL "ParapetCourtModel" 85 mt_X12_no.1 := Or.inl (tb_7 _ (List.mem_of_getElem? (i := 47) rfl))
set_option maxRecDepth 20000 in
theorem nl_X12_89 : NL "ParapetCourtModel" 89 mt_X12_trayed.1 := Or.inl (tb_7 _ (List.mem_of_getElem? (i := 59) rfl))
set_option maxRecDepth 20000 in
theorem nl_X12_93 : NL "ParapetCourtModel" 93 mt_X12_placed.1 := Or.inl (tb_7 _ (List.mem_of_getElem? (i := 55) rfl))
set_option maxRecDepth 20000 in
theorem nl_X12_97 : NL "ParapetCourtModel" 97 mt_X12_cut.1 := Or.inl (tb_7 _ (List.mem_of_getElem? (i := 63) rfl))
set_option maxRecDepth 20000 in
theorem nl_X1_33 : NL "ParapetCourt$Debate" 33 mt_X1_canSway.1 := Or.inl (tb_5 _ (List.mem_of_getElem? (i := 224) rfl))
set_option maxRecDepth 20000 in
theorem nl_X1_37 : NL "ParapetCourt$Debate" 37 mt_X1_canKeep.1 := Or.inl (tb_5 _ (List.mem_of_getElem? (i := 234) rfl))
set_option maxRecDepth 20000 in
theorem nl_X1_40 : NL "ParapetCourt$Debate" 40 mt_X9_mercyFor.1 := Or.inr ⟨"ParapetCourt", tb_5 _ (List.mem_of_getElem? (i := 233) rfl)⟩
set_option maxRecDepth 20000 in
theorem nl_X1_44 : NL "ParapetCourt$Debate" 44 mt_X9_isStone.1 := Or.inr ⟨"ParapetCourt", tb_5 _ (List.mem_of_getElem? (i := 228) rfl)⟩
set_option maxRecDepth 20000 in
theorem nl_X1_48 : NL "ParapetCourt$Debate" 48 mt_X1_excess.1 := Or.inl (tb_5 _ (List.mem_of_getElem? (i := 229) rfl))
set_option maxRecDepth 20000 in
theorem nl_X1_52 : NL "ParapetCourt$Debate" 52 mt_X9_turnCount.1 := Or.inr ⟨"ParapetCourt", tb_6 _ (List.mem_of_getElem? (i := 2) rfl)⟩
set_option maxRecDepth 20000 in
theorem nl_X1_56 : NL "ParapetCourt$Debate" 56 mt_X1_gain.1 := Or.inl (tb_6 _ (List.mem_of_getElem? (i := 3) rfl))
set_option maxRecDepth 20000 in
theorem nl_X1_60 : Cond.methodLink "ParapetCourt$Debate" 60 ⟨"java/lang/Math", "max", "(II)I"⟩ ∈ lw_tbl := tb_6 _ (List.mem_of_getElem? (i := 6) rfl)
set_option maxRecDepth 20000 in
theorem nl_X1_65 : Cond.methodLink "ParapetCourt$Debate" 65 ⟨"java/lang/Math", "min", "(II)I"⟩ ∈ lw_tbl := tb_6 _ (List.mem_of_getElem? (i := 7) rfl)
set_option maxRecDepth 20000 in
theorem nl_X1_68 : NL "ParapetCourt$Debate" 68 mt_X1_gainBy.1 := Or.inl (tb_6 _ (List.mem_of_getElem? (i := 16) rfl))
set_option maxRecDepth 20000 in
theorem nl_X2_15 : NL "ParapetCourt$Fraction" 15 mt_X2_commonDivisor.1 := Or.inl (tb_6 _ (List.mem_of_getElem? (i := 29) rfl))
set_option maxRecDepth 20000 in
theorem nl_X2_22 : NL "ParapetCourt$Fraction" 22 mt_X2_power.1 := Or.inl (tb_6 _ (List.mem_of_getElem? (i := 40) rfl))
set_option maxRecDepth 20000 in
theorem nl_X2_28 : NL "ParapetCourt$Fraction" 28 mt_X2_tell.1 := Or.inl (tb_6 _ (List.mem_of_getElem? (i := 44) rfl))
set_option maxRecDepth 20000 in
theorem nl_X3_18 : Cond.methodLink "ParapetCourt$Guess" 18 ⟨"java/lang/Math", "max", "(II)I"⟩ ∈ lw_tbl := tb_5 _ (List.mem_of_getElem? (i := 88) rfl)
set_option maxRecDepth 20000 in
theorem nl_X3_24 : Cond.methodLink "ParapetCourt$Guess" 24 ⟨"java/lang/Math", "min", "(II)I"⟩ ∈ lw_tbl := tb_5 _ (List.mem_of_getElem? (i := 91) rfl)
set_option maxRecDepth 20000 in
theorem nl_X3_32 : NL "ParapetCourt$Guess" 32 mt_X9_isStone.1 := Or.inr ⟨"ParapetCourt", tb_5 _ (List.mem_of_getElem? (i := 108) rfl)⟩
set_option maxRecDepth 20000 in
theorem nl_X3_36 : NL "ParapetCourt$Guess" 36 mt_X9_mercyFor.1 := Or.inr ⟨"ParapetCourt", tb_5 _ (List.mem_of_getElem? (i := 109) rfl)⟩
set_option maxRecDepth 20000 in
theorem nl_X3_40 : NL "ParapetCourt$Guess" 40 mt_X3_greaterPart.1 := Or.inl (tb_5 _ (List.mem_of_getElem? (i := 110) rfl))
set_option maxRecDepth 20000 in
theorem nl_X3_50 : NL "ParapetCourt$Guess" 50 mt_X3_count.1 := Or.inl (tb_5 _ (List.mem_of_getElem? (i := 114) rfl))
set_option maxRecDepth 20000 in
theorem nl_X4_105 : NL "ParapetCourt$Life" 105 mt_X4_compares.1 := Or.inl (tb_6 _ (List.mem_of_getElem? (i := 102) rfl))
set_option maxRecDepth 20000 in
theorem nl_X4_109 : NL "ParapetCourt$Life" 109 mt_X9_passYears.1 := Or.inr ⟨"ParapetCourt", tb_6 _ (List.mem_of_getElem? (i := 62) rfl)⟩
set_option maxRecDepth 20000 in
theorem nl_X4_112 : NL "ParapetCourt$Life" 112 mt_X9_holdTrial.1 := Or.inr ⟨"ParapetCourt", tb_6 _ (List.mem_of_getElem? (i := 63) rfl)⟩
set_option maxRecDepth 20000 in
theorem nl_X4_116 : NL "ParapetCourt$Life" 116 mt_X4_triesAny.1 := Or.inl (tb_6 _ (List.mem_of_getElem? (i := 64) rfl))
set_option maxRecDepth 20000 in
theorem nl_X4_120 : NL "ParapetCourt$Life" 120 mt_X4_reshapes.1 := Or.inl (tb_6 _ (List.mem_of_getElem? (i := 73) rfl))
set_option maxRecDepth 20000 in
theorem nl_X4_124 : NL "ParapetCourt$Life" 124 mt_X4_clears.1 := Or.inl (tb_6 _ (List.mem_of_getElem? (i := 78) rfl))
set_option maxRecDepth 20000 in
theorem nl_X4_127 : NL "ParapetCourt$Life" 127 mt_X4_flies.1 := Or.inl (tb_6 _ (List.mem_of_getElem? (i := 82) rfl))
set_option maxRecDepth 20000 in
theorem nl_X4_133 : NL "ParapetCourt$Life" 133 mt_X4_draw.1 := Or.inl (tb_6 _ (List.mem_of_getElem? (i := 68) rfl))
set_option maxRecDepth 20000 in
theorem nl_X4_143 : NL "ParapetCourt$Life" 143 mt_X9_isCrow.1 := Or.inr ⟨"ParapetCourt", tb_6 _ (List.mem_of_getElem? (i := 86) rfl)⟩
set_option maxRecDepth 20000 in
theorem nl_X4_149 : NL "ParapetCourt$Life" 149 mt_X9_moveCrow.1 := Or.inr ⟨"ParapetCourt", tb_6 _ (List.mem_of_getElem? (i := 87) rfl)⟩
set_option maxRecDepth 20000 in
theorem nl_X4_62 : NL "ParapetCourt$Life" 62 mt_X4_isDone.1 := Or.inl (tb_6 _ (List.mem_of_getElem? (i := 58) rfl))
set_option maxRecDepth 20000 in
theorem nl_X4_66 : NL "ParapetCourt$Life" 66 mt_X4_whereNext.1 := Or.inl (tb_6 _ (List.mem_of_getElem? (i := 88) rfl))
set_option maxRecDepth 20000 in
theorem nl_X4_76 : NL "ParapetCourt$Life" 76 mt_X4_isEmptyBlock.1 := Or.inl (tb_6 _ (List.mem_of_getElem? (i := 92) rfl))
set_option maxRecDepth 20000 in
theorem nl_X4_79 : NL "ParapetCourt$Life" 79 mt_X4_holds.1 := Or.inl (tb_6 _ (List.mem_of_getElem? (i := 96) rfl))
set_option maxRecDepth 20000 in
theorem nl_X4_82 : NL "ParapetCourt$Life" 82 mt_X4_goesRound.1 := Or.inl (tb_6 _ (List.mem_of_getElem? (i := 105) rfl))
set_option maxRecDepth 20000 in
theorem nl_X4_85 : NL "ParapetCourt$Life" 85 mt_X9_isPlace.1 := Or.inr ⟨"ParapetCourt", tb_6 _ (List.mem_of_getElem? (i := 100) rfl)⟩
set_option maxRecDepth 20000 in
theorem nl_X4_89 : NL "ParapetCourt$Life" 89 mt_X9_isStone.1 := Or.inr ⟨"ParapetCourt", tb_6 _ (List.mem_of_getElem? (i := 77) rfl)⟩
set_option maxRecDepth 20000 in
theorem nl_X4_98 : NL "ParapetCourt$Life" 98 mt_X9_mercyFor.1 := Or.inr ⟨"ParapetCourt", tb_6 _ (List.mem_of_getElem? (i := 101) rfl)⟩
set_option maxRecDepth 20000 in
theorem nl_X5_38 : NL "ParapetCourt$Terms" 38 mt_X5_add.1 := Or.inl (tb_4 _ (List.mem_of_getElem? (i := 53) rfl))
set_option maxRecDepth 20000 in
theorem nl_X6_102 : NL "ParapetCourt$TermsReader" 102 mt_X6_readStone.1 := Or.inl (tb_4 _ (List.mem_of_getElem? (i := 100) rfl))
set_option maxRecDepth 20000 in
theorem nl_X6_105 : NL "ParapetCourt$TermsReader" 105 mt_X7_takeNumber.1 := Or.inr ⟨"ParapetCourt", tb_4 _ (List.mem_of_getElem? (i := 75) rfl)⟩
set_option maxRecDepth 20000 in
theorem nl_X6_111 : NL "ParapetCourt$TermsReader" 111 mt_X6_takeStone.1 := Or.inl (tb_4 _ (List.mem_of_getElem? (i := 87) rfl))
set_option maxRecDepth 20000 in
theorem nl_X6_122 : NL "ParapetCourt$TermsReader" 122 mt_X7_isName.1 := Or.inr ⟨"ParapetCourt", tb_4 _ (List.mem_of_getElem? (i := 85) rfl)⟩
set_option maxRecDepth 20000 in
theorem nl_X6_129 : NL "ParapetCourt$TermsReader" 129 mt_X9_crowNamed.1 := Or.inr ⟨"ParapetCourt", tb_4 _ (List.mem_of_getElem? (i := 86) rfl)⟩
set_option maxRecDepth 20000 in
theorem nl_X6_133 : NL "ParapetCourt$TermsReader" 133 mt_X7_takeComparison.1 := Or.inr ⟨"ParapetCourt", tb_4 _ (List.mem_of_getElem? (i := 96) rfl)⟩
set_option maxRecDepth 20000 in
theorem nl_X6_136 : NL "ParapetCourt$TermsReader" 136 mt_X9_stoneNamed.1 := Or.inr ⟨"ParapetCourt", tb_4 _ (List.mem_of_getElem? (i := 91) rfl)⟩
set_option maxRecDepth 20000 in
theorem nl_X6_34 : NL "ParapetCourt$TermsReader" 34 mt_X5_forget.1 := Or.inr ⟨"ParapetCourt", tb_4 _ (List.mem_of_getElem? (i := 41) rfl)⟩
set_option maxRecDepth 20000 in
theorem nl_X6_41 : NL "ParapetCourt$TermsReader" 41 mt_X7_isAtEnd.1 := Or.inr ⟨"ParapetCourt", tb_4 _ (List.mem_of_getElem? (i := 42) rfl)⟩
set_option maxRecDepth 20000 in
theorem nl_X6_47 : NL "ParapetCourt$TermsReader" 47 mt_X7_isWord.1 := Or.inr ⟨"ParapetCourt", tb_4 _ (List.mem_of_getElem? (i := 43) rfl)⟩
set_option maxRecDepth 20000 in
theorem nl_X6_51 : NL "ParapetCourt$TermsReader" 51 mt_X6_readEnd.1 := Or.inl (tb_4 _ (List.mem_of_getElem? (i := 44) rfl))
set_option maxRecDepth 20000 in
theorem nl_X6_54 : NL "ParapetCourt$TermsReader" 54 mt_X6_beginsStep.1 := Or.inl (tb_4 _ (List.mem_of_getElem? (i := 59) rfl))
set_option maxRecDepth 20000 in
theorem nl_X6_57 : NL "ParapetCourt$TermsReader" 57 mt_X6_readStep.1 := Or.inl (tb_4 _ (List.mem_of_getElem? (i := 67) rfl))
set_option maxRecDepth 20000 in
theorem nl_X6_60 : NL "ParapetCourt$TermsReader" 60 mt_X7_refuse.1 := Or.inr ⟨"ParapetCourt", tb_4 _ (List.mem_of_getElem? (i := 48) rfl)⟩
set_option maxRecDepth 20000 in
theorem nl_X6_63 : NL "ParapetCourt$TermsReader" 63 mt_X5_close.1 := Or.inr ⟨"ParapetCourt", tb_4 _ (List.mem_of_getElem? (i := 49) rfl)⟩
set_option maxRecDepth 20000 in
theorem nl_X6_67 : NL "ParapetCourt$TermsReader" 67 mt_X7_step.1 := Or.inr ⟨"ParapetCourt", tb_4 _ (List.mem_of_getElem? (i := 57) rfl)⟩
set_option maxRecDepth 20000 in
theorem nl_X6_70 : NL "ParapetCourt$TermsReader" 70 mt_X7_takeSign.1 := Or.inr ⟨"ParapetCourt", tb_4 _ (List.mem_of_getElem? (i := 58) rfl)⟩
set_option maxRecDepth 20000 in
theorem nl_X6_73 : NL "ParapetCourt$TermsReader" 73 mt_X7_isStepWord.1 := Or.inr ⟨"ParapetCourt", tb_4 _ (List.mem_of_getElem? (i := 63) rfl)⟩
set_option maxRecDepth 20000 in
theorem nl_X6_85 : NL "ParapetCourt$TermsReader" 85 mt_X6_readCount.1 := Or.inl (tb_4 _ (List.mem_of_getElem? (i := 71) rfl))
set_option maxRecDepth 20000 in
theorem nl_X6_89 : NL "ParapetCourt$TermsReader" 89 mt_X6_readTry.1 := Or.inl (tb_4 _ (List.mem_of_getElem? (i := 77) rfl))
set_option maxRecDepth 20000 in
theorem nl_X6_92 : NL "ParapetCourt$TermsReader" 92 mt_X6_readFly.1 := Or.inl (tb_4 _ (List.mem_of_getElem? (i := 81) rfl))
set_option maxRecDepth 20000 in
theorem nl_X6_95 : NL "ParapetCourt$TermsReader" 95 mt_X6_readTest.1 := Or.inl (tb_4 _ (List.mem_of_getElem? (i := 92) rfl))
set_option maxRecDepth 20000 in
theorem nl_X6_98 : NL "ParapetCourt$TermsReader" 98 mt_X5_add.1 := Or.inr ⟨"ParapetCourt", tb_4 _ (List.mem_of_getElem? (i := 76) rfl)⟩
set_option maxRecDepth 20000 in
theorem nl_X7_40 : Cond.methodLink "ParapetCourt$Text" 40 ⟨"java/lang/Math", "min", "(II)I"⟩ ∈ lw_tbl := tb_3 _ (List.mem_of_getElem? (i := 130) rfl)
set_option maxRecDepth 20000 in
theorem nl_X7_51 : NL "ParapetCourt$Text" 51 mt_X7_step.1 := Or.inl (tb_3 _ (List.mem_of_getElem? (i := 133) rfl))
set_option maxRecDepth 20000 in
theorem nl_X7_60 : NL "ParapetCourt$Text" 60 mt_X7_isLetter.1 := Or.inl (tb_3 _ (List.mem_of_getElem? (i := 137) rfl))
set_option maxRecDepth 20000 in
theorem nl_X7_64 : NL "ParapetCourt$Text" 64 mt_X7_stepWord.1 := Or.inl (tb_3 _ (List.mem_of_getElem? (i := 140) rfl))
set_option maxRecDepth 20000 in
theorem nl_X7_67 : NL "ParapetCourt$Text" 67 mt_X7_isDigit.1 := Or.inl (tb_3 _ (List.mem_of_getElem? (i := 149) rfl))
set_option maxRecDepth 20000 in
theorem nl_X7_70 : NL "ParapetCourt$Text" 70 mt_X7_stepNumber.1 := Or.inl (tb_3 _ (List.mem_of_getElem? (i := 152) rfl))
set_option maxRecDepth 20000 in
theorem nl_X7_73 : NL "ParapetCourt$Text" 73 mt_X7_stepSign.1 := Or.inl (tb_3 _ (List.mem_of_getElem? (i := 156) rfl))
set_option maxRecDepth 20000 in
theorem nl_X7_82 : NL "ParapetCourt$Text" 82 mt_X7_keyOf.1 := Or.inl (tb_3 _ (List.mem_of_getElem? (i := 145) rfl))
set_option maxRecDepth 20000 in
theorem nl_X7_92 : NL "ParapetCourt$Text" 92 mt_X7_isWord.1 := Or.inl (tb_3 _ (List.mem_of_getElem? (i := 226) rfl))
set_option maxRecDepth 20000 in
theorem nl_X7_95 : NL "ParapetCourt$Text" 95 mt_X7_refuse.1 := Or.inl (tb_3 _ (List.mem_of_getElem? (i := 189) rfl))
set_option maxRecDepth 20000 in
theorem nl_X7_98 : NL "ParapetCourt$Text" 98 mt_X7_isSign.1 := Or.inl (tb_3 _ (List.mem_of_getElem? (i := 194) rfl))
set_option maxRecDepth 20000 in
theorem nl_X9_100 : NL "ParapetCourt$Wall" 100 mt_X9_mercyFor.1 := Or.inl (tb_4 _ (List.mem_of_getElem? (i := 191) rfl))
set_option maxRecDepth 20000 in
theorem nl_X9_104 : NL "ParapetCourt$Wall" 104 mt_X9_turningFrom.1 := Or.inl (tb_4 _ (List.mem_of_getElem? (i := 186) rfl))
set_option maxRecDepth 20000 in
theorem nl_X9_107 : NL "ParapetCourt$Wall" 107 mt_X9_isMost.1 := Or.inl (tb_4 _ (List.mem_of_getElem? (i := 192) rfl))
set_option maxRecDepth 20000 in
theorem nl_X9_111 : NL "ParapetCourt$Wall" 111 mt_X9_weaken.1 := Or.inl (tb_4 _ (List.mem_of_getElem? (i := 196) rfl))
set_option maxRecDepth 20000 in
theorem nl_X9_114 : NL "ParapetCourt$Wall" 114 mt_X9_turnCount.1 := Or.inl (tb_5 _ (List.mem_of_getElem? (i := 42) rfl))
set_option maxRecDepth 20000 in
theorem nl_X9_117 : NL "ParapetCourt$Wall" 117 mt_X9_condemns.1 := Or.inl (tb_5 _ (List.mem_of_getElem? (i := 58) rfl))
set_option maxRecDepth 20000 in
theorem nl_X9_121 : NL "ParapetCourt$Wall" 121 mt_X9_stoneCount.1 := Or.inl (tb_5 _ (List.mem_of_getElem? (i := 169) rfl))
set_option maxRecDepth 20000 in
theorem nl_X9_125 : Cond.methodLink "ParapetCourt$Wall" 125 ⟨"java/lang/Math", "floorMod", "(II)I"⟩ ∈ lw_tbl := tb_5 _ (List.mem_of_getElem? (i := 187) rfl)
set_option maxRecDepth 20000 in
theorem nl_X9_128 : NL "ParapetCourt$Wall" 128 mt_X9_isRowOfStones.1 := Or.inl (tb_5 _ (List.mem_of_getElem? (i := 190) rfl))
set_option maxRecDepth 20000 in
theorem nl_X9_132 : NL "ParapetCourt$Wall" 132 mt_X9_around.1 := Or.inl (tb_5 _ (List.mem_of_getElem? (i := 194) rfl))
set_option maxRecDepth 20000 in
theorem nl_X9_135 : Cond.methodLink "ParapetCourt$Wall" 135 ⟨"java/lang/Math", "max", "(II)I"⟩ ∈ lw_tbl := tb_5 _ (List.mem_of_getElem? (i := 211) rfl)
set_option maxRecDepth 20000 in
theorem nl_X9_63 : NL "ParapetCourt$Wall" 63 mt_JI_bitCount.1 := Or.inl (tb_4 _ (List.mem_of_getElem? (i := 120) rfl))
set_option maxRecDepth 20000 in
theorem nl_X9_71 : NL "ParapetCourt$Wall" 71 mt_X9_addPlace.1 := Or.inl (tb_4 _ (List.mem_of_getElem? (i := 12) rfl))
set_option maxRecDepth 20000 in
theorem nl_X9_75 : NL "ParapetCourt$Wall" 75 mt_X9_isFull.1 := Or.inl (tb_3 _ (List.mem_of_getElem? (i := 235) rfl))
set_option maxRecDepth 20000 in
theorem nl_X9_79 : NL "ParapetCourt$Wall" 79 mt_X9_makeGap.1 := Or.inl (tb_3 _ (List.mem_of_getElem? (i := 236) rfl))
set_option maxRecDepth 20000 in
theorem nl_X9_83 : NL "ParapetCourt$Wall" 83 mt_X9_moveCrow.1 := Or.inl (tb_4 _ (List.mem_of_getElem? (i := 21) rfl))
set_option maxRecDepth 20000 in
theorem nl_X9_87 : NL "ParapetCourt$Wall" 87 mt_X9_isStone.1 := Or.inl (tb_4 _ (List.mem_of_getElem? (i := 190) rfl))
set_option maxRecDepth 20000 in
theorem nl_X9_91 : Cond.methodLink "ParapetCourt$Wall" 91 ⟨"java/lang/Math", "min", "(II)I"⟩ ∈ lw_tbl := tb_4 _ (List.mem_of_getElem? (i := 157) rfl)
set_option maxRecDepth 20000 in
theorem nl_X9_97 : Cond.methodLink "ParapetCourt$Wall" 97 ⟨"java/lang/Math", "abs", "(I)I"⟩ ∈ lw_tbl := tb_4 _ (List.mem_of_getElem? (i := 154) rfl)
theorem kw_JI_265 : Cond.constant "java/lang/Integer" 265 (Int32.ofInt 1431655765) ∈ lw_tbl ∧ R32 1431655765 := ⟨tb_4 _ (List.mem_of_getElem? (i := 123) (by decide +kernel)), ⟨by decide, by decide⟩⟩
theorem kw_JI_266 : Cond.constant "java/lang/Integer" 266 (Int32.ofInt 858993459) ∈ lw_tbl ∧ R32 858993459 := ⟨tb_4 _ (List.mem_of_getElem? (i := 124) (by decide +kernel)), ⟨by decide, by decide⟩⟩
theorem kw_JI_267 : Cond.constant "java/lang/Integer" 267 (Int32.ofInt 252645135) ∈ lw_tbl ∧ R32 252645135 := ⟨tb_4 _ (List.mem_of_getElem? (i := 125) (by decide +kernel)), ⟨by decide, by decide⟩⟩
theorem kw_X11_147 : Cond.constantLong "ParapetCourt" 147 (Int64.ofInt (-1)) ∈ lw_tbl ∧ R64 (-1) := ⟨tb_3 _ (List.mem_of_getElem? (i := 102) (by decide +kernel)), ⟨by decide, by decide⟩⟩
theorem kw_X11_308 : Cond.constantLong "ParapetCourt" 308 (Int64.ofInt 99) ∈ lw_tbl ∧ R64 99 := ⟨tb_4 _ (List.mem_of_getElem? (i := 181) (by decide +kernel)), ⟨by decide, by decide⟩⟩
theorem kw_X11_374 : Cond.constantLong "ParapetCourt" 374 (Int64.ofInt 3) ∈ lw_tbl ∧ R64 3 := ⟨tb_5 _ (List.mem_of_getElem? (i := 79) (by decide +kernel)), ⟨by decide, by decide⟩⟩
theorem kw_X12_100 : Cond.constantLong "ParapetCourtModel" 100 (Int64.ofInt (-1)) ∈ lw_tbl ∧ R64 (-1) := ⟨tb_7 _ (List.mem_of_getElem? (i := 70) (by decide +kernel)), ⟨by decide, by decide⟩⟩
theorem kw_X12_102 : Cond.constantLong "ParapetCourtModel" 102 (Int64.ofInt 3) ∈ lw_tbl ∧ R64 3 := ⟨tb_8 _ (List.mem_of_getElem? (i := 105) (by decide +kernel)), ⟨by decide, by decide⟩⟩
theorem kw_X12_133 : Cond.constantLong "ParapetCourtModel" 133 (Int64.ofInt 32) ∈ lw_tbl ∧ R64 32 := ⟨tb_7 _ (List.mem_of_getElem? (i := 106) (by decide +kernel)), ⟨by decide, by decide⟩⟩
theorem kw_X12_135 : Cond.constantLong "ParapetCourtModel" 135 (Int64.ofInt 96) ∈ lw_tbl ∧ R64 96 := ⟨tb_7 _ (List.mem_of_getElem? (i := 107) (by decide +kernel)), ⟨by decide, by decide⟩⟩
theorem kw_X12_157 : Cond.constantLong "ParapetCourtModel" 157 (Int64.ofInt 116) ∈ lw_tbl ∧ R64 116 := ⟨tb_7 _ (List.mem_of_getElem? (i := 173) (by decide +kernel)), ⟨by decide, by decide⟩⟩
theorem kw_X12_316 : Cond.constantLong "ParapetCourtModel" 316 (Int64.ofInt 9) ∈ lw_tbl ∧ R64 9 := ⟨tb_8 _ (List.mem_of_getElem? (i := 43) (by decide +kernel)), ⟨by decide, by decide⟩⟩
theorem kw_X12_333 : Cond.constantLong "ParapetCourtModel" 333 (Int64.ofInt 4) ∈ lw_tbl ∧ R64 4 := ⟨tb_8 _ (List.mem_of_getElem? (i := 74) (by decide +kernel)), ⟨by decide, by decide⟩⟩
theorem kw_X12_370 : Cond.constantLong "ParapetCourtModel" 370 (Int64.ofInt 99) ∈ lw_tbl ∧ R64 99 := ⟨tb_8 _ (List.mem_of_getElem? (i := 115) (by decide +kernel)), ⟨by decide, by decide⟩⟩
theorem kw_X12_375 : Cond.constantLong "ParapetCourtModel" 375 (Int64.ofInt 30) ∈ lw_tbl ∧ R64 30 := ⟨tb_8 _ (List.mem_of_getElem? (i := 148) (by decide +kernel)), ⟨by decide, by decide⟩⟩
theorem kw_X12_383 : Cond.constantLong "ParapetCourtModel" 383 (Int64.ofInt 16) ∈ lw_tbl ∧ R64 16 := ⟨tb_8 _ (List.mem_of_getElem? (i := 181) (by decide +kernel)), ⟨by decide, by decide⟩⟩
theorem kw_X12_389 : Cond.constantLong "ParapetCourtModel" 389 (Int64.ofInt 20) ∈ lw_tbl ∧ R64 20 := ⟨tb_8 _ (List.mem_of_getElem? (i := 226) (by decide +kernel)), ⟨by decide, by decide⟩⟩
theorem kw_X12_408 : Cond.constantLong "ParapetCourtModel" 408 (Int64.ofInt 6) ∈ lw_tbl ∧ R64 6 := ⟨tb_9 _ (List.mem_of_getElem? (i := 15) (by decide +kernel)), ⟨by decide, by decide⟩⟩
theorem kw_X12_457 : Cond.constantLong "ParapetCourtModel" 457 (Int64.ofInt 10) ∈ lw_tbl ∧ R64 10 := ⟨tb_9 _ (List.mem_of_getElem? (i := 103) (by decide +kernel)), ⟨by decide, by decide⟩⟩
theorem kw_X12_462 : Cond.constant "ParapetCourtModel" 462 (Int32.ofInt 65536) ∈ lw_tbl ∧ R32 65536 := ⟨tb_9 _ (List.mem_of_getElem? (i := 141) (by decide +kernel)), ⟨by decide, by decide⟩⟩
theorem kw_X12_508 : Cond.constantLong "ParapetCourtModel" 508 (Int64.ofInt 9999) ∈ lw_tbl ∧ R64 9999 := ⟨tb_9 _ (List.mem_of_getElem? (i := 108) (by decide +kernel)), ⟨by decide, by decide⟩⟩
theorem kw_X2_26 : Cond.constantLong "ParapetCourt$Fraction" 26 (Int64.ofInt 16) ∈ lw_tbl ∧ R64 16 := ⟨tb_6 _ (List.mem_of_getElem? (i := 43) (by decide +kernel)), ⟨by decide, by decide⟩⟩
theorem kw_X4_139 : Cond.constant "ParapetCourt$Life" 139 (Int32.ofInt 65536) ∈ lw_tbl ∧ R32 65536 := ⟨tb_6 _ (List.mem_of_getElem? (i := 72) (by decide +kernel)), ⟨by decide, by decide⟩⟩
theorem kw_X4_53 : Cond.constant "ParapetCourt$Life" 53 (Int32.ofInt 100000) ∈ lw_tbl ∧ R32 100000 := ⟨tb_6 _ (List.mem_of_getElem? (i := 57) (by decide +kernel)), ⟨by decide, by decide⟩⟩
theorem kw_X7_38 : Cond.constantLong "ParapetCourt$Text" 38 (Int64.ofInt 27) ∈ lw_tbl ∧ R64 27 := ⟨tb_1 _ (List.mem_of_getElem? (i := 86) (by decide +kernel)), ⟨by decide, by decide⟩⟩
theorem kw_X7_80 : Cond.constantLong "ParapetCourt$Text" 80 (Int64.ofInt (-1)) ∈ lw_tbl ∧ R64 (-1) := ⟨tb_3 _ (List.mem_of_getElem? (i := 144) (by decide +kernel)), ⟨by decide, by decide⟩⟩
set_option maxRecDepth 20000 in
theorem mk_X12_empties : MKv mt_X12_empties 1 := ⟨⟨tb_6 _ (List.mem_of_getElem? (i := 134) rfl), ck_X12.1, ck_X12.2.1, ck_X12.2.2, by decide +kernel, by decide⟩, tb_6 _ (List.mem_of_getElem? (i := 133) rfl), sl_8 (⟨"ParapetCourtModel", "empties", "(I)V"⟩, 45) (List.mem_of_getElem? (i := 9) rfl)⟩
set_option maxRecDepth 20000 in
theorem mk_X11_status : MKv mt_X11_status 0 := ⟨⟨tb_3 _ (List.mem_of_getElem? (i := 51) rfl), ck_X11.1, ck_X11.2.1, ck_X11.2.2, by decide +kernel, by decide⟩, tb_3 _ (List.mem_of_getElem? (i := 49) rfl), tb_3 _ (List.mem_of_getElem? (i := 50) rfl)⟩
set_option maxRecDepth 20000 in
theorem mk_X12_status : MKv mt_X12_status 0 := ⟨⟨tb_7 _ (List.mem_of_getElem? (i := 34) rfl), ck_X12.1, ck_X12.2.1, ck_X12.2.2, by decide +kernel, by decide⟩, tb_7 _ (List.mem_of_getElem? (i := 32) rfl), tb_7 _ (List.mem_of_getElem? (i := 33) rfl)⟩
set_option maxRecDepth 20000 in
theorem mk_X11_top : MKv mt_X11_top 0 := ⟨⟨tb_3 _ (List.mem_of_getElem? (i := 55) rfl), ck_X11.1, ck_X11.2.1, ck_X11.2.2, by decide +kernel, by decide⟩, tb_3 _ (List.mem_of_getElem? (i := 53) rfl), tb_3 _ (List.mem_of_getElem? (i := 54) rfl)⟩
set_option maxRecDepth 20000 in
theorem mk_X12_top : MKv mt_X12_top 0 := ⟨⟨tb_7 _ (List.mem_of_getElem? (i := 38) rfl), ck_X12.1, ck_X12.2.1, ck_X12.2.2, by decide +kernel, by decide⟩, tb_7 _ (List.mem_of_getElem? (i := 36) rfl), tb_7 _ (List.mem_of_getElem? (i := 37) rfl)⟩
set_option maxRecDepth 20000 in
theorem mk_X11_bottom : MKv mt_X11_bottom 0 := ⟨⟨tb_3 _ (List.mem_of_getElem? (i := 59) rfl), ck_X11.1, ck_X11.2.1, ck_X11.2.2, by decide +kernel, by decide⟩, tb_3 _ (List.mem_of_getElem? (i := 57) rfl), tb_3 _ (List.mem_of_getElem? (i := 58) rfl)⟩
set_option maxRecDepth 20000 in
theorem mk_X12_bottom : MKv mt_X12_bottom 0 := ⟨⟨tb_7 _ (List.mem_of_getElem? (i := 42) rfl), ck_X12.1, ck_X12.2.1, ck_X12.2.2, by decide +kernel, by decide⟩, tb_7 _ (List.mem_of_getElem? (i := 40) rfl), tb_7 _ (List.mem_of_getElem? (i := 41) rfl)⟩
set_option maxRecDepth 20000 in
theorem mk_X11_isTray : MKs mt_X11_isTray 1 := ⟨⟨tb_3 _ (List.mem_of_getElem? (i := 66) rfl), ck_X11.1, ck_X11.2.1, ck_X11.2.2, by decide +kernel, by decide⟩, tb_3 _ (List.mem_of_getElem? (i := 65) rfl)⟩
set_option maxRecDepth 20000 in
theorem mk_X8_isSort : MKs mt_X8_isSort 1 := ⟨⟨tb_3 _ (List.mem_of_getElem? (i := 69) rfl), ck_X8.1, ck_X8.2.1, ck_X8.2.2, by decide +kernel, by decide⟩, tb_3 _ (List.mem_of_getElem? (i := 68) rfl)⟩
set_option maxRecDepth 20000 in
theorem mk_X11_refused : MKv mt_X11_refused 1 := ⟨⟨tb_3 _ (List.mem_of_getElem? (i := 73) rfl), ck_X11.1, ck_X11.2.1, ck_X11.2.2, by decide +kernel, by decide⟩, tb_3 _ (List.mem_of_getElem? (i := 72) rfl), sl_1 (⟨"ParapetCourt", "refused", "(I)Z"⟩, 20) (List.mem_of_getElem? (i := 0) rfl)⟩
set_option maxRecDepth 20000 in
theorem mk_X8_make : MKv mt_X8_make 2 := ⟨⟨tb_3 _ (List.mem_of_getElem? (i := 77) rfl), ck_X8.1, ck_X8.2.1, ck_X8.2.2, by decide +kernel, by decide⟩, tb_3 _ (List.mem_of_getElem? (i := 76) rfl), sl_1 (⟨"ParapetCourt$Tray", "make", "(II)V"⟩, 3) (List.mem_of_getElem? (i := 1) rfl)⟩
set_option maxRecDepth 20000 in
theorem mk_X11_tray : MKv mt_X11_tray 3 := ⟨⟨tb_3 _ (List.mem_of_getElem? (i := 63) rfl), ck_X11.1, ck_X11.2.1, ck_X11.2.2, by decide +kernel, by decide⟩, tb_3 _ (List.mem_of_getElem? (i := 61) rfl), tb_3 _ (List.mem_of_getElem? (i := 62) rfl)⟩
set_option maxRecDepth 20000 in
theorem mk_X12_no : MKv mt_X12_no 1 := ⟨⟨tb_7 _ (List.mem_of_getElem? (i := 50) rfl), ck_X12.1, ck_X12.2.1, ck_X12.2.2, by decide +kernel, by decide⟩, tb_7 _ (List.mem_of_getElem? (i := 49) rfl), sl_8 (⟨"ParapetCourtModel", "no", "(I)Z"⟩, 45) (List.mem_of_getElem? (i := 10) rfl)⟩
set_option maxRecDepth 20000 in
theorem mk_X12_tray : MKv mt_X12_tray 3 := ⟨⟨tb_7 _ (List.mem_of_getElem? (i := 46) rfl), ck_X12.1, ck_X12.2.1, ck_X12.2.2, by decide +kernel, by decide⟩, tb_7 _ (List.mem_of_getElem? (i := 44) rfl), tb_7 _ (List.mem_of_getElem? (i := 45) rfl)⟩
set_option maxRecDepth 20000 in
theorem mk_X8_isMissing : MKv mt_X8_isMissing 0 := ⟨⟨tb_3 _ (List.mem_of_getElem? (i := 89) rfl), ck_X8.1, ck_X8.2.1, ck_X8.2.2, by decide +kernel, by decide⟩, tb_3 _ (List.mem_of_getElem? (i := 88) rfl), sl_1 (⟨"ParapetCourt$Tray", "isMissing", "()Z"⟩, 3) (List.mem_of_getElem? (i := 3) rfl)⟩
set_option maxRecDepth 20000 in
theorem mk_X8_hasRow : MKv mt_X8_hasRow 2 := ⟨⟨tb_3 _ (List.mem_of_getElem? (i := 93) rfl), ck_X8.1, ck_X8.2.1, ck_X8.2.2, by decide +kernel, by decide⟩, tb_3 _ (List.mem_of_getElem? (i := 92) rfl), sl_1 (⟨"ParapetCourt$Tray", "hasRow", "(II)Z"⟩, 3) (List.mem_of_getElem? (i := 4) rfl)⟩
set_option maxRecDepth 20000 in
theorem mk_X11_trayPlaceWhy : MKv mt_X11_trayPlaceWhy 2 := ⟨⟨tb_3 _ (List.mem_of_getElem? (i := 85) rfl), ck_X11.1, ck_X11.2.1, ck_X11.2.2, by decide +kernel, by decide⟩, tb_3 _ (List.mem_of_getElem? (i := 84) rfl), sl_1 (⟨"ParapetCourt", "trayPlaceWhy", "(II)I"⟩, 20) (List.mem_of_getElem? (i := 2) rfl)⟩
set_option maxRecDepth 20000 in
theorem mk_X8_put : MKv mt_X8_put 2 := ⟨⟨tb_3 _ (List.mem_of_getElem? (i := 97) rfl), ck_X8.1, ck_X8.2.1, ck_X8.2.2, by decide +kernel, by decide⟩, tb_3 _ (List.mem_of_getElem? (i := 96) rfl), sl_1 (⟨"ParapetCourt$Tray", "put", "(IJ)V"⟩, 3) (List.mem_of_getElem? (i := 5) rfl)⟩
set_option maxRecDepth 20000 in
theorem mk_X11_write : MKv mt_X11_write 3 := ⟨⟨tb_3 _ (List.mem_of_getElem? (i := 81) rfl), ck_X11.1, ck_X11.2.1, ck_X11.2.2, by decide +kernel, by decide⟩, tb_3 _ (List.mem_of_getElem? (i := 79) rfl), tb_3 _ (List.mem_of_getElem? (i := 80) rfl)⟩
set_option maxRecDepth 20000 in
theorem mk_X12_trayed : MKv mt_X12_trayed 1 := ⟨⟨tb_7 _ (List.mem_of_getElem? (i := 62) rfl), ck_X12.1, ck_X12.2.1, ck_X12.2.2, by decide +kernel, by decide⟩, tb_7 _ (List.mem_of_getElem? (i := 61) rfl), sl_8 (⟨"ParapetCourtModel", "trayed", "(I)I"⟩, 45) (List.mem_of_getElem? (i := 12) rfl)⟩
set_option maxRecDepth 20000 in
theorem mk_X12_placed : MKv mt_X12_placed 2 := ⟨⟨tb_7 _ (List.mem_of_getElem? (i := 58) rfl), ck_X12.1, ck_X12.2.1, ck_X12.2.2, by decide +kernel, by decide⟩, tb_7 _ (List.mem_of_getElem? (i := 57) rfl), sl_8 (⟨"ParapetCourtModel", "placed", "(II)I"⟩, 45) (List.mem_of_getElem? (i := 11) rfl)⟩
set_option maxRecDepth 20000 in
theorem mk_X12_cut : MKs mt_X12_cut 2 := ⟨⟨tb_7 _ (List.mem_of_getElem? (i := 65) rfl), ck_X12.1, ck_X12.2.1, ck_X12.2.2, by decide +kernel, by decide⟩, tb_7 _ (List.mem_of_getElem? (i := 64) rfl)⟩
set_option maxRecDepth 20000 in
theorem mk_X12_write : MKv mt_X12_write 3 := ⟨⟨tb_7 _ (List.mem_of_getElem? (i := 54) rfl), ck_X12.1, ck_X12.2.1, ck_X12.2.2, by decide +kernel, by decide⟩, tb_7 _ (List.mem_of_getElem? (i := 52) rfl), tb_7 _ (List.mem_of_getElem? (i := 53) rfl)⟩
set_option maxRecDepth 20000 in
theorem mk_X11_read : MKv mt_X11_read 2 := ⟨⟨tb_3 _ (List.mem_of_getElem? (i := 101) rfl), ck_X11.1, ck_X11.2.1, ck_X11.2.2, by decide +kernel, by decide⟩, tb_3 _ (List.mem_of_getElem? (i := 99) rfl), tb_3 _ (List.mem_of_getElem? (i := 100) rfl)⟩
set_option maxRecDepth 20000 in
theorem mk_X12_read : MKv mt_X12_read 2 := ⟨⟨tb_7 _ (List.mem_of_getElem? (i := 69) rfl), ck_X12.1, ck_X12.2.1, ck_X12.2.2, by decide +kernel, by decide⟩, tb_7 _ (List.mem_of_getElem? (i := 67) rfl), tb_7 _ (List.mem_of_getElem? (i := 68) rfl)⟩
set_option maxRecDepth 20000 in
theorem mk_X11_pourWhy : MKv mt_X11_pourWhy 5 := ⟨⟨tb_3 _ (List.mem_of_getElem? (i := 110) rfl), ck_X11.1, ck_X11.2.1, ck_X11.2.2, by decide +kernel, by decide⟩, tb_3 _ (List.mem_of_getElem? (i := 109) rfl), sl_1 (⟨"ParapetCourt", "pourWhy", "(IIIII)I"⟩, 20) (List.mem_of_getElem? (i := 6) rfl)⟩
set_option maxRecDepth 20000 in
theorem mk_X11_pour : MKv mt_X11_pour 5 := ⟨⟨tb_3 _ (List.mem_of_getElem? (i := 106) rfl), ck_X11.1, ck_X11.2.1, ck_X11.2.2, by decide +kernel, by decide⟩, tb_3 _ (List.mem_of_getElem? (i := 104) rfl), tb_3 _ (List.mem_of_getElem? (i := 105) rfl)⟩
set_option maxRecDepth 20000 in
theorem mk_X12_pour : MKv mt_X12_pour 5 := ⟨⟨tb_7 _ (List.mem_of_getElem? (i := 74) rfl), ck_X12.1, ck_X12.2.1, ck_X12.2.2, by decide +kernel, by decide⟩, tb_7 _ (List.mem_of_getElem? (i := 72) rfl), tb_7 _ (List.mem_of_getElem? (i := 73) rfl)⟩
set_option maxRecDepth 20000 in
theorem mk_X11_feedInt : MKv mt_X11_feedInt 1 := ⟨⟨tb_3 _ (List.mem_of_getElem? (i := 121) rfl), ck_X11.1, ck_X11.2.1, ck_X11.2.2, by decide +kernel, by decide⟩, tb_3 _ (List.mem_of_getElem? (i := 120) rfl), sl_1 (⟨"ParapetCourt", "feedInt", "(I)V"⟩, 20) (List.mem_of_getElem? (i := 7) rfl)⟩
set_option maxRecDepth 20000 in
theorem mk_X11_feed : MKv mt_X11_feed 5 := ⟨⟨tb_3 _ (List.mem_of_getElem? (i := 117) rfl), ck_X11.1, ck_X11.2.1, ck_X11.2.2, by decide +kernel, by decide⟩, tb_3 _ (List.mem_of_getElem? (i := 115) rfl), tb_3 _ (List.mem_of_getElem? (i := 116) rfl)⟩
set_option maxRecDepth 20000 in
theorem mk_X12_lay : MKv mt_X12_lay 1 := ⟨⟨tb_7 _ (List.mem_of_getElem? (i := 82) rfl), ck_X12.1, ck_X12.2.1, ck_X12.2.2, by decide +kernel, by decide⟩, tb_7 _ (List.mem_of_getElem? (i := 81) rfl), sl_8 (⟨"ParapetCourtModel", "lay", "(I)V"⟩, 45) (List.mem_of_getElem? (i := 13) rfl)⟩
set_option maxRecDepth 20000 in
theorem mk_X12_feed : MKv mt_X12_feed 5 := ⟨⟨tb_7 _ (List.mem_of_getElem? (i := 78) rfl), ck_X12.1, ck_X12.2.1, ck_X12.2.2, by decide +kernel, by decide⟩, tb_7 _ (List.mem_of_getElem? (i := 76) rfl), tb_7 _ (List.mem_of_getElem? (i := 77) rfl)⟩
set_option maxRecDepth 20000 in
theorem mk_X7_isLetter : MKs mt_X7_isLetter 1 := ⟨⟨tb_3 _ (List.mem_of_getElem? (i := 139) rfl), ck_X7.1, ck_X7.2.1, ck_X7.2.2, by decide +kernel, by decide⟩, tb_3 _ (List.mem_of_getElem? (i := 138) rfl)⟩
set_option maxRecDepth 20000 in
theorem mk_X7_keyOf : MKv mt_X7_keyOf 1 := ⟨⟨tb_3 _ (List.mem_of_getElem? (i := 148) rfl), ck_X7.1, ck_X7.2.1, ck_X7.2.2, by decide +kernel, by decide⟩, tb_3 _ (List.mem_of_getElem? (i := 147) rfl), sl_1 (⟨"ParapetCourt$Text", "keyOf", "(J)I"⟩, 12) (List.mem_of_getElem? (i := 11) rfl)⟩
set_option maxRecDepth 20000 in
theorem mk_X7_stepWord : MKv mt_X7_stepWord 0 := ⟨⟨tb_3 _ (List.mem_of_getElem? (i := 143) rfl), ck_X7.1, ck_X7.2.1, ck_X7.2.2, by decide +kernel, by decide⟩, tb_3 _ (List.mem_of_getElem? (i := 142) rfl), sl_1 (⟨"ParapetCourt$Text", "stepWord", "()V"⟩, 12) (List.mem_of_getElem? (i := 10) rfl)⟩
set_option maxRecDepth 20000 in
theorem mk_X7_isDigit : MKs mt_X7_isDigit 1 := ⟨⟨tb_3 _ (List.mem_of_getElem? (i := 151) rfl), ck_X7.1, ck_X7.2.1, ck_X7.2.2, by decide +kernel, by decide⟩, tb_3 _ (List.mem_of_getElem? (i := 150) rfl)⟩
set_option maxRecDepth 20000 in
theorem mk_X7_stepNumber : MKv mt_X7_stepNumber 0 := ⟨⟨tb_3 _ (List.mem_of_getElem? (i := 155) rfl), ck_X7.1, ck_X7.2.1, ck_X7.2.2, by decide +kernel, by decide⟩, tb_3 _ (List.mem_of_getElem? (i := 154) rfl), sl_1 (⟨"ParapetCourt$Text", "stepNumber", "()V"⟩, 12) (List.mem_of_getElem? (i := 12) rfl)⟩
set_option maxRecDepth 20000 in
theorem mk_X7_stepSign : MKv mt_X7_stepSign 0 := ⟨⟨tb_3 _ (List.mem_of_getElem? (i := 159) rfl), ck_X7.1, ck_X7.2.1, ck_X7.2.2, by decide +kernel, by decide⟩, tb_3 _ (List.mem_of_getElem? (i := 158) rfl), sl_1 (⟨"ParapetCourt$Text", "stepSign", "()V"⟩, 12) (List.mem_of_getElem? (i := 13) rfl)⟩
set_option maxRecDepth 20000 in
theorem mk_X7_step : MKv mt_X7_step 0 := ⟨⟨tb_3 _ (List.mem_of_getElem? (i := 136) rfl), ck_X7.1, ck_X7.2.1, ck_X7.2.2, by decide +kernel, by decide⟩, tb_3 _ (List.mem_of_getElem? (i := 135) rfl), sl_1 (⟨"ParapetCourt$Text", "step", "()V"⟩, 12) (List.mem_of_getElem? (i := 9) rfl)⟩
set_option maxRecDepth 20000 in
theorem mk_X7_begin : MKv mt_X7_begin 1 := ⟨⟨tb_3 _ (List.mem_of_getElem? (i := 129) rfl), ck_X7.1, ck_X7.2.1, ck_X7.2.2, by decide +kernel, by decide⟩, tb_3 _ (List.mem_of_getElem? (i := 128) rfl), sl_1 (⟨"ParapetCourt$Text", "begin", "(I)V"⟩, 12) (List.mem_of_getElem? (i := 8) rfl)⟩
set_option maxRecDepth 20000 in
theorem mk_X9_empty : MKv mt_X9_empty 0 := ⟨⟨tb_3 _ (List.mem_of_getElem? (i := 167) rfl), ck_X9.1, ck_X9.2.1, ck_X9.2.2, by decide +kernel, by decide⟩, tb_3 _ (List.mem_of_getElem? (i := 166) rfl), sl_1 (⟨"ParapetCourt$Wall", "empty", "()V"⟩, 16) (List.mem_of_getElem? (i := 15) rfl)⟩
set_option maxRecDepth 20000 in
theorem mk_X7_isAtEnd : MKv mt_X7_isAtEnd 0 := ⟨⟨tb_3 _ (List.mem_of_getElem? (i := 171) rfl), ck_X7.1, ck_X7.2.1, ck_X7.2.2, by decide +kernel, by decide⟩, tb_3 _ (List.mem_of_getElem? (i := 170) rfl), sl_2 (⟨"ParapetCourt$Text", "isAtEnd", "()Z"⟩, 12) (List.mem_of_getElem? (i := 0) rfl)⟩
set_option maxRecDepth 20000 in
theorem mk_X7_isWord : MKv mt_X7_isWord 1 := ⟨⟨tb_3 _ (List.mem_of_getElem? (i := 175) rfl), ck_X7.1, ck_X7.2.1, ck_X7.2.2, by decide +kernel, by decide⟩, tb_3 _ (List.mem_of_getElem? (i := 174) rfl), sl_2 (⟨"ParapetCourt$Text", "isWord", "(I)Z"⟩, 12) (List.mem_of_getElem? (i := 1) rfl)⟩
set_option maxRecDepth 20000 in
theorem mk_X7_refuse : MKv mt_X7_refuse 1 := ⟨⟨tb_3 _ (List.mem_of_getElem? (i := 183) rfl), ck_X7.1, ck_X7.2.1, ck_X7.2.2, by decide +kernel, by decide⟩, tb_3 _ (List.mem_of_getElem? (i := 182) rfl), sl_2 (⟨"ParapetCourt$Text", "refuse", "(I)Z"⟩, 12) (List.mem_of_getElem? (i := 3) rfl)⟩
set_option maxRecDepth 20000 in
theorem mk_X7_takeNumber : MKv mt_X7_takeNumber 2 := ⟨⟨tb_3 _ (List.mem_of_getElem? (i := 188) rfl), ck_X7.1, ck_X7.2.1, ck_X7.2.2, by decide +kernel, by decide⟩, tb_3 _ (List.mem_of_getElem? (i := 187) rfl), sl_2 (⟨"ParapetCourt$Text", "takeNumber", "(II)Z"⟩, 12) (List.mem_of_getElem? (i := 4) rfl)⟩
set_option maxRecDepth 20000 in
theorem mk_X7_isSign : MKv mt_X7_isSign 1 := ⟨⟨tb_3 _ (List.mem_of_getElem? (i := 197) rfl), ck_X7.1, ck_X7.2.1, ck_X7.2.2, by decide +kernel, by decide⟩, tb_3 _ (List.mem_of_getElem? (i := 196) rfl), sl_2 (⟨"ParapetCourt$Text", "isSign", "(I)Z"⟩, 12) (List.mem_of_getElem? (i := 6) rfl)⟩
set_option maxRecDepth 20000 in
theorem mk_X7_takeSign : MKv mt_X7_takeSign 1 := ⟨⟨tb_3 _ (List.mem_of_getElem? (i := 193) rfl), ck_X7.1, ck_X7.2.1, ck_X7.2.2, by decide +kernel, by decide⟩, tb_3 _ (List.mem_of_getElem? (i := 192) rfl), sl_2 (⟨"ParapetCourt$Text", "takeSign", "(I)Z"⟩, 12) (List.mem_of_getElem? (i := 5) rfl)⟩
set_option maxRecDepth 20000 in
theorem mk_X10_readOdds : MKv mt_X10_readOdds 0 := ⟨⟨tb_3 _ (List.mem_of_getElem? (i := 179) rfl), ck_X10.1, ck_X10.2.1, ck_X10.2.2, by decide +kernel, by decide⟩, tb_3 _ (List.mem_of_getElem? (i := 178) rfl), sl_2 (⟨"ParapetCourt$WallReader", "readOdds", "()Z"⟩, 3) (List.mem_of_getElem? (i := 2) rfl)⟩
set_option maxRecDepth 20000 in
theorem mk_X9_isFull : MKv mt_X9_isFull 0 := ⟨⟨tb_3 _ (List.mem_of_getElem? (i := 205) rfl), ck_X9.1, ck_X9.2.1, ck_X9.2.2, by decide +kernel, by decide⟩, tb_3 _ (List.mem_of_getElem? (i := 204) rfl), sl_2 (⟨"ParapetCourt$Wall", "isFull", "()Z"⟩, 16) (List.mem_of_getElem? (i := 8) rfl)⟩
set_option maxRecDepth 20000 in
theorem mk_X7_isName : MKv mt_X7_isName 0 := ⟨⟨tb_3 _ (List.mem_of_getElem? (i := 213) rfl), ck_X7.1, ck_X7.2.1, ck_X7.2.2, by decide +kernel, by decide⟩, tb_3 _ (List.mem_of_getElem? (i := 212) rfl), sl_2 (⟨"ParapetCourt$Text", "isName", "()Z"⟩, 12) (List.mem_of_getElem? (i := 10) rfl)⟩
set_option maxRecDepth 20000 in
theorem mk_X9_stoneNamed : MKv mt_X9_stoneNamed 1 := ⟨⟨tb_3 _ (List.mem_of_getElem? (i := 217) rfl), ck_X9.1, ck_X9.2.1, ck_X9.2.2, by decide +kernel, by decide⟩, tb_3 _ (List.mem_of_getElem? (i := 216) rfl), sl_2 (⟨"ParapetCourt$Wall", "stoneNamed", "(J)I"⟩, 16) (List.mem_of_getElem? (i := 11) rfl)⟩
set_option maxRecDepth 20000 in
theorem mk_X9_crowNamed : MKv mt_X9_crowNamed 1 := ⟨⟨tb_3 _ (List.mem_of_getElem? (i := 221) rfl), ck_X9.1, ck_X9.2.1, ck_X9.2.2, by decide +kernel, by decide⟩, tb_3 _ (List.mem_of_getElem? (i := 220) rfl), sl_2 (⟨"ParapetCourt$Wall", "crowNamed", "(J)I"⟩, 16) (List.mem_of_getElem? (i := 12) rfl)⟩
set_option maxRecDepth 20000 in
theorem mk_X10_takeNewName : MKv mt_X10_takeNewName 0 := ⟨⟨tb_3 _ (List.mem_of_getElem? (i := 209) rfl), ck_X10.1, ck_X10.2.1, ck_X10.2.2, by decide +kernel, by decide⟩, tb_3 _ (List.mem_of_getElem? (i := 208) rfl), sl_2 (⟨"ParapetCourt$WallReader", "takeNewName", "()Z"⟩, 3) (List.mem_of_getElem? (i := 9) rfl)⟩
set_option maxRecDepth 20000 in
theorem mk_X7_takeWord : MKv mt_X7_takeWord 1 := ⟨⟨tb_3 _ (List.mem_of_getElem? (i := 225) rfl), ck_X7.1, ck_X7.2.1, ck_X7.2.2, by decide +kernel, by decide⟩, tb_3 _ (List.mem_of_getElem? (i := 224) rfl), sl_2 (⟨"ParapetCourt$Text", "takeWord", "(I)Z"⟩, 12) (List.mem_of_getElem? (i := 13) rfl)⟩
set_option maxRecDepth 20000 in
theorem mk_X10_readPerhaps : MKv mt_X10_readPerhaps 4 := ⟨⟨tb_3 _ (List.mem_of_getElem? (i := 230) rfl), ck_X10.1, ck_X10.2.1, ck_X10.2.2, by decide +kernel, by decide⟩, tb_3 _ (List.mem_of_getElem? (i := 229) rfl), sl_2 (⟨"ParapetCourt$WallReader", "readPerhaps", "(IIII)I"⟩, 3) (List.mem_of_getElem? (i := 14) rfl)⟩
set_option maxRecDepth 20000 in
theorem mk_X9_makeGap : MKv mt_X9_makeGap 1 := ⟨⟨tb_3 _ (List.mem_of_getElem? (i := 239) rfl), ck_X9.1, ck_X9.2.1, ck_X9.2.2, by decide +kernel, by decide⟩, tb_3 _ (List.mem_of_getElem? (i := 238) rfl), sl_3 (⟨"ParapetCourt$Wall", "makeGap", "(I)V"⟩, 16) (List.mem_of_getElem? (i := 0) rfl)⟩
set_option maxRecDepth 20000 in
theorem mk_X9_addPlace : MKv mt_X9_addPlace 1 := ⟨⟨tb_3 _ (List.mem_of_getElem? (i := 234) rfl), ck_X9.1, ck_X9.2.1, ck_X9.2.2, by decide +kernel, by decide⟩, tb_3 _ (List.mem_of_getElem? (i := 233) rfl), sl_2 (⟨"ParapetCourt$Wall", "addPlace", "(J)V"⟩, 16) (List.mem_of_getElem? (i := 15) rfl)⟩
set_option maxRecDepth 20000 in
theorem mk_X9_setStone : MKv mt_X9_setStone 4 := ⟨⟨tb_4 _ (List.mem_of_getElem? (i := 3) rfl), ck_X9.1, ck_X9.2.1, ck_X9.2.2, by decide +kernel, by decide⟩, tb_4 _ (List.mem_of_getElem? (i := 2) rfl), sl_3 (⟨"ParapetCourt$Wall", "setStone", "(IIII)V"⟩, 16) (List.mem_of_getElem? (i := 1) rfl)⟩
set_option maxRecDepth 20000 in
theorem mk_X10_readStone : MKv mt_X10_readStone 0 := ⟨⟨tb_3 _ (List.mem_of_getElem? (i := 201) rfl), ck_X10.1, ck_X10.2.1, ck_X10.2.2, by decide +kernel, by decide⟩, tb_3 _ (List.mem_of_getElem? (i := 200) rfl), sl_2 (⟨"ParapetCourt$WallReader", "readStone", "()Z"⟩, 3) (List.mem_of_getElem? (i := 7) rfl)⟩
set_option maxRecDepth 20000 in
theorem mk_X9_addGap : MKv mt_X9_addGap 0 := ⟨⟨tb_4 _ (List.mem_of_getElem? (i := 11) rfl), ck_X9.1, ck_X9.2.1, ck_X9.2.2, by decide +kernel, by decide⟩, tb_4 _ (List.mem_of_getElem? (i := 10) rfl), sl_3 (⟨"ParapetCourt$Wall", "addGap", "()V"⟩, 16) (List.mem_of_getElem? (i := 3) rfl)⟩
set_option maxRecDepth 20000 in
theorem mk_X10_readGap : MKv mt_X10_readGap 0 := ⟨⟨tb_4 _ (List.mem_of_getElem? (i := 7) rfl), ck_X10.1, ck_X10.2.1, ck_X10.2.2, by decide +kernel, by decide⟩, tb_4 _ (List.mem_of_getElem? (i := 6) rfl), sl_3 (⟨"ParapetCourt$WallReader", "readGap", "()Z"⟩, 3) (List.mem_of_getElem? (i := 2) rfl)⟩
set_option maxRecDepth 20000 in
theorem mk_X9_moveCrow : MKv mt_X9_moveCrow 2 := ⟨⟨tb_4 _ (List.mem_of_getElem? (i := 24) rfl), ck_X9.1, ck_X9.2.1, ck_X9.2.2, by decide +kernel, by decide⟩, tb_4 _ (List.mem_of_getElem? (i := 23) rfl), sl_3 (⟨"ParapetCourt$Wall", "moveCrow", "(II)V"⟩, 16) (List.mem_of_getElem? (i := 6) rfl)⟩
set_option maxRecDepth 20000 in
theorem mk_X9_addCrow : MKv mt_X9_addCrow 3 := ⟨⟨tb_4 _ (List.mem_of_getElem? (i := 20) rfl), ck_X9.1, ck_X9.2.1, ck_X9.2.2, by decide +kernel, by decide⟩, tb_4 _ (List.mem_of_getElem? (i := 19) rfl), sl_3 (⟨"ParapetCourt$Wall", "addCrow", "(JIZ)V"⟩, 16) (List.mem_of_getElem? (i := 5) rfl)⟩
set_option maxRecDepth 20000 in
theorem mk_X10_readCrow : MKv mt_X10_readCrow 0 := ⟨⟨tb_4 _ (List.mem_of_getElem? (i := 16) rfl), ck_X10.1, ck_X10.2.1, ck_X10.2.2, by decide +kernel, by decide⟩, tb_4 _ (List.mem_of_getElem? (i := 15) rfl), sl_3 (⟨"ParapetCourt$WallReader", "readCrow", "()Z"⟩, 3) (List.mem_of_getElem? (i := 4) rfl)⟩
set_option maxRecDepth 20000 in
theorem mk_X10_reads : MKv mt_X10_reads 0 := ⟨⟨tb_3 _ (List.mem_of_getElem? (i := 163) rfl), ck_X10.1, ck_X10.2.1, ck_X10.2.2, by decide +kernel, by decide⟩, tb_3 _ (List.mem_of_getElem? (i := 162) rfl), sl_1 (⟨"ParapetCourt$WallReader", "reads", "()Z"⟩, 3) (List.mem_of_getElem? (i := 14) rfl)⟩
set_option maxRecDepth 20000 in
theorem mk_X9_copyFrom : MKv mt_X9_copyFrom 1 := ⟨⟨tb_4 _ (List.mem_of_getElem? (i := 28) rfl), ck_X9.1, ck_X9.2.1, ck_X9.2.2, by decide +kernel, by decide⟩, tb_4 _ (List.mem_of_getElem? (i := 27) rfl), sl_3 (⟨"ParapetCourt$Wall", "copyFrom", "(LParapetCourt$Wall;)V"⟩, 16) (List.mem_of_getElem? (i := 7) rfl)⟩
set_option maxRecDepth 20000 in
theorem mk_X5_forget : MKv mt_X5_forget 0 := ⟨⟨tb_4 _ (List.mem_of_getElem? (i := 32) rfl), ck_X5.1, ck_X5.2.1, ck_X5.2.2, by decide +kernel, by decide⟩, tb_4 _ (List.mem_of_getElem? (i := 31) rfl), sl_3 (⟨"ParapetCourt$Terms", "forget", "()V"⟩, 8) (List.mem_of_getElem? (i := 8) rfl)⟩
set_option maxRecDepth 20000 in
theorem mk_X11_wall : MKv mt_X11_wall 1 := ⟨⟨tb_3 _ (List.mem_of_getElem? (i := 125) rfl), ck_X11.1, ck_X11.2.1, ck_X11.2.2, by decide +kernel, by decide⟩, tb_3 _ (List.mem_of_getElem? (i := 123) rfl), tb_3 _ (List.mem_of_getElem? (i := 124) rfl)⟩
set_option maxRecDepth 20000 in
theorem mk_X12_look2 : MKv mt_X12_look2 1 := ⟨⟨tb_7 _ (List.mem_of_getElem? (i := 102) rfl), ck_X12.1, ck_X12.2.1, ck_X12.2.2, by decide +kernel, by decide⟩, tb_7 _ (List.mem_of_getElem? (i := 101) rfl), sl_9 (⟨"ParapetCourtModel", "look2", "(I)I"⟩, 45) (List.mem_of_getElem? (i := 0) rfl)⟩
set_option maxRecDepth 20000 in
theorem mk_X12_isLetter : MKs mt_X12_isLetter 1 := ⟨⟨tb_7 _ (List.mem_of_getElem? (i := 105) rfl), ck_X12.1, ck_X12.2.1, ck_X12.2.2, by decide +kernel, by decide⟩, tb_7 _ (List.mem_of_getElem? (i := 104) rfl)⟩
set_option maxRecDepth 20000 in
theorem mk_X12_isDigit : MKs mt_X12_isDigit 1 := ⟨⟨tb_7 _ (List.mem_of_getElem? (i := 110) rfl), ck_X12.1, ck_X12.2.1, ck_X12.2.2, by decide +kernel, by decide⟩, tb_7 _ (List.mem_of_getElem? (i := 109) rfl)⟩
set_option maxRecDepth 20000 in
theorem mk_X12_isSignByte : MKv mt_X12_isSignByte 1 := ⟨⟨tb_7 _ (List.mem_of_getElem? (i := 114) rfl), ck_X12.1, ck_X12.2.1, ck_X12.2.2, by decide +kernel, by decide⟩, tb_7 _ (List.mem_of_getElem? (i := 113) rfl), sl_9 (⟨"ParapetCourtModel", "isSignByte", "(I)Z"⟩, 45) (List.mem_of_getElem? (i := 1) rfl)⟩
set_option maxRecDepth 20000 in
theorem mk_X12_advance : MKv mt_X12_advance 0 := ⟨⟨tb_7 _ (List.mem_of_getElem? (i := 98) rfl), ck_X12.1, ck_X12.2.1, ck_X12.2.2, by decide +kernel, by decide⟩, tb_7 _ (List.mem_of_getElem? (i := 97) rfl), sl_8 (⟨"ParapetCourtModel", "advance", "()V"⟩, 45) (List.mem_of_getElem? (i := 15) rfl)⟩
set_option maxRecDepth 20000 in
theorem mk_X12_starts : MKv mt_X12_starts 2 := ⟨⟨tb_7 _ (List.mem_of_getElem? (i := 94) rfl), ck_X12.1, ck_X12.2.1, ck_X12.2.2, by decide +kernel, by decide⟩, tb_7 _ (List.mem_of_getElem? (i := 93) rfl), sl_8 (⟨"ParapetCourtModel", "starts", "(II)Z"⟩, 45) (List.mem_of_getElem? (i := 14) rfl)⟩
set_option maxRecDepth 20000 in
theorem mk_X12_spelled : MKs mt_X12_spelled 6 := ⟨⟨tb_7 _ (List.mem_of_getElem? (i := 125) rfl), ck_X12.1, ck_X12.2.1, ck_X12.2.2, by decide +kernel, by decide⟩, tb_7 _ (List.mem_of_getElem? (i := 124) rfl)⟩
set_option maxRecDepth 20000 in
theorem mk_X12_isWord : MKv mt_X12_isWord 1 := ⟨⟨tb_7 _ (List.mem_of_getElem? (i := 129) rfl), ck_X12.1, ck_X12.2.1, ck_X12.2.2, by decide +kernel, by decide⟩, tb_7 _ (List.mem_of_getElem? (i := 128) rfl), sl_9 (⟨"ParapetCourtModel", "isWord", "(J)Z"⟩, 45) (List.mem_of_getElem? (i := 4) rfl)⟩
set_option maxRecDepth 20000 in
theorem mk_X12_isOdds : MKv mt_X12_isOdds 0 := ⟨⟨tb_7 _ (List.mem_of_getElem? (i := 122) rfl), ck_X12.1, ck_X12.2.1, ck_X12.2.2, by decide +kernel, by decide⟩, tb_7 _ (List.mem_of_getElem? (i := 121) rfl), sl_9 (⟨"ParapetCourtModel", "isOdds", "()Z"⟩, 45) (List.mem_of_getElem? (i := 3) rfl)⟩
set_option maxRecDepth 20000 in
theorem mk_X12_fail : MKv mt_X12_fail 2 := ⟨⟨tb_7 _ (List.mem_of_getElem? (i := 137) rfl), ck_X12.1, ck_X12.2.1, ck_X12.2.2, by decide +kernel, by decide⟩, tb_7 _ (List.mem_of_getElem? (i := 136) rfl), sl_9 (⟨"ParapetCourtModel", "fail", "(II)V"⟩, 45) (List.mem_of_getElem? (i := 6) rfl)⟩
set_option maxRecDepth 20000 in
theorem mk_X12_amiss : MKv mt_X12_amiss 0 := ⟨⟨tb_7 _ (List.mem_of_getElem? (i := 145) rfl), ck_X12.1, ck_X12.2.1, ck_X12.2.2, by decide +kernel, by decide⟩, tb_7 _ (List.mem_of_getElem? (i := 144) rfl), sl_9 (⟨"ParapetCourtModel", "amiss", "()V"⟩, 45) (List.mem_of_getElem? (i := 8) rfl)⟩
set_option maxRecDepth 20000 in
theorem mk_X12_isIn : MKs mt_X12_isIn 3 := ⟨⟨tb_7 _ (List.mem_of_getElem? (i := 148) rfl), ck_X12.1, ck_X12.2.1, ck_X12.2.2, by decide +kernel, by decide⟩, tb_7 _ (List.mem_of_getElem? (i := 147) rfl)⟩
set_option maxRecDepth 20000 in
theorem mk_X12_count : MKv mt_X12_count 2 := ⟨⟨tb_7 _ (List.mem_of_getElem? (i := 141) rfl), ck_X12.1, ck_X12.2.1, ck_X12.2.2, by decide +kernel, by decide⟩, tb_7 _ (List.mem_of_getElem? (i := 140) rfl), sl_9 (⟨"ParapetCourtModel", "count", "(II)I"⟩, 45) (List.mem_of_getElem? (i := 7) rfl)⟩
set_option maxRecDepth 20000 in
theorem mk_X12_readOdds : MKv mt_X12_readOdds 0 := ⟨⟨tb_7 _ (List.mem_of_getElem? (i := 133) rfl), ck_X12.1, ck_X12.2.1, ck_X12.2.2, by decide +kernel, by decide⟩, tb_7 _ (List.mem_of_getElem? (i := 132) rfl), sl_9 (⟨"ParapetCourtModel", "readOdds", "()V"⟩, 45) (List.mem_of_getElem? (i := 5) rfl)⟩
set_option maxRecDepth 20000 in
theorem mk_X12_isStone : MKv mt_X12_isStone 0 := ⟨⟨tb_7 _ (List.mem_of_getElem? (i := 152) rfl), ck_X12.1, ck_X12.2.1, ck_X12.2.2, by decide +kernel, by decide⟩, tb_7 _ (List.mem_of_getElem? (i := 151) rfl), sl_9 (⟨"ParapetCourtModel", "isStone", "()Z"⟩, 45) (List.mem_of_getElem? (i := 9) rfl)⟩
set_option maxRecDepth 20000 in
theorem mk_X12_isLenient : MKv mt_X12_isLenient 0 := ⟨⟨tb_7 _ (List.mem_of_getElem? (i := 172) rfl), ck_X12.1, ck_X12.2.1, ck_X12.2.2, by decide +kernel, by decide⟩, tb_7 _ (List.mem_of_getElem? (i := 171) rfl), sl_9 (⟨"ParapetCourtModel", "isLenient", "()Z"⟩, 45) (List.mem_of_getElem? (i := 14) rfl)⟩
set_option maxRecDepth 20000 in
theorem mk_X12_isStrong : MKv mt_X12_isStrong 0 := ⟨⟨tb_7 _ (List.mem_of_getElem? (i := 177) rfl), ck_X12.1, ck_X12.2.1, ck_X12.2.2, by decide +kernel, by decide⟩, tb_7 _ (List.mem_of_getElem? (i := 176) rfl), sl_9 (⟨"ParapetCourtModel", "isStrong", "()Z"⟩, 45) (List.mem_of_getElem? (i := 15) rfl)⟩
set_option maxRecDepth 20000 in
theorem mk_X12_isGap : MKv mt_X12_isGap 0 := ⟨⟨tb_7 _ (List.mem_of_getElem? (i := 181) rfl), ck_X12.1, ck_X12.2.1, ck_X12.2.2, by decide +kernel, by decide⟩, tb_7 _ (List.mem_of_getElem? (i := 180) rfl), sl_10 (⟨"ParapetCourtModel", "isGap", "()Z"⟩, 45) (List.mem_of_getElem? (i := 0) rfl)⟩
set_option maxRecDepth 20000 in
theorem mk_X12_isCrow : MKv mt_X12_isCrow 0 := ⟨⟨tb_7 _ (List.mem_of_getElem? (i := 185) rfl), ck_X12.1, ck_X12.2.1, ck_X12.2.2, by decide +kernel, by decide⟩, tb_7 _ (List.mem_of_getElem? (i := 184) rfl), sl_10 (⟨"ParapetCourtModel", "isCrow", "()Z"⟩, 45) (List.mem_of_getElem? (i := 1) rfl)⟩
set_option maxRecDepth 20000 in
theorem mk_X12_isOn : MKv mt_X12_isOn 0 := ⟨⟨tb_7 _ (List.mem_of_getElem? (i := 189) rfl), ck_X12.1, ck_X12.2.1, ck_X12.2.2, by decide +kernel, by decide⟩, tb_7 _ (List.mem_of_getElem? (i := 188) rfl), sl_10 (⟨"ParapetCourtModel", "isOn", "()Z"⟩, 45) (List.mem_of_getElem? (i := 2) rfl)⟩
set_option maxRecDepth 20000 in
theorem mk_X12_sideWord : MKv mt_X12_sideWord 0 := ⟨⟨tb_7 _ (List.mem_of_getElem? (i := 193) rfl), ck_X12.1, ck_X12.2.1, ck_X12.2.2, by decide +kernel, by decide⟩, tb_7 _ (List.mem_of_getElem? (i := 192) rfl), sl_10 (⟨"ParapetCourtModel", "sideWord", "()I"⟩, 45) (List.mem_of_getElem? (i := 3) rfl)⟩
set_option maxRecDepth 20000 in
theorem mk_X12_stepWord : MKv mt_X12_stepWord 0 := ⟨⟨tb_7 _ (List.mem_of_getElem? (i := 197) rfl), ck_X12.1, ck_X12.2.1, ck_X12.2.2, by decide +kernel, by decide⟩, tb_7 _ (List.mem_of_getElem? (i := 196) rfl), sl_10 (⟨"ParapetCourtModel", "stepWord", "()I"⟩, 45) (List.mem_of_getElem? (i := 4) rfl)⟩
set_option maxRecDepth 20000 in
theorem mk_X12_isMoss : MKv mt_X12_isMoss 0 := ⟨⟨tb_7 _ (List.mem_of_getElem? (i := 205) rfl), ck_X12.1, ck_X12.2.1, ck_X12.2.2, by decide +kernel, by decide⟩, tb_7 _ (List.mem_of_getElem? (i := 204) rfl), sl_10 (⟨"ParapetCourtModel", "isMoss", "()Z"⟩, 45) (List.mem_of_getElem? (i := 6) rfl)⟩
set_option maxRecDepth 20000 in
theorem mk_X12_testWord : MKv mt_X12_testWord 0 := ⟨⟨tb_7 _ (List.mem_of_getElem? (i := 201) rfl), ck_X12.1, ck_X12.2.1, ck_X12.2.2, by decide +kernel, by decide⟩, tb_7 _ (List.mem_of_getElem? (i := 200) rfl), sl_10 (⟨"ParapetCourtModel", "testWord", "()I"⟩, 45) (List.mem_of_getElem? (i := 5) rfl)⟩
set_option maxRecDepth 20000 in
theorem mk_X12_isEnd : MKv mt_X12_isEnd 0 := ⟨⟨tb_7 _ (List.mem_of_getElem? (i := 209) rfl), ck_X12.1, ck_X12.2.1, ck_X12.2.2, by decide +kernel, by decide⟩, tb_7 _ (List.mem_of_getElem? (i := 208) rfl), sl_10 (⟨"ParapetCourtModel", "isEnd", "()Z"⟩, 45) (List.mem_of_getElem? (i := 7) rfl)⟩
set_option maxRecDepth 20000 in
theorem mk_X12_isKept : MKv mt_X12_isKept 0 := ⟨⟨tb_7 _ (List.mem_of_getElem? (i := 168) rfl), ck_X12.1, ck_X12.2.1, ck_X12.2.2, by decide +kernel, by decide⟩, tb_7 _ (List.mem_of_getElem? (i := 167) rfl), sl_9 (⟨"ParapetCourtModel", "isKept", "()Z"⟩, 45) (List.mem_of_getElem? (i := 13) rfl)⟩
set_option maxRecDepth 20000 in
theorem mk_X12_isName : MKv mt_X12_isName 0 := ⟨⟨tb_7 _ (List.mem_of_getElem? (i := 164) rfl), ck_X12.1, ck_X12.2.1, ck_X12.2.2, by decide +kernel, by decide⟩, tb_7 _ (List.mem_of_getElem? (i := 163) rfl), sl_9 (⟨"ParapetCourtModel", "isName", "()Z"⟩, 45) (List.mem_of_getElem? (i := 12) rfl)⟩
set_option maxRecDepth 20000 in
theorem mk_X12_named : MKv mt_X12_named 2 := ⟨⟨tb_7 _ (List.mem_of_getElem? (i := 213) rfl), ck_X12.1, ck_X12.2.1, ck_X12.2.2, by decide +kernel, by decide⟩, tb_7 _ (List.mem_of_getElem? (i := 212) rfl), sl_10 (⟨"ParapetCourtModel", "named", "(II)I"⟩, 45) (List.mem_of_getElem? (i := 8) rfl)⟩
set_option maxRecDepth 20000 in
theorem mk_X12_readNew : MKv mt_X12_readNew 2 := ⟨⟨tb_7 _ (List.mem_of_getElem? (i := 160) rfl), ck_X12.1, ck_X12.2.1, ck_X12.2.2, by decide +kernel, by decide⟩, tb_7 _ (List.mem_of_getElem? (i := 159) rfl), sl_9 (⟨"ParapetCourtModel", "readNew", "(II)I"⟩, 45) (List.mem_of_getElem? (i := 11) rfl)⟩
set_option maxRecDepth 20000 in
theorem mk_X12_must : MKv mt_X12_must 1 := ⟨⟨tb_7 _ (List.mem_of_getElem? (i := 221) rfl), ck_X12.1, ck_X12.2.1, ck_X12.2.2, by decide +kernel, by decide⟩, tb_7 _ (List.mem_of_getElem? (i := 220) rfl), sl_10 (⟨"ParapetCourtModel", "must", "(Z)V"⟩, 45) (List.mem_of_getElem? (i := 10) rfl)⟩
set_option maxRecDepth 20000 in
theorem mk_X12_behindWord : MKv mt_X12_behindWord 3 := ⟨⟨tb_7 _ (List.mem_of_getElem? (i := 217) rfl), ck_X12.1, ck_X12.2.1, ck_X12.2.2, by decide +kernel, by decide⟩, tb_7 _ (List.mem_of_getElem? (i := 216) rfl), sl_10 (⟨"ParapetCourtModel", "behindWord", "(ZII)I"⟩, 45) (List.mem_of_getElem? (i := 9) rfl)⟩
set_option maxRecDepth 20000 in
theorem mk_X12_perhaps : MKv mt_X12_perhaps 1 := ⟨⟨tb_7 _ (List.mem_of_getElem? (i := 225) rfl), ck_X12.1, ck_X12.2.1, ck_X12.2.2, by decide +kernel, by decide⟩, tb_7 _ (List.mem_of_getElem? (i := 224) rfl), sl_10 (⟨"ParapetCourtModel", "perhaps", "(Z)Z"⟩, 45) (List.mem_of_getElem? (i := 11) rfl)⟩
set_option maxRecDepth 20000 in
theorem mk_X12_sets : MKv mt_X12_sets 4 := ⟨⟨tb_7 _ (List.mem_of_getElem? (i := 229) rfl), ck_X12.1, ck_X12.2.1, ck_X12.2.2, by decide +kernel, by decide⟩, tb_7 _ (List.mem_of_getElem? (i := 228) rfl), sl_10 (⟨"ParapetCourtModel", "sets", "(IIII)V"⟩, 45) (List.mem_of_getElem? (i := 12) rfl)⟩
set_option maxRecDepth 20000 in
theorem mk_X12_readStone : MKv mt_X12_readStone 0 := ⟨⟨tb_7 _ (List.mem_of_getElem? (i := 156) rfl), ck_X12.1, ck_X12.2.1, ck_X12.2.2, by decide +kernel, by decide⟩, tb_7 _ (List.mem_of_getElem? (i := 155) rfl), sl_9 (⟨"ParapetCourtModel", "readStone", "()V"⟩, 45) (List.mem_of_getElem? (i := 10) rfl)⟩
set_option maxRecDepth 20000 in
theorem mk_X12_readGap : MKv mt_X12_readGap 0 := ⟨⟨tb_7 _ (List.mem_of_getElem? (i := 233) rfl), ck_X12.1, ck_X12.2.1, ck_X12.2.2, by decide +kernel, by decide⟩, tb_7 _ (List.mem_of_getElem? (i := 232) rfl), sl_10 (⟨"ParapetCourtModel", "readGap", "()V"⟩, 45) (List.mem_of_getElem? (i := 13) rfl)⟩
set_option maxRecDepth 20000 in
theorem mk_X12_readTold : MKv mt_X12_readTold 2 := ⟨⟨tb_8 _ (List.mem_of_getElem? (i := 1) rfl), ck_X12.1, ck_X12.2.1, ck_X12.2.2, by decide +kernel, by decide⟩, tb_8 _ (List.mem_of_getElem? (i := 0) rfl), sl_10 (⟨"ParapetCourtModel", "readTold", "(II)I"⟩, 45) (List.mem_of_getElem? (i := 15) rfl)⟩
set_option maxRecDepth 20000 in
theorem mk_X12_hatches : MKv mt_X12_hatches 4 := ⟨⟨tb_8 _ (List.mem_of_getElem? (i := 6) rfl), ck_X12.1, ck_X12.2.1, ck_X12.2.2, by decide +kernel, by decide⟩, tb_8 _ (List.mem_of_getElem? (i := 5) rfl), sl_11 (⟨"ParapetCourtModel", "hatches", "(IIII)V"⟩, 45) (List.mem_of_getElem? (i := 0) rfl)⟩
set_option maxRecDepth 20000 in
theorem mk_X12_readCrow : MKv mt_X12_readCrow 0 := ⟨⟨tb_7 _ (List.mem_of_getElem? (i := 237) rfl), ck_X12.1, ck_X12.2.1, ck_X12.2.2, by decide +kernel, by decide⟩, tb_7 _ (List.mem_of_getElem? (i := 236) rfl), sl_10 (⟨"ParapetCourtModel", "readCrow", "()V"⟩, 45) (List.mem_of_getElem? (i := 14) rfl)⟩
set_option maxRecDepth 20000 in
theorem mk_X12_readPart : MKv mt_X12_readPart 0 := ⟨⟨tb_7 _ (List.mem_of_getElem? (i := 118) rfl), ck_X12.1, ck_X12.2.1, ck_X12.2.2, by decide +kernel, by decide⟩, tb_7 _ (List.mem_of_getElem? (i := 117) rfl), sl_9 (⟨"ParapetCourtModel", "readPart", "()V"⟩, 45) (List.mem_of_getElem? (i := 2) rfl)⟩
set_option maxRecDepth 20000 in
theorem mk_X12_isSign : MKv mt_X12_isSign 1 := ⟨⟨tb_8 _ (List.mem_of_getElem? (i := 10) rfl), ck_X12.1, ck_X12.2.1, ck_X12.2.2, by decide +kernel, by decide⟩, tb_8 _ (List.mem_of_getElem? (i := 9) rfl), sl_11 (⟨"ParapetCourtModel", "isSign", "(I)Z"⟩, 45) (List.mem_of_getElem? (i := 1) rfl)⟩
set_option maxRecDepth 20000 in
theorem mk_X12_isWell : MKv mt_X12_isWell 0 := ⟨⟨tb_8 _ (List.mem_of_getElem? (i := 14) rfl), ck_X12.1, ck_X12.2.1, ck_X12.2.2, by decide +kernel, by decide⟩, tb_8 _ (List.mem_of_getElem? (i := 13) rfl), sl_11 (⟨"ParapetCourtModel", "isWell", "()Z"⟩, 45) (List.mem_of_getElem? (i := 2) rfl)⟩
set_option maxRecDepth 20000 in
theorem mk_X12_copy : MKv mt_X12_copy 2 := ⟨⟨tb_8 _ (List.mem_of_getElem? (i := 18) rfl), ck_X12.1, ck_X12.2.1, ck_X12.2.2, by decide +kernel, by decide⟩, tb_8 _ (List.mem_of_getElem? (i := 17) rfl), sl_11 (⟨"ParapetCourtModel", "copy", "(II)V"⟩, 45) (List.mem_of_getElem? (i := 3) rfl)⟩
set_option maxRecDepth 20000 in
theorem mk_X12_wall : MKv mt_X12_wall 1 := ⟨⟨tb_7 _ (List.mem_of_getElem? (i := 90) rfl), ck_X12.1, ck_X12.2.1, ck_X12.2.2, by decide +kernel, by decide⟩, tb_7 _ (List.mem_of_getElem? (i := 88) rfl), tb_7 _ (List.mem_of_getElem? (i := 89) rfl)⟩
set_option maxRecDepth 20000 in
theorem mk_X5_add : MKv mt_X5_add 4 := ⟨⟨tb_4 _ (List.mem_of_getElem? (i := 56) rfl), ck_X5.1, ck_X5.2.1, ck_X5.2.2, by decide +kernel, by decide⟩, tb_4 _ (List.mem_of_getElem? (i := 55) rfl), sl_3 (⟨"ParapetCourt$Terms", "add", "(IIII)V"⟩, 8) (List.mem_of_getElem? (i := 12) rfl)⟩
set_option maxRecDepth 20000 in
theorem mk_X5_close : MKv mt_X5_close 1 := ⟨⟨tb_4 _ (List.mem_of_getElem? (i := 52) rfl), ck_X5.1, ck_X5.2.1, ck_X5.2.2, by decide +kernel, by decide⟩, tb_4 _ (List.mem_of_getElem? (i := 51) rfl), sl_3 (⟨"ParapetCourt$Terms", "close", "(I)V"⟩, 8) (List.mem_of_getElem? (i := 11) rfl)⟩
set_option maxRecDepth 20000 in
theorem mk_X6_readEnd : MKv mt_X6_readEnd 0 := ⟨⟨tb_4 _ (List.mem_of_getElem? (i := 47) rfl), ck_X6.1, ck_X6.2.1, ck_X6.2.2, by decide +kernel, by decide⟩, tb_4 _ (List.mem_of_getElem? (i := 46) rfl), sl_3 (⟨"ParapetCourt$TermsReader", "readEnd", "()Z"⟩, 6) (List.mem_of_getElem? (i := 10) rfl)⟩
set_option maxRecDepth 20000 in
theorem mk_X7_isStepWord : MKv mt_X7_isStepWord 0 := ⟨⟨tb_4 _ (List.mem_of_getElem? (i := 66) rfl), ck_X7.1, ck_X7.2.1, ck_X7.2.2, by decide +kernel, by decide⟩, tb_4 _ (List.mem_of_getElem? (i := 65) rfl), sl_3 (⟨"ParapetCourt$Text", "isStepWord", "()Z"⟩, 12) (List.mem_of_getElem? (i := 14) rfl)⟩
set_option maxRecDepth 20000 in
theorem mk_X6_beginsStep : MKv mt_X6_beginsStep 0 := ⟨⟨tb_4 _ (List.mem_of_getElem? (i := 62) rfl), ck_X6.1, ck_X6.2.1, ck_X6.2.2, by decide +kernel, by decide⟩, tb_4 _ (List.mem_of_getElem? (i := 61) rfl), sl_3 (⟨"ParapetCourt$TermsReader", "beginsStep", "()Z"⟩, 6) (List.mem_of_getElem? (i := 13) rfl)⟩
set_option maxRecDepth 20000 in
theorem mk_X6_readCount : MKv mt_X6_readCount 2 := ⟨⟨tb_4 _ (List.mem_of_getElem? (i := 74) rfl), ck_X6.1, ck_X6.2.1, ck_X6.2.2, by decide +kernel, by decide⟩, tb_4 _ (List.mem_of_getElem? (i := 73) rfl), sl_4 (⟨"ParapetCourt$TermsReader", "readCount", "(II)Z"⟩, 6) (List.mem_of_getElem? (i := 0) rfl)⟩
set_option maxRecDepth 20000 in
theorem mk_X6_readTry : MKv mt_X6_readTry 0 := ⟨⟨tb_4 _ (List.mem_of_getElem? (i := 80) rfl), ck_X6.1, ck_X6.2.1, ck_X6.2.2, by decide +kernel, by decide⟩, tb_4 _ (List.mem_of_getElem? (i := 79) rfl), sl_4 (⟨"ParapetCourt$TermsReader", "readTry", "()Z"⟩, 6) (List.mem_of_getElem? (i := 1) rfl)⟩
set_option maxRecDepth 20000 in
theorem mk_X6_takeStone : MKv mt_X6_takeStone 0 := ⟨⟨tb_4 _ (List.mem_of_getElem? (i := 90) rfl), ck_X6.1, ck_X6.2.1, ck_X6.2.2, by decide +kernel, by decide⟩, tb_4 _ (List.mem_of_getElem? (i := 89) rfl), sl_4 (⟨"ParapetCourt$TermsReader", "takeStone", "()Z"⟩, 6) (List.mem_of_getElem? (i := 3) rfl)⟩
set_option maxRecDepth 20000 in
theorem mk_X6_readFly : MKv mt_X6_readFly 0 := ⟨⟨tb_4 _ (List.mem_of_getElem? (i := 84) rfl), ck_X6.1, ck_X6.2.1, ck_X6.2.2, by decide +kernel, by decide⟩, tb_4 _ (List.mem_of_getElem? (i := 83) rfl), sl_4 (⟨"ParapetCourt$TermsReader", "readFly", "()Z"⟩, 6) (List.mem_of_getElem? (i := 2) rfl)⟩
set_option maxRecDepth 20000 in
theorem mk_X7_takeComparison : MKv mt_X7_takeComparison 0 := ⟨⟨tb_4 _ (List.mem_of_getElem? (i := 99) rfl), ck_X7.1, ck_X7.2.1, ck_X7.2.2, by decide +kernel, by decide⟩, tb_4 _ (List.mem_of_getElem? (i := 98) rfl), sl_4 (⟨"ParapetCourt$Text", "takeComparison", "()Z"⟩, 12) (List.mem_of_getElem? (i := 5) rfl)⟩
set_option maxRecDepth 20000 in
theorem mk_X6_readTest : MKv mt_X6_readTest 0 := ⟨⟨tb_4 _ (List.mem_of_getElem? (i := 95) rfl), ck_X6.1, ck_X6.2.1, ck_X6.2.2, by decide +kernel, by decide⟩, tb_4 _ (List.mem_of_getElem? (i := 94) rfl), sl_4 (⟨"ParapetCourt$TermsReader", "readTest", "()Z"⟩, 6) (List.mem_of_getElem? (i := 4) rfl)⟩
set_option maxRecDepth 20000 in
theorem mk_X6_readStone : MKv mt_X6_readStone 1 := ⟨⟨tb_4 _ (List.mem_of_getElem? (i := 103) rfl), ck_X6.1, ck_X6.2.1, ck_X6.2.2, by decide +kernel, by decide⟩, tb_4 _ (List.mem_of_getElem? (i := 102) rfl), sl_4 (⟨"ParapetCourt$TermsReader", "readStone", "(I)Z"⟩, 6) (List.mem_of_getElem? (i := 6) rfl)⟩
set_option maxRecDepth 20000 in
theorem mk_X6_readStep : MKv mt_X6_readStep 0 := ⟨⟨tb_4 _ (List.mem_of_getElem? (i := 70) rfl), ck_X6.1, ck_X6.2.1, ck_X6.2.2, by decide +kernel, by decide⟩, tb_4 _ (List.mem_of_getElem? (i := 69) rfl), sl_3 (⟨"ParapetCourt$TermsReader", "readStep", "()Z"⟩, 6) (List.mem_of_getElem? (i := 15) rfl)⟩
set_option maxRecDepth 20000 in
theorem mk_X6_reads : MKv mt_X6_reads 0 := ⟨⟨tb_4 _ (List.mem_of_getElem? (i := 40) rfl), ck_X6.1, ck_X6.2.1, ck_X6.2.2, by decide +kernel, by decide⟩, tb_4 _ (List.mem_of_getElem? (i := 39) rfl), sl_3 (⟨"ParapetCourt$TermsReader", "reads", "()Z"⟩, 6) (List.mem_of_getElem? (i := 9) rfl)⟩
set_option maxRecDepth 20000 in
theorem mk_X5_copyFrom : MKv mt_X5_copyFrom 1 := ⟨⟨tb_4 _ (List.mem_of_getElem? (i := 107) rfl), ck_X5.1, ck_X5.2.1, ck_X5.2.2, by decide +kernel, by decide⟩, tb_4 _ (List.mem_of_getElem? (i := 106) rfl), sl_4 (⟨"ParapetCourt$Terms", "copyFrom", "(LParapetCourt$Terms;)V"⟩, 8) (List.mem_of_getElem? (i := 7) rfl)⟩
set_option maxRecDepth 20000 in
theorem mk_X11_terms : MKv mt_X11_terms 1 := ⟨⟨tb_4 _ (List.mem_of_getElem? (i := 36) rfl), ck_X11.1, ck_X11.2.1, ck_X11.2.2, by decide +kernel, by decide⟩, tb_4 _ (List.mem_of_getElem? (i := 34) rfl), tb_4 _ (List.mem_of_getElem? (i := 35) rfl)⟩
set_option maxRecDepth 20000 in
theorem mk_X12_readPlace : MKv mt_X12_readPlace 0 := ⟨⟨tb_8 _ (List.mem_of_getElem? (i := 34) rfl), ck_X12.1, ck_X12.2.1, ck_X12.2.2, by decide +kernel, by decide⟩, tb_8 _ (List.mem_of_getElem? (i := 33) rfl), sl_11 (⟨"ParapetCourtModel", "readPlace", "()I"⟩, 45) (List.mem_of_getElem? (i := 6) rfl)⟩
set_option maxRecDepth 20000 in
theorem mk_X12_readTest : MKv mt_X12_readTest 1 := ⟨⟨tb_8 _ (List.mem_of_getElem? (i := 38) rfl), ck_X12.1, ck_X12.2.1, ck_X12.2.2, by decide +kernel, by decide⟩, tb_8 _ (List.mem_of_getElem? (i := 37) rfl), sl_11 (⟨"ParapetCourtModel", "readTest", "(I)V"⟩, 45) (List.mem_of_getElem? (i := 7) rfl)⟩
set_option maxRecDepth 20000 in
theorem mk_X12_readRest : MKv mt_X12_readRest 1 := ⟨⟨tb_8 _ (List.mem_of_getElem? (i := 30) rfl), ck_X12.1, ck_X12.2.1, ck_X12.2.2, by decide +kernel, by decide⟩, tb_8 _ (List.mem_of_getElem? (i := 29) rfl), sl_11 (⟨"ParapetCourtModel", "readRest", "(I)V"⟩, 45) (List.mem_of_getElem? (i := 5) rfl)⟩
set_option maxRecDepth 20000 in
theorem mk_X12_readStep : MKv mt_X12_readStep 1 := ⟨⟨tb_8 _ (List.mem_of_getElem? (i := 26) rfl), ck_X12.1, ck_X12.2.1, ck_X12.2.2, by decide +kernel, by decide⟩, tb_8 _ (List.mem_of_getElem? (i := 25) rfl), sl_11 (⟨"ParapetCourtModel", "readStep", "(I)V"⟩, 45) (List.mem_of_getElem? (i := 4) rfl)⟩
set_option maxRecDepth 20000 in
theorem mk_X12_terms : MKv mt_X12_terms 1 := ⟨⟨tb_8 _ (List.mem_of_getElem? (i := 22) rfl), ck_X12.1, ck_X12.2.1, ck_X12.2.2, by decide +kernel, by decide⟩, tb_8 _ (List.mem_of_getElem? (i := 20) rfl), tb_8 _ (List.mem_of_getElem? (i := 21) rfl)⟩
set_option maxRecDepth 20000 in
theorem mk_X11_fault : MKv mt_X11_fault 1 := ⟨⟨tb_4 _ (List.mem_of_getElem? (i := 111) rfl), ck_X11.1, ck_X11.2.1, ck_X11.2.2, by decide +kernel, by decide⟩, tb_4 _ (List.mem_of_getElem? (i := 109) rfl), tb_4 _ (List.mem_of_getElem? (i := 110) rfl)⟩
set_option maxRecDepth 20000 in
theorem mk_X12_fault : MKv mt_X12_fault 1 := ⟨⟨tb_7 _ (List.mem_of_getElem? (i := 86) rfl), ck_X12.1, ck_X12.2.1, ck_X12.2.2, by decide +kernel, by decide⟩, tb_7 _ (List.mem_of_getElem? (i := 84) rfl), tb_7 _ (List.mem_of_getElem? (i := 85) rfl)⟩
set_option maxRecDepth 20000 in
theorem mk_JI_bitCount : MKs mt_JI_bitCount 1 := ⟨⟨tb_4 _ (List.mem_of_getElem? (i := 122) rfl), ck_JI.1, ck_JI.2.1, ck_JI.2.2, by decide +kernel, by decide⟩, tb_4 _ (List.mem_of_getElem? (i := 121) rfl)⟩
set_option maxRecDepth 20000 in
theorem mk_X9_stoneCount : MKv mt_X9_stoneCount 0 := ⟨⟨tb_4 _ (List.mem_of_getElem? (i := 119) rfl), ck_X9.1, ck_X9.2.1, ck_X9.2.2, by decide +kernel, by decide⟩, tb_4 _ (List.mem_of_getElem? (i := 118) rfl), sl_4 (⟨"ParapetCourt$Wall", "stoneCount", "()I"⟩, 16) (List.mem_of_getElem? (i := 8) rfl)⟩
set_option maxRecDepth 20000 in
theorem mk_X9_mossOfAll : MKv mt_X9_mossOfAll 0 := ⟨⟨tb_4 _ (List.mem_of_getElem? (i := 129) rfl), ck_X9.1, ck_X9.2.1, ck_X9.2.2, by decide +kernel, by decide⟩, tb_4 _ (List.mem_of_getElem? (i := 128) rfl), sl_4 (⟨"ParapetCourt$Wall", "mossOfAll", "()I"⟩, 16) (List.mem_of_getElem? (i := 9) rfl)⟩
set_option maxRecDepth 20000 in
theorem mk_X11_many : MKv mt_X11_many 1 := ⟨⟨tb_4 _ (List.mem_of_getElem? (i := 115) rfl), ck_X11.1, ck_X11.2.1, ck_X11.2.2, by decide +kernel, by decide⟩, tb_4 _ (List.mem_of_getElem? (i := 113) rfl), tb_4 _ (List.mem_of_getElem? (i := 114) rfl)⟩
set_option maxRecDepth 20000 in
theorem mk_X12_refuse : MKv mt_X12_refuse 1 := ⟨⟨tb_8 _ (List.mem_of_getElem? (i := 47) rfl), ck_X12.1, ck_X12.2.1, ck_X12.2.2, by decide +kernel, by decide⟩, tb_8 _ (List.mem_of_getElem? (i := 46) rfl), sl_11 (⟨"ParapetCourtModel", "refuse", "(I)I"⟩, 45) (List.mem_of_getElem? (i := 8) rfl)⟩
set_option maxRecDepth 20000 in
theorem mk_X12_isStoneAt : MKv mt_X12_isStoneAt 1 := ⟨⟨tb_8 _ (List.mem_of_getElem? (i := 55) rfl), ck_X12.1, ck_X12.2.1, ck_X12.2.2, by decide +kernel, by decide⟩, tb_8 _ (List.mem_of_getElem? (i := 54) rfl), sl_11 (⟨"ParapetCourtModel", "isStoneAt", "(I)Z"⟩, 45) (List.mem_of_getElem? (i := 10) rfl)⟩
set_option maxRecDepth 20000 in
theorem mk_X12_stones : MKv mt_X12_stones 0 := ⟨⟨tb_8 _ (List.mem_of_getElem? (i := 51) rfl), ck_X12.1, ck_X12.2.1, ck_X12.2.2, by decide +kernel, by decide⟩, tb_8 _ (List.mem_of_getElem? (i := 50) rfl), sl_11 (⟨"ParapetCourtModel", "stones", "()I"⟩, 45) (List.mem_of_getElem? (i := 9) rfl)⟩
set_option maxRecDepth 20000 in
theorem mk_X12_has : MKs mt_X12_has 2 := ⟨⟨tb_8 _ (List.mem_of_getElem? (i := 61) rfl), ck_X12.1, ck_X12.2.1, ck_X12.2.2, by decide +kernel, by decide⟩, tb_8 _ (List.mem_of_getElem? (i := 60) rfl)⟩
set_option maxRecDepth 20000 in
theorem mk_X12_sizeOf : MKs mt_X12_sizeOf 1 := ⟨⟨tb_8 _ (List.mem_of_getElem? (i := 58) rfl), ck_X12.1, ck_X12.2.1, ck_X12.2.2, by decide +kernel, by decide⟩, tb_8 _ (List.mem_of_getElem? (i := 57) rfl)⟩
set_option maxRecDepth 20000 in
theorem mk_X12_mossAll : MKv mt_X12_mossAll 0 := ⟨⟨tb_8 _ (List.mem_of_getElem? (i := 65) rfl), ck_X12.1, ck_X12.2.1, ck_X12.2.2, by decide +kernel, by decide⟩, tb_8 _ (List.mem_of_getElem? (i := 64) rfl), sl_11 (⟨"ParapetCourtModel", "mossAll", "()I"⟩, 45) (List.mem_of_getElem? (i := 11) rfl)⟩
set_option maxRecDepth 20000 in
theorem mk_X12_many : MKv mt_X12_many 1 := ⟨⟨tb_8 _ (List.mem_of_getElem? (i := 42) rfl), ck_X12.1, ck_X12.2.1, ck_X12.2.2, by decide +kernel, by decide⟩, tb_8 _ (List.mem_of_getElem? (i := 40) rfl), tb_8 _ (List.mem_of_getElem? (i := 41) rfl)⟩
set_option maxRecDepth 20000 in
theorem mk_X9_isPlace : MKv mt_X9_isPlace 1 := ⟨⟨tb_4 _ (List.mem_of_getElem? (i := 141) rfl), ck_X9.1, ck_X9.2.1, ck_X9.2.2, by decide +kernel, by decide⟩, tb_4 _ (List.mem_of_getElem? (i := 140) rfl), sl_4 (⟨"ParapetCourt$Wall", "isPlace", "(J)Z"⟩, 16) (List.mem_of_getElem? (i := 11) rfl)⟩
set_option maxRecDepth 20000 in
theorem mk_X9_isStone : MKv mt_X9_isStone 1 := ⟨⟨tb_4 _ (List.mem_of_getElem? (i := 145) rfl), ck_X9.1, ck_X9.2.1, ck_X9.2.2, by decide +kernel, by decide⟩, tb_4 _ (List.mem_of_getElem? (i := 144) rfl), sl_4 (⟨"ParapetCourt$Wall", "isStone", "(J)Z"⟩, 16) (List.mem_of_getElem? (i := 12) rfl)⟩
set_option maxRecDepth 20000 in
theorem mk_X11_stoneWhy : MKv mt_X11_stoneWhy 2 := ⟨⟨tb_4 _ (List.mem_of_getElem? (i := 137) rfl), ck_X11.1, ck_X11.2.1, ck_X11.2.2, by decide +kernel, by decide⟩, tb_4 _ (List.mem_of_getElem? (i := 136) rfl), sl_4 (⟨"ParapetCourt", "stoneWhy", "(IZ)I"⟩, 20) (List.mem_of_getElem? (i := 10) rfl)⟩
set_option maxRecDepth 20000 in
theorem mk_X9_crowsOn : MKv mt_X9_crowsOn 1 := ⟨⟨tb_4 _ (List.mem_of_getElem? (i := 149) rfl), ck_X9.1, ck_X9.2.1, ck_X9.2.2, by decide +kernel, by decide⟩, tb_4 _ (List.mem_of_getElem? (i := 148) rfl), sl_4 (⟨"ParapetCourt$Wall", "crowsOn", "(I)I"⟩, 16) (List.mem_of_getElem? (i := 13) rfl)⟩
set_option maxRecDepth 20000 in
theorem mk_X9_mercyFor : MKv mt_X9_mercyFor 3 := ⟨⟨tb_4 _ (List.mem_of_getElem? (i := 153) rfl), ck_X9.1, ck_X9.2.1, ck_X9.2.2, by decide +kernel, by decide⟩, tb_4 _ (List.mem_of_getElem? (i := 152) rfl), sl_4 (⟨"ParapetCourt$Wall", "mercyFor", "(III)I"⟩, 16) (List.mem_of_getElem? (i := 14) rfl)⟩
set_option maxRecDepth 20000 in
theorem mk_X11_stone : MKv mt_X11_stone 2 := ⟨⟨tb_4 _ (List.mem_of_getElem? (i := 133) rfl), ck_X11.1, ck_X11.2.1, ck_X11.2.2, by decide +kernel, by decide⟩, tb_4 _ (List.mem_of_getElem? (i := 131) rfl), tb_4 _ (List.mem_of_getElem? (i := 132) rfl)⟩
set_option maxRecDepth 20000 in
theorem mk_X12_isPlaceAt : MKv mt_X12_isPlaceAt 1 := ⟨⟨tb_8 _ (List.mem_of_getElem? (i := 73) rfl), ck_X12.1, ck_X12.2.1, ck_X12.2.2, by decide +kernel, by decide⟩, tb_8 _ (List.mem_of_getElem? (i := 72) rfl), sl_11 (⟨"ParapetCourtModel", "isPlaceAt", "(J)Z"⟩, 45) (List.mem_of_getElem? (i := 12) rfl)⟩
set_option maxRecDepth 20000 in
theorem mk_X12_crowsOn : MKv mt_X12_crowsOn 1 := ⟨⟨tb_8 _ (List.mem_of_getElem? (i := 78) rfl), ck_X12.1, ck_X12.2.1, ck_X12.2.2, by decide +kernel, by decide⟩, tb_8 _ (List.mem_of_getElem? (i := 77) rfl), sl_11 (⟨"ParapetCourtModel", "crowsOn", "(I)I"⟩, 45) (List.mem_of_getElem? (i := 13) rfl)⟩
set_option maxRecDepth 20000 in
theorem mk_X12_farOf : MKv mt_X12_farOf 2 := ⟨⟨tb_8 _ (List.mem_of_getElem? (i := 86) rfl), ck_X12.1, ck_X12.2.1, ck_X12.2.2, by decide +kernel, by decide⟩, tb_8 _ (List.mem_of_getElem? (i := 85) rfl), sl_11 (⟨"ParapetCourtModel", "farOf", "(II)I"⟩, 45) (List.mem_of_getElem? (i := 15) rfl)⟩
set_option maxRecDepth 20000 in
theorem mk_X12_mercyOf : MKv mt_X12_mercyOf 2 := ⟨⟨tb_8 _ (List.mem_of_getElem? (i := 82) rfl), ck_X12.1, ck_X12.2.1, ck_X12.2.2, by decide +kernel, by decide⟩, tb_8 _ (List.mem_of_getElem? (i := 81) rfl), sl_11 (⟨"ParapetCourtModel", "mercyOf", "(II)I"⟩, 45) (List.mem_of_getElem? (i := 14) rfl)⟩
set_option maxRecDepth 20000 in
theorem mk_X12_stone : MKv mt_X12_stone 2 := ⟨⟨tb_8 _ (List.mem_of_getElem? (i := 69) rfl), ck_X12.1, ck_X12.2.1, ck_X12.2.2, by decide +kernel, by decide⟩, tb_8 _ (List.mem_of_getElem? (i := 67) rfl), tb_8 _ (List.mem_of_getElem? (i := 68) rfl)⟩
set_option maxRecDepth 20000 in
theorem mk_X9_isCrow : MKv mt_X9_isCrow 1 := ⟨⟨tb_4 _ (List.mem_of_getElem? (i := 165) rfl), ck_X9.1, ck_X9.2.1, ck_X9.2.2, by decide +kernel, by decide⟩, tb_4 _ (List.mem_of_getElem? (i := 164) rfl), sl_4 (⟨"ParapetCourt$Wall", "isCrow", "(I)Z"⟩, 16) (List.mem_of_getElem? (i := 15) rfl)⟩
set_option maxRecDepth 20000 in
theorem mk_X11_crow : MKv mt_X11_crow 2 := ⟨⟨tb_4 _ (List.mem_of_getElem? (i := 161) rfl), ck_X11.1, ck_X11.2.1, ck_X11.2.2, by decide +kernel, by decide⟩, tb_4 _ (List.mem_of_getElem? (i := 159) rfl), tb_4 _ (List.mem_of_getElem? (i := 160) rfl)⟩
set_option maxRecDepth 20000 in
theorem mk_X12_isCrowAt : MKv mt_X12_isCrowAt 1 := ⟨⟨tb_8 _ (List.mem_of_getElem? (i := 96) rfl), ck_X12.1, ck_X12.2.1, ck_X12.2.2, by decide +kernel, by decide⟩, tb_8 _ (List.mem_of_getElem? (i := 95) rfl), sl_12 (⟨"ParapetCourtModel", "isCrowAt", "(I)Z"⟩, 45) (List.mem_of_getElem? (i := 0) rfl)⟩
set_option maxRecDepth 20000 in
theorem mk_X12_crow : MKv mt_X12_crow 2 := ⟨⟨tb_8 _ (List.mem_of_getElem? (i := 92) rfl), ck_X12.1, ck_X12.2.1, ck_X12.2.2, by decide +kernel, by decide⟩, tb_8 _ (List.mem_of_getElem? (i := 90) rfl), tb_8 _ (List.mem_of_getElem? (i := 91) rfl)⟩
set_option maxRecDepth 20000 in
theorem mk_X11_copyMoss : MKv mt_X11_copyMoss 1 := ⟨⟨tb_4 _ (List.mem_of_getElem? (i := 169) rfl), ck_X11.1, ck_X11.2.1, ck_X11.2.2, by decide +kernel, by decide⟩, tb_4 _ (List.mem_of_getElem? (i := 167) rfl), tb_4 _ (List.mem_of_getElem? (i := 168) rfl)⟩
set_option maxRecDepth 20000 in
theorem mk_X12_isTray : MKv mt_X12_isTray 1 := ⟨⟨tb_8 _ (List.mem_of_getElem? (i := 104) rfl), ck_X12.1, ck_X12.2.1, ck_X12.2.2, by decide +kernel, by decide⟩, tb_8 _ (List.mem_of_getElem? (i := 103) rfl), sl_12 (⟨"ParapetCourtModel", "isTray", "(I)Z"⟩, 45) (List.mem_of_getElem? (i := 1) rfl)⟩
set_option maxRecDepth 20000 in
theorem mk_X12_copyMoss : MKv mt_X12_copyMoss 1 := ⟨⟨tb_8 _ (List.mem_of_getElem? (i := 100) rfl), ck_X12.1, ck_X12.2.1, ck_X12.2.2, by decide +kernel, by decide⟩, tb_8 _ (List.mem_of_getElem? (i := 98) rfl), tb_8 _ (List.mem_of_getElem? (i := 99) rfl)⟩
set_option maxRecDepth 20000 in
theorem mk_X11_isGuilt : MKs mt_X11_isGuilt 1 := ⟨⟨tb_4 _ (List.mem_of_getElem? (i := 180) rfl), ck_X11.1, ck_X11.2.1, ck_X11.2.2, by decide +kernel, by decide⟩, tb_4 _ (List.mem_of_getElem? (i := 179) rfl)⟩
set_option maxRecDepth 20000 in
theorem mk_X11_guiltWhy : MKv mt_X11_guiltWhy 2 := ⟨⟨tb_4 _ (List.mem_of_getElem? (i := 177) rfl), ck_X11.1, ck_X11.2.1, ck_X11.2.2, by decide +kernel, by decide⟩, tb_4 _ (List.mem_of_getElem? (i := 176) rfl), sl_5 (⟨"ParapetCourt", "guiltWhy", "(II)I"⟩, 20) (List.mem_of_getElem? (i := 0) rfl)⟩
set_option maxRecDepth 20000 in
theorem mk_X9_turningFrom : MKv mt_X9_turningFrom 3 := ⟨⟨tb_4 _ (List.mem_of_getElem? (i := 189) rfl), ck_X9.1, ck_X9.2.1, ck_X9.2.2, by decide +kernel, by decide⟩, tb_4 _ (List.mem_of_getElem? (i := 188) rfl), sl_5 (⟨"ParapetCourt$Wall", "turningFrom", "(III)I"⟩, 16) (List.mem_of_getElem? (i := 2) rfl)⟩
set_option maxRecDepth 20000 in
theorem mk_X9_isMost : MKv mt_X9_isMost 1 := ⟨⟨tb_4 _ (List.mem_of_getElem? (i := 195) rfl), ck_X9.1, ck_X9.2.1, ck_X9.2.2, by decide +kernel, by decide⟩, tb_4 _ (List.mem_of_getElem? (i := 194) rfl), sl_5 (⟨"ParapetCourt$Wall", "isMost", "(I)Z"⟩, 16) (List.mem_of_getElem? (i := 3) rfl)⟩
set_option maxRecDepth 20000 in
theorem mk_X9_weaken : MKv mt_X9_weaken 1 := ⟨⟨tb_4 _ (List.mem_of_getElem? (i := 199) rfl), ck_X9.1, ck_X9.2.1, ck_X9.2.2, by decide +kernel, by decide⟩, tb_4 _ (List.mem_of_getElem? (i := 198) rfl), sl_5 (⟨"ParapetCourt$Wall", "weaken", "(I)V"⟩, 16) (List.mem_of_getElem? (i := 4) rfl)⟩
set_option maxRecDepth 20000 in
theorem mk_X9_holdTrial : MKv mt_X9_holdTrial 3 := ⟨⟨tb_4 _ (List.mem_of_getElem? (i := 185) rfl), ck_X9.1, ck_X9.2.1, ck_X9.2.2, by decide +kernel, by decide⟩, tb_4 _ (List.mem_of_getElem? (i := 184) rfl), sl_5 (⟨"ParapetCourt$Wall", "holdTrial", "(IIZ)Z"⟩, 16) (List.mem_of_getElem? (i := 1) rfl)⟩
set_option maxRecDepth 20000 in
theorem mk_X11_judge : MKv mt_X11_judge 3 := ⟨⟨tb_4 _ (List.mem_of_getElem? (i := 173) rfl), ck_X11.1, ck_X11.2.1, ck_X11.2.2, by decide +kernel, by decide⟩, tb_4 _ (List.mem_of_getElem? (i := 171) rfl), tb_4 _ (List.mem_of_getElem? (i := 172) rfl)⟩
set_option maxRecDepth 20000 in
theorem mk_X12_whyNoTrial : MKv mt_X12_whyNoTrial 2 := ⟨⟨tb_8 _ (List.mem_of_getElem? (i := 114) rfl), ck_X12.1, ck_X12.2.1, ck_X12.2.2, by decide +kernel, by decide⟩, tb_8 _ (List.mem_of_getElem? (i := 113) rfl), sl_12 (⟨"ParapetCourtModel", "whyNoTrial", "(II)I"⟩, 45) (List.mem_of_getElem? (i := 2) rfl)⟩
set_option maxRecDepth 20000 in
theorem mk_X12_turnedFrom : MKv mt_X12_turnedFrom 2 := ⟨⟨tb_8 _ (List.mem_of_getElem? (i := 123) rfl), ck_X12.1, ck_X12.2.1, ck_X12.2.2, by decide +kernel, by decide⟩, tb_8 _ (List.mem_of_getElem? (i := 122) rfl), sl_12 (⟨"ParapetCourtModel", "turnedFrom", "(II)I"⟩, 45) (List.mem_of_getElem? (i := 4) rfl)⟩
set_option maxRecDepth 20000 in
theorem mk_X12_isMore : MKv mt_X12_isMore 2 := ⟨⟨tb_8 _ (List.mem_of_getElem? (i := 131) rfl), ck_X12.1, ck_X12.2.1, ck_X12.2.2, by decide +kernel, by decide⟩, tb_8 _ (List.mem_of_getElem? (i := 130) rfl), sl_12 (⟨"ParapetCourtModel", "isMore", "(II)Z"⟩, 45) (List.mem_of_getElem? (i := 6) rfl)⟩
set_option maxRecDepth 20000 in
theorem mk_X12_isCondemned : MKv mt_X12_isCondemned 2 := ⟨⟨tb_8 _ (List.mem_of_getElem? (i := 127) rfl), ck_X12.1, ck_X12.2.1, ck_X12.2.2, by decide +kernel, by decide⟩, tb_8 _ (List.mem_of_getElem? (i := 126) rfl), sl_12 (⟨"ParapetCourtModel", "isCondemned", "(II)Z"⟩, 45) (List.mem_of_getElem? (i := 5) rfl)⟩
set_option maxRecDepth 20000 in
theorem mk_X12_falls : MKv mt_X12_falls 1 := ⟨⟨tb_8 _ (List.mem_of_getElem? (i := 135) rfl), ck_X12.1, ck_X12.2.1, ck_X12.2.2, by decide +kernel, by decide⟩, tb_8 _ (List.mem_of_getElem? (i := 134) rfl), sl_12 (⟨"ParapetCourtModel", "falls", "(I)V"⟩, 45) (List.mem_of_getElem? (i := 7) rfl)⟩
set_option maxRecDepth 20000 in
theorem mk_X12_tries : MKv mt_X12_tries 3 := ⟨⟨tb_8 _ (List.mem_of_getElem? (i := 119) rfl), ck_X12.1, ck_X12.2.1, ck_X12.2.2, by decide +kernel, by decide⟩, tb_8 _ (List.mem_of_getElem? (i := 118) rfl), sl_12 (⟨"ParapetCourtModel", "tries", "(IIZ)Z"⟩, 45) (List.mem_of_getElem? (i := 3) rfl)⟩
set_option maxRecDepth 20000 in
theorem mk_X12_judge : MKv mt_X12_judge 3 := ⟨⟨tb_8 _ (List.mem_of_getElem? (i := 110) rfl), ck_X12.1, ck_X12.2.1, ck_X12.2.2, by decide +kernel, by decide⟩, tb_8 _ (List.mem_of_getElem? (i := 108) rfl), tb_8 _ (List.mem_of_getElem? (i := 109) rfl)⟩
set_option maxRecDepth 20000 in
theorem mk_X9_passYears : MKv mt_X9_passYears 1 := ⟨⟨tb_4 _ (List.mem_of_getElem? (i := 207) rfl), ck_X9.1, ck_X9.2.1, ck_X9.2.2, by decide +kernel, by decide⟩, tb_4 _ (List.mem_of_getElem? (i := 206) rfl), sl_5 (⟨"ParapetCourt$Wall", "passYears", "(I)Z"⟩, 16) (List.mem_of_getElem? (i := 5) rfl)⟩
set_option maxRecDepth 20000 in
theorem mk_X11_year : MKv mt_X11_year 1 := ⟨⟨tb_4 _ (List.mem_of_getElem? (i := 203) rfl), ck_X11.1, ck_X11.2.1, ck_X11.2.2, by decide +kernel, by decide⟩, tb_4 _ (List.mem_of_getElem? (i := 201) rfl), tb_4 _ (List.mem_of_getElem? (i := 202) rfl)⟩
set_option maxRecDepth 20000 in
theorem mk_X12_ages : MKv mt_X12_ages 0 := ⟨⟨tb_8 _ (List.mem_of_getElem? (i := 143) rfl), ck_X12.1, ck_X12.2.1, ck_X12.2.2, by decide +kernel, by decide⟩, tb_8 _ (List.mem_of_getElem? (i := 142) rfl), sl_12 (⟨"ParapetCourtModel", "ages", "()V"⟩, 45) (List.mem_of_getElem? (i := 8) rfl)⟩
set_option maxRecDepth 20000 in
theorem mk_X12_year : MKv mt_X12_year 1 := ⟨⟨tb_8 _ (List.mem_of_getElem? (i := 139) rfl), ck_X12.1, ck_X12.2.1, ck_X12.2.2, by decide +kernel, by decide⟩, tb_8 _ (List.mem_of_getElem? (i := 137) rfl), tb_8 _ (List.mem_of_getElem? (i := 138) rfl)⟩
set_option maxRecDepth 20000 in
theorem mk_X11_isLenient : MKs mt_X11_isLenient 1 := ⟨⟨tb_4 _ (List.mem_of_getElem? (i := 214) rfl), ck_X11.1, ck_X11.2.1, ck_X11.2.2, by decide +kernel, by decide⟩, tb_4 _ (List.mem_of_getElem? (i := 213) rfl)⟩
set_option maxRecDepth 20000 in
theorem mk_X11_carve : MKv mt_X11_carve 2 := ⟨⟨tb_4 _ (List.mem_of_getElem? (i := 211) rfl), ck_X11.1, ck_X11.2.1, ck_X11.2.2, by decide +kernel, by decide⟩, tb_4 _ (List.mem_of_getElem? (i := 209) rfl), tb_4 _ (List.mem_of_getElem? (i := 210) rfl)⟩
set_option maxRecDepth 20000 in
theorem mk_X12_carve : MKv mt_X12_carve 2 := ⟨⟨tb_8 _ (List.mem_of_getElem? (i := 147) rfl), ck_X12.1, ck_X12.2.1, ck_X12.2.2, by decide +kernel, by decide⟩, tb_8 _ (List.mem_of_getElem? (i := 145) rfl), tb_8 _ (List.mem_of_getElem? (i := 146) rfl)⟩
set_option maxRecDepth 20000 in
theorem mk_X11_clear : MKv mt_X11_clear 1 := ⟨⟨tb_4 _ (List.mem_of_getElem? (i := 218) rfl), ck_X11.1, ck_X11.2.1, ck_X11.2.2, by decide +kernel, by decide⟩, tb_4 _ (List.mem_of_getElem? (i := 216) rfl), tb_4 _ (List.mem_of_getElem? (i := 217) rfl)⟩
set_option maxRecDepth 20000 in
theorem mk_X12_clears : MKv mt_X12_clears 1 := ⟨⟨tb_8 _ (List.mem_of_getElem? (i := 156) rfl), ck_X12.1, ck_X12.2.1, ck_X12.2.2, by decide +kernel, by decide⟩, tb_8 _ (List.mem_of_getElem? (i := 155) rfl), sl_12 (⟨"ParapetCourtModel", "clears", "(I)Z"⟩, 45) (List.mem_of_getElem? (i := 9) rfl)⟩
set_option maxRecDepth 20000 in
theorem mk_X12_clear : MKv mt_X12_clear 1 := ⟨⟨tb_8 _ (List.mem_of_getElem? (i := 152) rfl), ck_X12.1, ck_X12.2.1, ck_X12.2.2, by decide +kernel, by decide⟩, tb_8 _ (List.mem_of_getElem? (i := 150) rfl), tb_8 _ (List.mem_of_getElem? (i := 151) rfl)⟩
set_option maxRecDepth 20000 in
theorem mk_X11_open : MKv mt_X11_open 1 := ⟨⟨tb_4 _ (List.mem_of_getElem? (i := 222) rfl), ck_X11.1, ck_X11.2.1, ck_X11.2.2, by decide +kernel, by decide⟩, tb_4 _ (List.mem_of_getElem? (i := 220) rfl), tb_4 _ (List.mem_of_getElem? (i := 221) rfl)⟩
set_option maxRecDepth 20000 in
theorem mk_X12_open : MKv mt_X12_open 1 := ⟨⟨tb_8 _ (List.mem_of_getElem? (i := 160) rfl), ck_X12.1, ck_X12.2.1, ck_X12.2.2, by decide +kernel, by decide⟩, tb_8 _ (List.mem_of_getElem? (i := 158) rfl), tb_8 _ (List.mem_of_getElem? (i := 159) rfl)⟩
set_option maxRecDepth 20000 in
theorem mk_X11_mend : MKv mt_X11_mend 3 := ⟨⟨tb_4 _ (List.mem_of_getElem? (i := 227) rfl), ck_X11.1, ck_X11.2.1, ck_X11.2.2, by decide +kernel, by decide⟩, tb_4 _ (List.mem_of_getElem? (i := 225) rfl), tb_4 _ (List.mem_of_getElem? (i := 226) rfl)⟩
set_option maxRecDepth 20000 in
theorem mk_X12_mend : MKv mt_X12_mend 3 := ⟨⟨tb_8 _ (List.mem_of_getElem? (i := 164) rfl), ck_X12.1, ck_X12.2.1, ck_X12.2.2, by decide +kernel, by decide⟩, tb_8 _ (List.mem_of_getElem? (i := 162) rfl), tb_8 _ (List.mem_of_getElem? (i := 163) rfl)⟩
set_option maxRecDepth 20000 in
theorem mk_X11_fly : MKv mt_X11_fly 2 := ⟨⟨tb_4 _ (List.mem_of_getElem? (i := 232) rfl), ck_X11.1, ck_X11.2.1, ck_X11.2.2, by decide +kernel, by decide⟩, tb_4 _ (List.mem_of_getElem? (i := 230) rfl), tb_4 _ (List.mem_of_getElem? (i := 231) rfl)⟩
set_option maxRecDepth 20000 in
theorem mk_X12_flies : MKv mt_X12_flies 2 := ⟨⟨tb_8 _ (List.mem_of_getElem? (i := 172) rfl), ck_X12.1, ck_X12.2.1, ck_X12.2.2, by decide +kernel, by decide⟩, tb_8 _ (List.mem_of_getElem? (i := 171) rfl), sl_12 (⟨"ParapetCourtModel", "flies", "(II)Z"⟩, 45) (List.mem_of_getElem? (i := 10) rfl)⟩
set_option maxRecDepth 20000 in
theorem mk_X12_fly : MKv mt_X12_fly 2 := ⟨⟨tb_8 _ (List.mem_of_getElem? (i := 168) rfl), ck_X12.1, ck_X12.2.1, ck_X12.2.2, by decide +kernel, by decide⟩, tb_8 _ (List.mem_of_getElem? (i := 166) rfl), tb_8 _ (List.mem_of_getElem? (i := 167) rfl)⟩
set_option maxRecDepth 20000 in
theorem mk_X11_hatch : MKv mt_X11_hatch 2 := ⟨⟨tb_4 _ (List.mem_of_getElem? (i := 237) rfl), ck_X11.1, ck_X11.2.1, ck_X11.2.2, by decide +kernel, by decide⟩, tb_4 _ (List.mem_of_getElem? (i := 235) rfl), tb_4 _ (List.mem_of_getElem? (i := 236) rfl)⟩
set_option maxRecDepth 20000 in
theorem mk_X12_hatch : MKv mt_X12_hatch 2 := ⟨⟨tb_8 _ (List.mem_of_getElem? (i := 176) rfl), ck_X12.1, ck_X12.2.1, ck_X12.2.2, by decide +kernel, by decide⟩, tb_8 _ (List.mem_of_getElem? (i := 174) rfl), tb_8 _ (List.mem_of_getElem? (i := 175) rfl)⟩
set_option maxRecDepth 20000 in
theorem mk_X11_rule : MKv mt_X11_rule 1 := ⟨⟨tb_5 _ (List.mem_of_getElem? (i := 2) rfl), ck_X11.1, ck_X11.2.1, ck_X11.2.2, by decide +kernel, by decide⟩, tb_5 _ (List.mem_of_getElem? (i := 0) rfl), tb_5 _ (List.mem_of_getElem? (i := 1) rfl)⟩
set_option maxRecDepth 20000 in
theorem mk_X12_rule : MKv mt_X12_rule 1 := ⟨⟨tb_8 _ (List.mem_of_getElem? (i := 180) rfl), ck_X12.1, ck_X12.2.1, ck_X12.2.2, by decide +kernel, by decide⟩, tb_8 _ (List.mem_of_getElem? (i := 178) rfl), tb_8 _ (List.mem_of_getElem? (i := 179) rfl)⟩
set_option maxRecDepth 20000 in
theorem mk_X11_twoPlacesWhy : MKv mt_X11_twoPlacesWhy 2 := ⟨⟨tb_5 _ (List.mem_of_getElem? (i := 10) rfl), ck_X11.1, ck_X11.2.1, ck_X11.2.2, by decide +kernel, by decide⟩, tb_5 _ (List.mem_of_getElem? (i := 9) rfl), sl_5 (⟨"ParapetCourt", "twoPlacesWhy", "(II)I"⟩, 20) (List.mem_of_getElem? (i := 6) rfl)⟩
set_option maxRecDepth 20000 in
theorem mk_X11_far : MKv mt_X11_far 2 := ⟨⟨tb_5 _ (List.mem_of_getElem? (i := 6) rfl), ck_X11.1, ck_X11.2.1, ck_X11.2.2, by decide +kernel, by decide⟩, tb_5 _ (List.mem_of_getElem? (i := 4) rfl), tb_5 _ (List.mem_of_getElem? (i := 5) rfl)⟩
set_option maxRecDepth 20000 in
theorem mk_X12_far : MKv mt_X12_far 2 := ⟨⟨tb_8 _ (List.mem_of_getElem? (i := 185) rfl), ck_X12.1, ck_X12.2.1, ck_X12.2.2, by decide +kernel, by decide⟩, tb_8 _ (List.mem_of_getElem? (i := 183) rfl), tb_8 _ (List.mem_of_getElem? (i := 184) rfl)⟩
set_option maxRecDepth 20000 in
theorem mk_X11_mercy : MKv mt_X11_mercy 2 := ⟨⟨tb_5 _ (List.mem_of_getElem? (i := 16) rfl), ck_X11.1, ck_X11.2.1, ck_X11.2.2, by decide +kernel, by decide⟩, tb_5 _ (List.mem_of_getElem? (i := 14) rfl), tb_5 _ (List.mem_of_getElem? (i := 15) rfl)⟩
set_option maxRecDepth 20000 in
theorem mk_X12_mercy : MKv mt_X12_mercy 2 := ⟨⟨tb_8 _ (List.mem_of_getElem? (i := 189) rfl), ck_X12.1, ck_X12.2.1, ck_X12.2.2, by decide +kernel, by decide⟩, tb_8 _ (List.mem_of_getElem? (i := 187) rfl), tb_8 _ (List.mem_of_getElem? (i := 188) rfl)⟩
set_option maxRecDepth 20000 in
theorem mk_X11_turned : MKv mt_X11_turned 2 := ⟨⟨tb_5 _ (List.mem_of_getElem? (i := 20) rfl), ck_X11.1, ck_X11.2.1, ck_X11.2.2, by decide +kernel, by decide⟩, tb_5 _ (List.mem_of_getElem? (i := 18) rfl), tb_5 _ (List.mem_of_getElem? (i := 19) rfl)⟩
set_option maxRecDepth 20000 in
theorem mk_X12_turned : MKv mt_X12_turned 2 := ⟨⟨tb_8 _ (List.mem_of_getElem? (i := 193) rfl), ck_X12.1, ck_X12.2.1, ck_X12.2.2, by decide +kernel, by decide⟩, tb_8 _ (List.mem_of_getElem? (i := 191) rfl), tb_8 _ (List.mem_of_getElem? (i := 192) rfl)⟩
set_option maxRecDepth 20000 in
theorem mk_X9_condemns : MKv mt_X9_condemns 3 := ⟨⟨tb_5 _ (List.mem_of_getElem? (i := 29) rfl), ck_X9.1, ck_X9.2.1, ck_X9.2.2, by decide +kernel, by decide⟩, tb_5 _ (List.mem_of_getElem? (i := 28) rfl), sl_5 (⟨"ParapetCourt$Wall", "condemns", "(III)Z"⟩, 16) (List.mem_of_getElem? (i := 7) rfl)⟩
set_option maxRecDepth 20000 in
theorem mk_X11_verdict : MKv mt_X11_verdict 2 := ⟨⟨tb_5 _ (List.mem_of_getElem? (i := 25) rfl), ck_X11.1, ck_X11.2.1, ck_X11.2.2, by decide +kernel, by decide⟩, tb_5 _ (List.mem_of_getElem? (i := 23) rfl), tb_5 _ (List.mem_of_getElem? (i := 24) rfl)⟩
set_option maxRecDepth 20000 in
theorem mk_X12_verdict : MKv mt_X12_verdict 2 := ⟨⟨tb_8 _ (List.mem_of_getElem? (i := 197) rfl), ck_X12.1, ck_X12.2.1, ck_X12.2.2, by decide +kernel, by decide⟩, tb_8 _ (List.mem_of_getElem? (i := 195) rfl), tb_8 _ (List.mem_of_getElem? (i := 196) rfl)⟩
set_option maxRecDepth 20000 in
theorem mk_X11_guiltOfStonesWhy : MKv mt_X11_guiltOfStonesWhy 2 := ⟨⟨tb_5 _ (List.mem_of_getElem? (i := 37) rfl), ck_X11.1, ck_X11.2.1, ck_X11.2.2, by decide +kernel, by decide⟩, tb_5 _ (List.mem_of_getElem? (i := 36) rfl), sl_5 (⟨"ParapetCourt", "guiltOfStonesWhy", "(IZ)I"⟩, 20) (List.mem_of_getElem? (i := 8) rfl)⟩
set_option maxRecDepth 20000 in
theorem mk_X9_turnCount : MKv mt_X9_turnCount 2 := ⟨⟨tb_5 _ (List.mem_of_getElem? (i := 45) rfl), ck_X9.1, ck_X9.2.1, ck_X9.2.2, by decide +kernel, by decide⟩, tb_5 _ (List.mem_of_getElem? (i := 44) rfl), sl_5 (⟨"ParapetCourt$Wall", "turnCount", "(II)I"⟩, 16) (List.mem_of_getElem? (i := 10) rfl)⟩
set_option maxRecDepth 20000 in
theorem mk_X9_bestPlace : MKv mt_X9_bestPlace 2 := ⟨⟨tb_5 _ (List.mem_of_getElem? (i := 41) rfl), ck_X9.1, ck_X9.2.1, ck_X9.2.2, by decide +kernel, by decide⟩, tb_5 _ (List.mem_of_getElem? (i := 40) rfl), sl_5 (⟨"ParapetCourt$Wall", "bestPlace", "(II)I"⟩, 16) (List.mem_of_getElem? (i := 9) rfl)⟩
set_option maxRecDepth 20000 in
theorem mk_X11_stand : MKv mt_X11_stand 1 := ⟨⟨tb_5 _ (List.mem_of_getElem? (i := 33) rfl), ck_X11.1, ck_X11.2.1, ck_X11.2.2, by decide +kernel, by decide⟩, tb_5 _ (List.mem_of_getElem? (i := 31) rfl), tb_5 _ (List.mem_of_getElem? (i := 32) rfl)⟩
set_option maxRecDepth 20000 in
theorem mk_X12_placeBy : MKv mt_X12_placeBy 2 := ⟨⟨tb_8 _ (List.mem_of_getElem? (i := 205) rfl), ck_X12.1, ck_X12.2.1, ck_X12.2.2, by decide +kernel, by decide⟩, tb_8 _ (List.mem_of_getElem? (i := 204) rfl), sl_12 (⟨"ParapetCourtModel", "placeBy", "(IZ)I"⟩, 45) (List.mem_of_getElem? (i := 11) rfl)⟩
set_option maxRecDepth 20000 in
theorem mk_X12_stand : MKv mt_X12_stand 1 := ⟨⟨tb_8 _ (List.mem_of_getElem? (i := 201) rfl), ck_X12.1, ck_X12.2.1, ck_X12.2.2, by decide +kernel, by decide⟩, tb_8 _ (List.mem_of_getElem? (i := 199) rfl), tb_8 _ (List.mem_of_getElem? (i := 200) rfl)⟩
set_option maxRecDepth 20000 in
theorem mk_X11_fall : MKv mt_X11_fall 1 := ⟨⟨tb_5 _ (List.mem_of_getElem? (i := 49) rfl), ck_X11.1, ck_X11.2.1, ck_X11.2.2, by decide +kernel, by decide⟩, tb_5 _ (List.mem_of_getElem? (i := 47) rfl), tb_5 _ (List.mem_of_getElem? (i := 48) rfl)⟩
set_option maxRecDepth 20000 in
theorem mk_X12_fall : MKv mt_X12_fall 1 := ⟨⟨tb_8 _ (List.mem_of_getElem? (i := 209) rfl), ck_X12.1, ck_X12.2.1, ck_X12.2.2, by decide +kernel, by decide⟩, tb_8 _ (List.mem_of_getElem? (i := 207) rfl), tb_8 _ (List.mem_of_getElem? (i := 208) rfl)⟩
set_option maxRecDepth 20000 in
theorem mk_X9_leastGuilt : MKv mt_X9_leastGuilt 1 := ⟨⟨tb_5 _ (List.mem_of_getElem? (i := 57) rfl), ck_X9.1, ck_X9.2.1, ck_X9.2.2, by decide +kernel, by decide⟩, tb_5 _ (List.mem_of_getElem? (i := 56) rfl), sl_5 (⟨"ParapetCourt$Wall", "leastGuilt", "(I)I"⟩, 16) (List.mem_of_getElem? (i := 11) rfl)⟩
set_option maxRecDepth 20000 in
theorem mk_X11_least : MKv mt_X11_least 1 := ⟨⟨tb_5 _ (List.mem_of_getElem? (i := 53) rfl), ck_X11.1, ck_X11.2.1, ck_X11.2.2, by decide +kernel, by decide⟩, tb_5 _ (List.mem_of_getElem? (i := 51) rfl), tb_5 _ (List.mem_of_getElem? (i := 52) rfl)⟩
set_option maxRecDepth 20000 in
theorem mk_X12_least : MKv mt_X12_least 1 := ⟨⟨tb_8 _ (List.mem_of_getElem? (i := 213) rfl), ck_X12.1, ck_X12.2.1, ck_X12.2.2, by decide +kernel, by decide⟩, tb_8 _ (List.mem_of_getElem? (i := 211) rfl), tb_8 _ (List.mem_of_getElem? (i := 212) rfl)⟩
set_option maxRecDepth 20000 in
theorem mk_X9_yearsToFree : MKv mt_X9_yearsToFree 2 := ⟨⟨tb_5 _ (List.mem_of_getElem? (i := 66) rfl), ck_X9.1, ck_X9.2.1, ck_X9.2.2, by decide +kernel, by decide⟩, tb_5 _ (List.mem_of_getElem? (i := 65) rfl), sl_5 (⟨"ParapetCourt$Wall", "yearsToFree", "(II)I"⟩, 16) (List.mem_of_getElem? (i := 12) rfl)⟩
set_option maxRecDepth 20000 in
theorem mk_X11_freeIn : MKv mt_X11_freeIn 2 := ⟨⟨tb_5 _ (List.mem_of_getElem? (i := 62) rfl), ck_X11.1, ck_X11.2.1, ck_X11.2.2, by decide +kernel, by decide⟩, tb_5 _ (List.mem_of_getElem? (i := 60) rfl), tb_5 _ (List.mem_of_getElem? (i := 61) rfl)⟩
set_option maxRecDepth 20000 in
theorem mk_X12_freeIn : MKv mt_X12_freeIn 2 := ⟨⟨tb_8 _ (List.mem_of_getElem? (i := 217) rfl), ck_X12.1, ck_X12.2.1, ck_X12.2.2, by decide +kernel, by decide⟩, tb_8 _ (List.mem_of_getElem? (i := 215) rfl), tb_8 _ (List.mem_of_getElem? (i := 216) rfl)⟩
set_option maxRecDepth 20000 in
theorem mk_X11_threesWhy : MKv mt_X11_threesWhy 3 := ⟨⟨tb_5 _ (List.mem_of_getElem? (i := 78) rfl), ck_X11.1, ck_X11.2.1, ck_X11.2.2, by decide +kernel, by decide⟩, tb_5 _ (List.mem_of_getElem? (i := 77) rfl), sl_5 (⟨"ParapetCourt", "threesWhy", "(III)I"⟩, 20) (List.mem_of_getElem? (i := 14) rfl)⟩
set_option maxRecDepth 20000 in
theorem mk_X3_begin : MKv mt_X3_begin 0 := ⟨⟨tb_5 _ (List.mem_of_getElem? (i := 83) rfl), ck_X3.1, ck_X3.2.1, ck_X3.2.2, by decide +kernel, by decide⟩, tb_5 _ (List.mem_of_getElem? (i := 82) rfl), sl_5 (⟨"ParapetCourt$Guess", "begin", "()V"⟩, 4) (List.mem_of_getElem? (i := 15) rfl)⟩
set_option maxRecDepth 20000 in
theorem mk_X3_tell : MKv mt_X3_tell 2 := ⟨⟨tb_5 _ (List.mem_of_getElem? (i := 87) rfl), ck_X3.1, ck_X3.2.1, ck_X3.2.2, by decide +kernel, by decide⟩, tb_5 _ (List.mem_of_getElem? (i := 86) rfl), sl_6 (⟨"ParapetCourt$Guess", "tell", "(IZ)V"⟩, 4) (List.mem_of_getElem? (i := 0) rfl)⟩
set_option maxRecDepth 20000 in
theorem mk_X11_fitsWhy : MKv mt_X11_fitsWhy 3 := ⟨⟨tb_5 _ (List.mem_of_getElem? (i := 74) rfl), ck_X11.1, ck_X11.2.1, ck_X11.2.2, by decide +kernel, by decide⟩, tb_5 _ (List.mem_of_getElem? (i := 73) rfl), sl_5 (⟨"ParapetCourt", "fitsWhy", "(IIZ)I"⟩, 20) (List.mem_of_getElem? (i := 13) rfl)⟩
set_option maxRecDepth 20000 in
theorem mk_X3_count : MKv mt_X3_count 0 := ⟨⟨tb_5 _ (List.mem_of_getElem? (i := 95) rfl), ck_X3.1, ck_X3.2.1, ck_X3.2.2, by decide +kernel, by decide⟩, tb_5 _ (List.mem_of_getElem? (i := 94) rfl), sl_6 (⟨"ParapetCourt$Guess", "count", "()I"⟩, 4) (List.mem_of_getElem? (i := 1) rfl)⟩
set_option maxRecDepth 20000 in
theorem mk_X11_fits : MKv mt_X11_fits 2 := ⟨⟨tb_5 _ (List.mem_of_getElem? (i := 70) rfl), ck_X11.1, ck_X11.2.1, ck_X11.2.2, by decide +kernel, by decide⟩, tb_5 _ (List.mem_of_getElem? (i := 68) rfl), tb_5 _ (List.mem_of_getElem? (i := 69) rfl)⟩
set_option maxRecDepth 20000 in
theorem mk_X12_numberOf : MKv mt_X12_numberOf 2 := ⟨⟨tb_8 _ (List.mem_of_getElem? (i := 230) rfl), ck_X12.1, ck_X12.2.1, ck_X12.2.2, by decide +kernel, by decide⟩, tb_8 _ (List.mem_of_getElem? (i := 229) rfl), sl_12 (⟨"ParapetCourtModel", "numberOf", "(II)J"⟩, 45) (List.mem_of_getElem? (i := 13) rfl)⟩
set_option maxRecDepth 20000 in
theorem mk_X12_whyNoFits : MKv mt_X12_whyNoFits 2 := ⟨⟨tb_8 _ (List.mem_of_getElem? (i := 225) rfl), ck_X12.1, ck_X12.2.1, ck_X12.2.2, by decide +kernel, by decide⟩, tb_8 _ (List.mem_of_getElem? (i := 224) rfl), sl_12 (⟨"ParapetCourtModel", "whyNoFits", "(II)I"⟩, 45) (List.mem_of_getElem? (i := 12) rfl)⟩
set_option maxRecDepth 20000 in
theorem mk_X12_turns : MKv mt_X12_turns 3 := ⟨⟨tb_8 _ (List.mem_of_getElem? (i := 238) rfl), ck_X12.1, ck_X12.2.1, ck_X12.2.2, by decide +kernel, by decide⟩, tb_8 _ (List.mem_of_getElem? (i := 237) rfl), sl_12 (⟨"ParapetCourtModel", "turns", "(III)Z"⟩, 45) (List.mem_of_getElem? (i := 15) rfl)⟩
set_option maxRecDepth 20000 in
theorem mk_X12_laysFits : MKv mt_X12_laysFits 2 := ⟨⟨tb_8 _ (List.mem_of_getElem? (i := 234) rfl), ck_X12.1, ck_X12.2.1, ck_X12.2.2, by decide +kernel, by decide⟩, tb_8 _ (List.mem_of_getElem? (i := 233) rfl), sl_12 (⟨"ParapetCourtModel", "laysFits", "(II)V"⟩, 45) (List.mem_of_getElem? (i := 14) rfl)⟩
set_option maxRecDepth 20000 in
theorem mk_X12_fits : MKv mt_X12_fits 2 := ⟨⟨tb_8 _ (List.mem_of_getElem? (i := 221) rfl), ck_X12.1, ck_X12.2.1, ck_X12.2.2, by decide +kernel, by decide⟩, tb_8 _ (List.mem_of_getElem? (i := 219) rfl), tb_8 _ (List.mem_of_getElem? (i := 220) rfl)⟩
set_option maxRecDepth 20000 in
theorem mk_X11_fitsBy : MKv mt_X11_fitsBy 3 := ⟨⟨tb_5 _ (List.mem_of_getElem? (i := 99) rfl), ck_X11.1, ck_X11.2.1, ck_X11.2.2, by decide +kernel, by decide⟩, tb_5 _ (List.mem_of_getElem? (i := 97) rfl), tb_5 _ (List.mem_of_getElem? (i := 98) rfl)⟩
set_option maxRecDepth 20000 in
theorem mk_X12_fitsBy : MKv mt_X12_fitsBy 3 := ⟨⟨tb_9 _ (List.mem_of_getElem? (i := 2) rfl), ck_X12.1, ck_X12.2.1, ck_X12.2.2, by decide +kernel, by decide⟩, tb_9 _ (List.mem_of_getElem? (i := 0) rfl), tb_9 _ (List.mem_of_getElem? (i := 1) rfl)⟩
set_option maxRecDepth 20000 in
theorem mk_X3_greaterPart : MKv mt_X3_greaterPart 1 := ⟨⟨tb_5 _ (List.mem_of_getElem? (i := 113) rfl), ck_X3.1, ck_X3.2.1, ck_X3.2.2, by decide +kernel, by decide⟩, tb_5 _ (List.mem_of_getElem? (i := 112) rfl), sl_6 (⟨"ParapetCourt$Guess", "greaterPart", "(I)I"⟩, 4) (List.mem_of_getElem? (i := 3) rfl)⟩
set_option maxRecDepth 20000 in
theorem mk_X3_findQuestion : MKv mt_X3_findQuestion 1 := ⟨⟨tb_5 _ (List.mem_of_getElem? (i := 107) rfl), ck_X3.1, ck_X3.2.1, ck_X3.2.2, by decide +kernel, by decide⟩, tb_5 _ (List.mem_of_getElem? (i := 106) rfl), sl_6 (⟨"ParapetCourt$Guess", "findQuestion", "(LParapetCourt$Wall;)V"⟩, 4) (List.mem_of_getElem? (i := 2) rfl)⟩
set_option maxRecDepth 20000 in
theorem mk_X11_ask : MKv mt_X11_ask 3 := ⟨⟨tb_5 _ (List.mem_of_getElem? (i := 103) rfl), ck_X11.1, ck_X11.2.1, ck_X11.2.2, by decide +kernel, by decide⟩, tb_5 _ (List.mem_of_getElem? (i := 101) rfl), tb_5 _ (List.mem_of_getElem? (i := 102) rfl)⟩
set_option maxRecDepth 20000 in
theorem mk_X12_ask : MKv mt_X12_ask 3 := ⟨⟨tb_9 _ (List.mem_of_getElem? (i := 6) rfl), ck_X12.1, ck_X12.2.1, ck_X12.2.2, by decide +kernel, by decide⟩, tb_9 _ (List.mem_of_getElem? (i := 4) rfl), tb_9 _ (List.mem_of_getElem? (i := 5) rfl)⟩
set_option maxRecDepth 20000 in
theorem mk_X0_begin : MKv mt_X0_begin 1 := ⟨⟨tb_5 _ (List.mem_of_getElem? (i := 126) rfl), ck_X0.1, ck_X0.2.1, ck_X0.2.2, by decide +kernel, by decide⟩, tb_5 _ (List.mem_of_getElem? (i := 125) rfl), sl_6 (⟨"ParapetCourt$Cutter", "begin", "(I)V"⟩, 10) (List.mem_of_getElem? (i := 5) rfl)⟩
set_option maxRecDepth 20000 in
theorem mk_X0_tell : MKv mt_X0_tell 3 := ⟨⟨tb_5 _ (List.mem_of_getElem? (i := 131) rfl), ck_X0.1, ck_X0.2.1, ck_X0.2.2, by decide +kernel, by decide⟩, tb_5 _ (List.mem_of_getElem? (i := 130) rfl), sl_6 (⟨"ParapetCourt$Cutter", "tell", "(ZIZ)V"⟩, 10) (List.mem_of_getElem? (i := 6) rfl)⟩
set_option maxRecDepth 20000 in
theorem mk_X0_canPart : MKv mt_X0_canPart 2 := ⟨⟨tb_5 _ (List.mem_of_getElem? (i := 148) rfl), ck_X0.1, ck_X0.2.1, ck_X0.2.2, by decide +kernel, by decide⟩, tb_5 _ (List.mem_of_getElem? (i := 147) rfl), sl_6 (⟨"ParapetCourt$Cutter", "canPart", "(II)Z"⟩, 10) (List.mem_of_getElem? (i := 10) rfl)⟩
set_option maxRecDepth 20000 in
theorem mk_X0_canHold : MKv mt_X0_canHold 4 := ⟨⟨tb_5 _ (List.mem_of_getElem? (i := 143) rfl), ck_X0.1, ck_X0.2.1, ck_X0.2.2, by decide +kernel, by decide⟩, tb_5 _ (List.mem_of_getElem? (i := 142) rfl), sl_6 (⟨"ParapetCourt$Cutter", "canHold", "(IIII)Z"⟩, 10) (List.mem_of_getElem? (i := 9) rfl)⟩
set_option maxRecDepth 20000 in
theorem mk_X0_cutFrom : MKv mt_X0_cutFrom 4 := ⟨⟨tb_5 _ (List.mem_of_getElem? (i := 139) rfl), ck_X0.1, ck_X0.2.1, ck_X0.2.2, by decide +kernel, by decide⟩, tb_5 _ (List.mem_of_getElem? (i := 138) rfl), sl_6 (⟨"ParapetCourt$Cutter", "cutFrom", "(IIII)Z"⟩, 10) (List.mem_of_getElem? (i := 8) rfl)⟩
set_option maxRecDepth 20000 in
theorem mk_X0_findWay : MKv mt_X0_findWay 0 := ⟨⟨tb_5 _ (List.mem_of_getElem? (i := 135) rfl), ck_X0.1, ck_X0.2.1, ck_X0.2.2, by decide +kernel, by decide⟩, tb_5 _ (List.mem_of_getElem? (i := 134) rfl), sl_6 (⟨"ParapetCourt$Cutter", "findWay", "()Z"⟩, 10) (List.mem_of_getElem? (i := 7) rfl)⟩
set_option maxRecDepth 20000 in
theorem mk_X11_cutsWhy : MKv mt_X11_cutsWhy 2 := ⟨⟨tb_5 _ (List.mem_of_getElem? (i := 122) rfl), ck_X11.1, ck_X11.2.1, ck_X11.2.2, by decide +kernel, by decide⟩, tb_5 _ (List.mem_of_getElem? (i := 121) rfl), sl_6 (⟨"ParapetCourt", "cutsWhy", "(II)I"⟩, 20) (List.mem_of_getElem? (i := 4) rfl)⟩
set_option maxRecDepth 20000 in
theorem mk_X11_cuts : MKv mt_X11_cuts 2 := ⟨⟨tb_5 _ (List.mem_of_getElem? (i := 118) rfl), ck_X11.1, ck_X11.2.1, ck_X11.2.2, by decide +kernel, by decide⟩, tb_5 _ (List.mem_of_getElem? (i := 116) rfl), tb_5 _ (List.mem_of_getElem? (i := 117) rfl)⟩
set_option maxRecDepth 20000 in
theorem mk_X12_whyNoCuts : MKv mt_X12_whyNoCuts 2 := ⟨⟨tb_9 _ (List.mem_of_getElem? (i := 14) rfl), ck_X12.1, ck_X12.2.1, ck_X12.2.2, by decide +kernel, by decide⟩, tb_9 _ (List.mem_of_getElem? (i := 13) rfl), sl_13 (⟨"ParapetCourtModel", "whyNoCuts", "(II)I"⟩, 45) (List.mem_of_getElem? (i := 0) rfl)⟩
set_option maxRecDepth 20000 in
theorem mk_X12_holds : MKv mt_X12_holds 3 := ⟨⟨tb_9 _ (List.mem_of_getElem? (i := 27) rfl), ck_X12.1, ck_X12.2.1, ck_X12.2.2, by decide +kernel, by decide⟩, tb_9 _ (List.mem_of_getElem? (i := 26) rfl), sl_13 (⟨"ParapetCourtModel", "holds", "(III)Z"⟩, 45) (List.mem_of_getElem? (i := 3) rfl)⟩
set_option maxRecDepth 20000 in
theorem mk_X12_cutsFrom : MKv mt_X12_cutsFrom 5 := ⟨⟨tb_9 _ (List.mem_of_getElem? (i := 23) rfl), ck_X12.1, ck_X12.2.1, ck_X12.2.2, by decide +kernel, by decide⟩, tb_9 _ (List.mem_of_getElem? (i := 22) rfl), sl_13 (⟨"ParapetCourtModel", "cutsFrom", "(IIIII)Z"⟩, 45) (List.mem_of_getElem? (i := 2) rfl)⟩
set_option maxRecDepth 20000 in
theorem mk_X12_cutting : MKv mt_X12_cutting 2 := ⟨⟨tb_9 _ (List.mem_of_getElem? (i := 19) rfl), ck_X12.1, ck_X12.2.1, ck_X12.2.2, by decide +kernel, by decide⟩, tb_9 _ (List.mem_of_getElem? (i := 18) rfl), sl_13 (⟨"ParapetCourtModel", "cutting", "(II)I"⟩, 45) (List.mem_of_getElem? (i := 1) rfl)⟩
set_option maxRecDepth 20000 in
theorem mk_X12_cuts : MKv mt_X12_cuts 2 := ⟨⟨tb_9 _ (List.mem_of_getElem? (i := 10) rfl), ck_X12.1, ck_X12.2.1, ck_X12.2.2, by decide +kernel, by decide⟩, tb_9 _ (List.mem_of_getElem? (i := 8) rfl), tb_9 _ (List.mem_of_getElem? (i := 9) rfl)⟩
set_option maxRecDepth 20000 in
theorem mk_X0_cutOn : MKv mt_X0_cutOn 1 := ⟨⟨tb_5 _ (List.mem_of_getElem? (i := 156) rfl), ck_X0.1, ck_X0.2.1, ck_X0.2.2, by decide +kernel, by decide⟩, tb_5 _ (List.mem_of_getElem? (i := 155) rfl), sl_6 (⟨"ParapetCourt$Cutter", "cutOn", "(I)I"⟩, 10) (List.mem_of_getElem? (i := 11) rfl)⟩
set_option maxRecDepth 20000 in
theorem mk_X11_cutOf : MKv mt_X11_cutOf 3 := ⟨⟨tb_5 _ (List.mem_of_getElem? (i := 152) rfl), ck_X11.1, ck_X11.2.1, ck_X11.2.2, by decide +kernel, by decide⟩, tb_5 _ (List.mem_of_getElem? (i := 150) rfl), tb_5 _ (List.mem_of_getElem? (i := 151) rfl)⟩
set_option maxRecDepth 20000 in
theorem mk_X12_cutOf : MKv mt_X12_cutOf 3 := ⟨⟨tb_9 _ (List.mem_of_getElem? (i := 31) rfl), ck_X12.1, ck_X12.2.1, ck_X12.2.2, by decide +kernel, by decide⟩, tb_9 _ (List.mem_of_getElem? (i := 29) rfl), tb_9 _ (List.mem_of_getElem? (i := 30) rfl)⟩
set_option maxRecDepth 20000 in
theorem mk_X9_windowsFor : MKv mt_X9_windowsFor 2 := ⟨⟨tb_5 _ (List.mem_of_getElem? (i := 168) rfl), ck_X9.1, ck_X9.2.1, ck_X9.2.2, by decide +kernel, by decide⟩, tb_5 _ (List.mem_of_getElem? (i := 167) rfl), sl_6 (⟨"ParapetCourt$Wall", "windowsFor", "(II)I"⟩, 16) (List.mem_of_getElem? (i := 13) rfl)⟩
set_option maxRecDepth 20000 in
theorem mk_X11_windowsWhy : MKv mt_X11_windowsWhy 2 := ⟨⟨tb_5 _ (List.mem_of_getElem? (i := 164) rfl), ck_X11.1, ck_X11.2.1, ck_X11.2.2, by decide +kernel, by decide⟩, tb_5 _ (List.mem_of_getElem? (i := 163) rfl), sl_6 (⟨"ParapetCourt", "windowsWhy", "(II)I"⟩, 20) (List.mem_of_getElem? (i := 12) rfl)⟩
set_option maxRecDepth 20000 in
theorem mk_X11_windows : MKv mt_X11_windows 2 := ⟨⟨tb_5 _ (List.mem_of_getElem? (i := 160) rfl), ck_X11.1, ck_X11.2.1, ck_X11.2.2, by decide +kernel, by decide⟩, tb_5 _ (List.mem_of_getElem? (i := 158) rfl), tb_5 _ (List.mem_of_getElem? (i := 159) rfl)⟩
set_option maxRecDepth 20000 in
theorem mk_X12_whyNoWindows : MKv mt_X12_whyNoWindows 2 := ⟨⟨tb_9 _ (List.mem_of_getElem? (i := 39) rfl), ck_X12.1, ck_X12.2.1, ck_X12.2.2, by decide +kernel, by decide⟩, tb_9 _ (List.mem_of_getElem? (i := 38) rfl), sl_13 (⟨"ParapetCourtModel", "whyNoWindows", "(II)I"⟩, 45) (List.mem_of_getElem? (i := 4) rfl)⟩
set_option maxRecDepth 20000 in
theorem mk_X12_windowsFor : MKv mt_X12_windowsFor 2 := ⟨⟨tb_9 _ (List.mem_of_getElem? (i := 43) rfl), ck_X12.1, ck_X12.2.1, ck_X12.2.2, by decide +kernel, by decide⟩, tb_9 _ (List.mem_of_getElem? (i := 42) rfl), sl_13 (⟨"ParapetCourtModel", "windowsFor", "(II)I"⟩, 45) (List.mem_of_getElem? (i := 5) rfl)⟩
set_option maxRecDepth 20000 in
theorem mk_X12_windows : MKv mt_X12_windows 2 := ⟨⟨tb_9 _ (List.mem_of_getElem? (i := 35) rfl), ck_X12.1, ck_X12.2.1, ck_X12.2.2, by decide +kernel, by decide⟩, tb_9 _ (List.mem_of_getElem? (i := 33) rfl), tb_9 _ (List.mem_of_getElem? (i := 34) rfl)⟩
set_option maxRecDepth 20000 in
theorem mk_X11_windowSet : MKv mt_X11_windowSet 2 := ⟨⟨tb_5 _ (List.mem_of_getElem? (i := 174) rfl), ck_X11.1, ck_X11.2.1, ck_X11.2.2, by decide +kernel, by decide⟩, tb_5 _ (List.mem_of_getElem? (i := 172) rfl), tb_5 _ (List.mem_of_getElem? (i := 173) rfl)⟩
set_option maxRecDepth 20000 in
theorem mk_X12_windowSet : MKv mt_X12_windowSet 2 := ⟨⟨tb_9 _ (List.mem_of_getElem? (i := 47) rfl), ck_X12.1, ck_X12.2.1, ck_X12.2.2, by decide +kernel, by decide⟩, tb_9 _ (List.mem_of_getElem? (i := 45) rfl), tb_9 _ (List.mem_of_getElem? (i := 46) rfl)⟩
set_option maxRecDepth 20000 in
theorem mk_X9_around : MKv mt_X9_around 2 := ⟨⟨tb_5 _ (List.mem_of_getElem? (i := 197) rfl), ck_X9.1, ck_X9.2.1, ck_X9.2.2, by decide +kernel, by decide⟩, tb_5 _ (List.mem_of_getElem? (i := 196) rfl), sl_7 (⟨"ParapetCourt$Wall", "around", "(II)I"⟩, 16) (List.mem_of_getElem? (i := 1) rfl)⟩
set_option maxRecDepth 20000 in
theorem mk_X9_isRowOfStones : MKv mt_X9_isRowOfStones 2 := ⟨⟨tb_5 _ (List.mem_of_getElem? (i := 193) rfl), ck_X9.1, ck_X9.2.1, ck_X9.2.2, by decide +kernel, by decide⟩, tb_5 _ (List.mem_of_getElem? (i := 192) rfl), sl_7 (⟨"ParapetCourt$Wall", "isRowOfStones", "(II)Z"⟩, 16) (List.mem_of_getElem? (i := 0) rfl)⟩
set_option maxRecDepth 20000 in
theorem mk_X9_walkTo : MKv mt_X9_walkTo 2 := ⟨⟨tb_5 _ (List.mem_of_getElem? (i := 186) rfl), ck_X9.1, ck_X9.2.1, ck_X9.2.2, by decide +kernel, by decide⟩, tb_5 _ (List.mem_of_getElem? (i := 185) rfl), sl_6 (⟨"ParapetCourt$Wall", "walkTo", "(II)I"⟩, 16) (List.mem_of_getElem? (i := 15) rfl)⟩
set_option maxRecDepth 20000 in
theorem mk_X11_walkWhy : MKv mt_X11_walkWhy 3 := ⟨⟨tb_5 _ (List.mem_of_getElem? (i := 182) rfl), ck_X11.1, ck_X11.2.1, ck_X11.2.2, by decide +kernel, by decide⟩, tb_5 _ (List.mem_of_getElem? (i := 181) rfl), sl_6 (⟨"ParapetCourt", "walkWhy", "(III)I"⟩, 20) (List.mem_of_getElem? (i := 14) rfl)⟩
set_option maxRecDepth 20000 in
theorem mk_X11_walk : MKv mt_X11_walk 2 := ⟨⟨tb_5 _ (List.mem_of_getElem? (i := 178) rfl), ck_X11.1, ck_X11.2.1, ck_X11.2.2, by decide +kernel, by decide⟩, tb_5 _ (List.mem_of_getElem? (i := 176) rfl), tb_5 _ (List.mem_of_getElem? (i := 177) rfl)⟩
set_option maxRecDepth 20000 in
theorem mk_X12_stepsTo : MKv mt_X12_stepsTo 3 := ⟨⟨tb_9 _ (List.mem_of_getElem? (i := 59) rfl), ck_X12.1, ck_X12.2.1, ck_X12.2.2, by decide +kernel, by decide⟩, tb_9 _ (List.mem_of_getElem? (i := 58) rfl), sl_13 (⟨"ParapetCourtModel", "stepsTo", "(III)I"⟩, 45) (List.mem_of_getElem? (i := 7) rfl)⟩
set_option maxRecDepth 20000 in
theorem mk_X12_walkOf : MKv mt_X12_walkOf 2 := ⟨⟨tb_9 _ (List.mem_of_getElem? (i := 55) rfl), ck_X12.1, ck_X12.2.1, ck_X12.2.2, by decide +kernel, by decide⟩, tb_9 _ (List.mem_of_getElem? (i := 54) rfl), sl_13 (⟨"ParapetCourtModel", "walkOf", "(II)I"⟩, 45) (List.mem_of_getElem? (i := 6) rfl)⟩
set_option maxRecDepth 20000 in
theorem mk_X12_walk : MKv mt_X12_walk 2 := ⟨⟨tb_9 _ (List.mem_of_getElem? (i := 51) rfl), ck_X12.1, ck_X12.2.1, ck_X12.2.2, by decide +kernel, by decide⟩, tb_9 _ (List.mem_of_getElem? (i := 49) rfl), tb_9 _ (List.mem_of_getElem? (i := 50) rfl)⟩
set_option maxRecDepth 20000 in
theorem mk_X11_walkAt : MKv mt_X11_walkAt 3 := ⟨⟨tb_5 _ (List.mem_of_getElem? (i := 201) rfl), ck_X11.1, ck_X11.2.1, ck_X11.2.2, by decide +kernel, by decide⟩, tb_5 _ (List.mem_of_getElem? (i := 199) rfl), tb_5 _ (List.mem_of_getElem? (i := 200) rfl)⟩
set_option maxRecDepth 20000 in
theorem mk_X12_walkAt : MKv mt_X12_walkAt 3 := ⟨⟨tb_9 _ (List.mem_of_getElem? (i := 63) rfl), ck_X12.1, ck_X12.2.1, ck_X12.2.2, by decide +kernel, by decide⟩, tb_9 _ (List.mem_of_getElem? (i := 61) rfl), tb_9 _ (List.mem_of_getElem? (i := 62) rfl)⟩
set_option maxRecDepth 20000 in
theorem mk_X9_longestRow : MKv mt_X9_longestRow 0 := ⟨⟨tb_5 _ (List.mem_of_getElem? (i := 210) rfl), ck_X9.1, ck_X9.2.1, ck_X9.2.2, by decide +kernel, by decide⟩, tb_5 _ (List.mem_of_getElem? (i := 209) rfl), sl_7 (⟨"ParapetCourt$Wall", "longestRow", "()I"⟩, 16) (List.mem_of_getElem? (i := 2) rfl)⟩
set_option maxRecDepth 20000 in
theorem mk_X11_longest : MKv mt_X11_longest 0 := ⟨⟨tb_5 _ (List.mem_of_getElem? (i := 206) rfl), ck_X11.1, ck_X11.2.1, ck_X11.2.2, by decide +kernel, by decide⟩, tb_5 _ (List.mem_of_getElem? (i := 204) rfl), tb_5 _ (List.mem_of_getElem? (i := 205) rfl)⟩
set_option maxRecDepth 20000 in
theorem mk_X12_longest : MKv mt_X12_longest 0 := ⟨⟨tb_9 _ (List.mem_of_getElem? (i := 67) rfl), ck_X12.1, ck_X12.2.1, ck_X12.2.2, by decide +kernel, by decide⟩, tb_9 _ (List.mem_of_getElem? (i := 65) rfl), tb_9 _ (List.mem_of_getElem? (i := 66) rfl)⟩
set_option maxRecDepth 20000 in
theorem mk_X11_gameWhy : MKv mt_X11_gameWhy 4 := ⟨⟨tb_5 _ (List.mem_of_getElem? (i := 219) rfl), ck_X11.1, ck_X11.2.1, ck_X11.2.2, by decide +kernel, by decide⟩, tb_5 _ (List.mem_of_getElem? (i := 218) rfl), sl_7 (⟨"ParapetCourt", "gameWhy", "(IIII)I"⟩, 20) (List.mem_of_getElem? (i := 3) rfl)⟩
set_option maxRecDepth 20000 in
theorem mk_X1_excess : MKv mt_X1_excess 1 := ⟨⟨tb_5 _ (List.mem_of_getElem? (i := 232) rfl), ck_X1.1, ck_X1.2.1, ck_X1.2.2, by decide +kernel, by decide⟩, tb_5 _ (List.mem_of_getElem? (i := 231) rfl), sl_7 (⟨"ParapetCourt$Debate", "excess", "(I)I"⟩, 5) (List.mem_of_getElem? (i := 6) rfl)⟩
set_option maxRecDepth 20000 in
theorem mk_X1_canSway : MKv mt_X1_canSway 1 := ⟨⟨tb_5 _ (List.mem_of_getElem? (i := 227) rfl), ck_X1.1, ck_X1.2.1, ck_X1.2.2, by decide +kernel, by decide⟩, tb_5 _ (List.mem_of_getElem? (i := 226) rfl), sl_7 (⟨"ParapetCourt$Debate", "canSway", "(I)Z"⟩, 5) (List.mem_of_getElem? (i := 5) rfl)⟩
set_option maxRecDepth 20000 in
theorem mk_X1_canKeep : MKv mt_X1_canKeep 1 := ⟨⟨tb_5 _ (List.mem_of_getElem? (i := 237) rfl), ck_X1.1, ck_X1.2.1, ck_X1.2.2, by decide +kernel, by decide⟩, tb_5 _ (List.mem_of_getElem? (i := 236) rfl), sl_7 (⟨"ParapetCourt$Debate", "canKeep", "(I)Z"⟩, 5) (List.mem_of_getElem? (i := 7) rfl)⟩
set_option maxRecDepth 20000 in
theorem mk_X1_begin : MKv mt_X1_begin 2 := ⟨⟨tb_5 _ (List.mem_of_getElem? (i := 223) rfl), ck_X1.1, ck_X1.2.1, ck_X1.2.2, by decide +kernel, by decide⟩, tb_5 _ (List.mem_of_getElem? (i := 222) rfl), sl_7 (⟨"ParapetCourt$Debate", "begin", "(II)V"⟩, 5) (List.mem_of_getElem? (i := 4) rfl)⟩
set_option maxRecDepth 20000 in
theorem mk_X1_gain : MKs mt_X1_gain 4 := ⟨⟨tb_6 _ (List.mem_of_getElem? (i := 5) rfl), ck_X1.1, ck_X1.2.1, ck_X1.2.2, by decide +kernel, by decide⟩, tb_6 _ (List.mem_of_getElem? (i := 4) rfl)⟩
set_option maxRecDepth 20000 in
theorem mk_X1_outcome : MKv mt_X1_outcome 1 := ⟨⟨tb_6 _ (List.mem_of_getElem? (i := 1) rfl), ck_X1.1, ck_X1.2.1, ck_X1.2.2, by decide +kernel, by decide⟩, tb_6 _ (List.mem_of_getElem? (i := 0) rfl), sl_7 (⟨"ParapetCourt$Debate", "outcome", "(I)I"⟩, 5) (List.mem_of_getElem? (i := 8) rfl)⟩
set_option maxRecDepth 20000 in
theorem mk_X11_game : MKv mt_X11_game 3 := ⟨⟨tb_5 _ (List.mem_of_getElem? (i := 215) rfl), ck_X11.1, ck_X11.2.1, ck_X11.2.2, by decide +kernel, by decide⟩, tb_5 _ (List.mem_of_getElem? (i := 213) rfl), tb_5 _ (List.mem_of_getElem? (i := 214) rfl)⟩
set_option maxRecDepth 20000 in
theorem mk_X12_whyNoGame : MKv mt_X12_whyNoGame 4 := ⟨⟨tb_9 _ (List.mem_of_getElem? (i := 75) rfl), ck_X12.1, ck_X12.2.1, ck_X12.2.2, by decide +kernel, by decide⟩, tb_9 _ (List.mem_of_getElem? (i := 74) rfl), sl_13 (⟨"ParapetCourtModel", "whyNoGame", "(IIII)I"⟩, 45) (List.mem_of_getElem? (i := 8) rfl)⟩
set_option maxRecDepth 20000 in
theorem mk_X12_scoreOf : MKv mt_X12_scoreOf 4 := ⟨⟨tb_9 _ (List.mem_of_getElem? (i := 83) rfl), ck_X12.1, ck_X12.2.1, ck_X12.2.2, by decide +kernel, by decide⟩, tb_9 _ (List.mem_of_getElem? (i := 82) rfl), sl_13 (⟨"ParapetCourtModel", "scoreOf", "(IIII)I"⟩, 45) (List.mem_of_getElem? (i := 10) rfl)⟩
set_option maxRecDepth 20000 in
theorem mk_X12_plays : MKv mt_X12_plays 6 := ⟨⟨tb_9 _ (List.mem_of_getElem? (i := 79) rfl), ck_X12.1, ck_X12.2.1, ck_X12.2.2, by decide +kernel, by decide⟩, tb_9 _ (List.mem_of_getElem? (i := 78) rfl), sl_13 (⟨"ParapetCourtModel", "plays", "(IIIIII)I"⟩, 45) (List.mem_of_getElem? (i := 9) rfl)⟩
set_option maxRecDepth 20000 in
theorem mk_X12_game : MKv mt_X12_game 3 := ⟨⟨tb_9 _ (List.mem_of_getElem? (i := 71) rfl), ck_X12.1, ck_X12.2.1, ck_X12.2.2, by decide +kernel, by decide⟩, tb_9 _ (List.mem_of_getElem? (i := 69) rfl), tb_9 _ (List.mem_of_getElem? (i := 70) rfl)⟩
set_option maxRecDepth 20000 in
theorem mk_X1_gainBy : MKv mt_X1_gainBy 2 := ⟨⟨tb_6 _ (List.mem_of_getElem? (i := 19) rfl), ck_X1.1, ck_X1.2.1, ck_X1.2.2, by decide +kernel, by decide⟩, tb_6 _ (List.mem_of_getElem? (i := 18) rfl), sl_7 (⟨"ParapetCourt$Debate", "gainBy", "(II)I"⟩, 5) (List.mem_of_getElem? (i := 10) rfl)⟩
set_option maxRecDepth 20000 in
theorem mk_X1_firstMove : MKv mt_X1_firstMove 1 := ⟨⟨tb_6 _ (List.mem_of_getElem? (i := 15) rfl), ck_X1.1, ck_X1.2.1, ck_X1.2.2, by decide +kernel, by decide⟩, tb_6 _ (List.mem_of_getElem? (i := 14) rfl), sl_7 (⟨"ParapetCourt$Debate", "firstMove", "(I)I"⟩, 5) (List.mem_of_getElem? (i := 9) rfl)⟩
set_option maxRecDepth 20000 in
theorem mk_X11_moveOf : MKv mt_X11_moveOf 3 := ⟨⟨tb_6 _ (List.mem_of_getElem? (i := 11) rfl), ck_X11.1, ck_X11.2.1, ck_X11.2.2, by decide +kernel, by decide⟩, tb_6 _ (List.mem_of_getElem? (i := 9) rfl), tb_6 _ (List.mem_of_getElem? (i := 10) rfl)⟩
set_option maxRecDepth 20000 in
theorem mk_X12_moveOf : MKv mt_X12_moveOf 3 := ⟨⟨tb_9 _ (List.mem_of_getElem? (i := 87) rfl), ck_X12.1, ck_X12.2.1, ck_X12.2.2, by decide +kernel, by decide⟩, tb_9 _ (List.mem_of_getElem? (i := 85) rfl), tb_9 _ (List.mem_of_getElem? (i := 86) rfl)⟩
set_option maxRecDepth 20000 in
theorem mk_X2_commonDivisor : MKs mt_X2_commonDivisor 2 := ⟨⟨tb_6 _ (List.mem_of_getElem? (i := 31) rfl), ck_X2.1, ck_X2.2.1, ck_X2.2.2, by decide +kernel, by decide⟩, tb_6 _ (List.mem_of_getElem? (i := 30) rfl)⟩
set_option maxRecDepth 20000 in
theorem mk_X2_tell : MKv mt_X2_tell 2 := ⟨⟨tb_6 _ (List.mem_of_getElem? (i := 28) rfl), ck_X2.1, ck_X2.2.1, ck_X2.2.2, by decide +kernel, by decide⟩, tb_6 _ (List.mem_of_getElem? (i := 27) rfl), sl_7 (⟨"ParapetCourt$Fraction", "tell", "(JJ)V"⟩, 2) (List.mem_of_getElem? (i := 11) rfl)⟩
set_option maxRecDepth 20000 in
theorem mk_X11_lot : MKv mt_X11_lot 2 := ⟨⟨tb_6 _ (List.mem_of_getElem? (i := 23) rfl), ck_X11.1, ck_X11.2.1, ck_X11.2.2, by decide +kernel, by decide⟩, tb_6 _ (List.mem_of_getElem? (i := 21) rfl), tb_6 _ (List.mem_of_getElem? (i := 22) rfl)⟩
set_option maxRecDepth 20000 in
theorem mk_X12_fraction : MKv mt_X12_fraction 2 := ⟨⟨tb_9 _ (List.mem_of_getElem? (i := 95) rfl), ck_X12.1, ck_X12.2.1, ck_X12.2.2, by decide +kernel, by decide⟩, tb_9 _ (List.mem_of_getElem? (i := 94) rfl), sl_13 (⟨"ParapetCourtModel", "fraction", "(JJ)Z"⟩, 45) (List.mem_of_getElem? (i := 11) rfl)⟩
set_option maxRecDepth 20000 in
theorem mk_X12_lot : MKv mt_X12_lot 2 := ⟨⟨tb_9 _ (List.mem_of_getElem? (i := 91) rfl), ck_X12.1, ck_X12.2.1, ck_X12.2.2, by decide +kernel, by decide⟩, tb_9 _ (List.mem_of_getElem? (i := 89) rfl), tb_9 _ (List.mem_of_getElem? (i := 90) rfl)⟩
set_option maxRecDepth 20000 in
theorem mk_X2_power : MKs mt_X2_power 2 := ⟨⟨tb_6 _ (List.mem_of_getElem? (i := 42) rfl), ck_X2.1, ck_X2.2.1, ck_X2.2.2, by decide +kernel, by decide⟩, tb_6 _ (List.mem_of_getElem? (i := 41) rfl)⟩
set_option maxRecDepth 20000 in
theorem mk_X2_tellAtLeast : MKv mt_X2_tellAtLeast 3 := ⟨⟨tb_6 _ (List.mem_of_getElem? (i := 39) rfl), ck_X2.1, ck_X2.2.1, ck_X2.2.2, by decide +kernel, by decide⟩, tb_6 _ (List.mem_of_getElem? (i := 38) rfl), sl_7 (⟨"ParapetCourt$Fraction", "tellAtLeast", "(III)V"⟩, 2) (List.mem_of_getElem? (i := 12) rfl)⟩
set_option maxRecDepth 20000 in
theorem mk_X11_couples : MKv mt_X11_couples 1 := ⟨⟨tb_6 _ (List.mem_of_getElem? (i := 35) rfl), ck_X11.1, ck_X11.2.1, ck_X11.2.2, by decide +kernel, by decide⟩, tb_6 _ (List.mem_of_getElem? (i := 33) rfl), tb_6 _ (List.mem_of_getElem? (i := 34) rfl)⟩
set_option maxRecDepth 20000 in
theorem mk_X12_couples : MKv mt_X12_couples 1 := ⟨⟨tb_9 _ (List.mem_of_getElem? (i := 102) rfl), ck_X12.1, ck_X12.2.1, ck_X12.2.2, by decide +kernel, by decide⟩, tb_9 _ (List.mem_of_getElem? (i := 100) rfl), tb_9 _ (List.mem_of_getElem? (i := 101) rfl)⟩
set_option maxRecDepth 20000 in
theorem mk_X11_seedsWhy : MKv mt_X11_seedsWhy 2 := ⟨⟨tb_6 _ (List.mem_of_getElem? (i := 52) rfl), ck_X11.1, ck_X11.2.1, ck_X11.2.2, by decide +kernel, by decide⟩, tb_6 _ (List.mem_of_getElem? (i := 51) rfl), sl_7 (⟨"ParapetCourt", "seedsWhy", "(II)I"⟩, 20) (List.mem_of_getElem? (i := 13) rfl)⟩
set_option maxRecDepth 20000 in
theorem mk_X4_draw : MKv mt_X4_draw 1 := ⟨⟨tb_6 _ (List.mem_of_getElem? (i := 71) rfl), ck_X4.1, ck_X4.2.1, ck_X4.2.2, by decide +kernel, by decide⟩, tb_6 _ (List.mem_of_getElem? (i := 70) rfl), sl_8 (⟨"ParapetCourt$Life", "draw", "(I)I"⟩, 10) (List.mem_of_getElem? (i := 1) rfl)⟩
set_option maxRecDepth 20000 in
theorem mk_X4_triesAny : MKv mt_X4_triesAny 0 := ⟨⟨tb_6 _ (List.mem_of_getElem? (i := 67) rfl), ck_X4.1, ck_X4.2.1, ck_X4.2.2, by decide +kernel, by decide⟩, tb_6 _ (List.mem_of_getElem? (i := 66) rfl), sl_8 (⟨"ParapetCourt$Life", "triesAny", "()Z"⟩, 10) (List.mem_of_getElem? (i := 0) rfl)⟩
set_option maxRecDepth 20000 in
theorem mk_X4_reshapes : MKv mt_X4_reshapes 2 := ⟨⟨tb_6 _ (List.mem_of_getElem? (i := 76) rfl), ck_X4.1, ck_X4.2.1, ck_X4.2.2, by decide +kernel, by decide⟩, tb_6 _ (List.mem_of_getElem? (i := 75) rfl), sl_8 (⟨"ParapetCourt$Life", "reshapes", "(II)Z"⟩, 10) (List.mem_of_getElem? (i := 2) rfl)⟩
set_option maxRecDepth 20000 in
theorem mk_X4_clears : MKv mt_X4_clears 1 := ⟨⟨tb_6 _ (List.mem_of_getElem? (i := 81) rfl), ck_X4.1, ck_X4.2.1, ck_X4.2.2, by decide +kernel, by decide⟩, tb_6 _ (List.mem_of_getElem? (i := 80) rfl), sl_8 (⟨"ParapetCourt$Life", "clears", "(I)Z"⟩, 10) (List.mem_of_getElem? (i := 3) rfl)⟩
set_option maxRecDepth 20000 in
theorem mk_X4_flies : MKv mt_X4_flies 2 := ⟨⟨tb_6 _ (List.mem_of_getElem? (i := 85) rfl), ck_X4.1, ck_X4.2.1, ck_X4.2.2, by decide +kernel, by decide⟩, tb_6 _ (List.mem_of_getElem? (i := 84) rfl), sl_8 (⟨"ParapetCourt$Life", "flies", "(II)Z"⟩, 10) (List.mem_of_getElem? (i := 4) rfl)⟩
set_option maxRecDepth 20000 in
theorem mk_X4_isDone : MKv mt_X4_isDone 1 := ⟨⟨tb_6 _ (List.mem_of_getElem? (i := 61) rfl), ck_X4.1, ck_X4.2.1, ck_X4.2.2, by decide +kernel, by decide⟩, tb_6 _ (List.mem_of_getElem? (i := 60) rfl), sl_7 (⟨"ParapetCourt$Life", "isDone", "(I)Z"⟩, 10) (List.mem_of_getElem? (i := 15) rfl)⟩
set_option maxRecDepth 20000 in
theorem mk_X4_isEmptyBlock : MKv mt_X4_isEmptyBlock 1 := ⟨⟨tb_6 _ (List.mem_of_getElem? (i := 95) rfl), ck_X4.1, ck_X4.2.1, ck_X4.2.2, by decide +kernel, by decide⟩, tb_6 _ (List.mem_of_getElem? (i := 94) rfl), sl_8 (⟨"ParapetCourt$Life", "isEmptyBlock", "(I)Z"⟩, 10) (List.mem_of_getElem? (i := 6) rfl)⟩
set_option maxRecDepth 20000 in
theorem mk_X4_compares : MKs mt_X4_compares 3 := ⟨⟨tb_6 _ (List.mem_of_getElem? (i := 104) rfl), ck_X4.1, ck_X4.2.1, ck_X4.2.2, by decide +kernel, by decide⟩, tb_6 _ (List.mem_of_getElem? (i := 103) rfl)⟩
set_option maxRecDepth 20000 in
theorem mk_X4_holds : MKv mt_X4_holds 1 := ⟨⟨tb_6 _ (List.mem_of_getElem? (i := 99) rfl), ck_X4.1, ck_X4.2.1, ck_X4.2.2, by decide +kernel, by decide⟩, tb_6 _ (List.mem_of_getElem? (i := 98) rfl), sl_8 (⟨"ParapetCourt$Life", "holds", "(I)Z"⟩, 10) (List.mem_of_getElem? (i := 7) rfl)⟩
set_option maxRecDepth 20000 in
theorem mk_X4_goesRound : MKv mt_X4_goesRound 1 := ⟨⟨tb_6 _ (List.mem_of_getElem? (i := 108) rfl), ck_X4.1, ck_X4.2.1, ck_X4.2.2, by decide +kernel, by decide⟩, tb_6 _ (List.mem_of_getElem? (i := 107) rfl), sl_8 (⟨"ParapetCourt$Life", "goesRound", "(I)Z"⟩, 10) (List.mem_of_getElem? (i := 8) rfl)⟩
set_option maxRecDepth 20000 in
theorem mk_X4_whereNext : MKv mt_X4_whereNext 1 := ⟨⟨tb_6 _ (List.mem_of_getElem? (i := 91) rfl), ck_X4.1, ck_X4.2.1, ck_X4.2.2, by decide +kernel, by decide⟩, tb_6 _ (List.mem_of_getElem? (i := 90) rfl), sl_8 (⟨"ParapetCourt$Life", "whereNext", "(I)I"⟩, 10) (List.mem_of_getElem? (i := 5) rfl)⟩
set_option maxRecDepth 20000 in
theorem mk_X4_run : MKv mt_X4_run 1 := ⟨⟨tb_6 _ (List.mem_of_getElem? (i := 56) rfl), ck_X4.1, ck_X4.2.1, ck_X4.2.2, by decide +kernel, by decide⟩, tb_6 _ (List.mem_of_getElem? (i := 55) rfl), sl_7 (⟨"ParapetCourt$Life", "run", "(I)V"⟩, 10) (List.mem_of_getElem? (i := 14) rfl)⟩
set_option maxRecDepth 20000 in
theorem mk_X11_live : MKv mt_X11_live 1 := ⟨⟨tb_6 _ (List.mem_of_getElem? (i := 48) rfl), ck_X11.1, ck_X11.2.1, ck_X11.2.2, by decide +kernel, by decide⟩, tb_6 _ (List.mem_of_getElem? (i := 46) rfl), tb_6 _ (List.mem_of_getElem? (i := 47) rfl)⟩
set_option maxRecDepth 20000 in
theorem mk_X12_anyYears : MKv mt_X12_anyYears 1 := ⟨⟨tb_9 _ (List.mem_of_getElem? (i := 128) rfl), ck_X12.1, ck_X12.2.1, ck_X12.2.2, by decide +kernel, by decide⟩, tb_9 _ (List.mem_of_getElem? (i := 127) rfl), sl_14 (⟨"ParapetCourtModel", "anyYears", "(I)Z"⟩, 45) (List.mem_of_getElem? (i := 0) rfl)⟩
set_option maxRecDepth 20000 in
theorem mk_X12_isCut : MKv mt_X12_isCut 2 := ⟨⟨tb_9 _ (List.mem_of_getElem? (i := 132) rfl), ck_X12.1, ck_X12.2.1, ck_X12.2.2, by decide +kernel, by decide⟩, tb_9 _ (List.mem_of_getElem? (i := 131) rfl), sl_14 (⟨"ParapetCourtModel", "isCut", "(II)Z"⟩, 45) (List.mem_of_getElem? (i := 1) rfl)⟩
set_option maxRecDepth 20000 in
theorem mk_X12_draw : MKv mt_X12_draw 1 := ⟨⟨tb_9 _ (List.mem_of_getElem? (i := 140) rfl), ck_X12.1, ck_X12.2.1, ck_X12.2.2, by decide +kernel, by decide⟩, tb_9 _ (List.mem_of_getElem? (i := 139) rfl), sl_14 (⟨"ParapetCourtModel", "draw", "(I)I"⟩, 45) (List.mem_of_getElem? (i := 3) rfl)⟩
set_option maxRecDepth 20000 in
theorem mk_X12_isAny : MKv mt_X12_isAny 0 := ⟨⟨tb_9 _ (List.mem_of_getElem? (i := 136) rfl), ck_X12.1, ck_X12.2.1, ck_X12.2.2, by decide +kernel, by decide⟩, tb_9 _ (List.mem_of_getElem? (i := 135) rfl), sl_14 (⟨"ParapetCourtModel", "isAny", "()Z"⟩, 45) (List.mem_of_getElem? (i := 2) rfl)⟩
set_option maxRecDepth 20000 in
theorem mk_X12_does : MKv mt_X12_does 1 := ⟨⟨tb_9 _ (List.mem_of_getElem? (i := 124) rfl), ck_X12.1, ck_X12.2.1, ck_X12.2.2, by decide +kernel, by decide⟩, tb_9 _ (List.mem_of_getElem? (i := 123) rfl), sl_13 (⟨"ParapetCourtModel", "does", "(I)Z"⟩, 45) (List.mem_of_getElem? (i := 15) rfl)⟩
set_option maxRecDepth 20000 in
theorem mk_X12_isSo : MKv mt_X12_isSo 1 := ⟨⟨tb_9 _ (List.mem_of_getElem? (i := 145) rfl), ck_X12.1, ck_X12.2.1, ck_X12.2.2, by decide +kernel, by decide⟩, tb_9 _ (List.mem_of_getElem? (i := 144) rfl), sl_14 (⟨"ParapetCourtModel", "isSo", "(I)Z"⟩, 45) (List.mem_of_getElem? (i := 4) rfl)⟩
set_option maxRecDepth 20000 in
theorem mk_X12_doOne : MKv mt_X12_doOne 1 := ⟨⟨tb_9 _ (List.mem_of_getElem? (i := 120) rfl), ck_X12.1, ck_X12.2.1, ck_X12.2.2, by decide +kernel, by decide⟩, tb_9 _ (List.mem_of_getElem? (i := 119) rfl), sl_13 (⟨"ParapetCourtModel", "doOne", "(I)V"⟩, 45) (List.mem_of_getElem? (i := 14) rfl)⟩
set_option maxRecDepth 20000 in
theorem mk_X12_doAll : MKv mt_X12_doAll 2 := ⟨⟨tb_9 _ (List.mem_of_getElem? (i := 116) rfl), ck_X12.1, ck_X12.2.1, ck_X12.2.2, by decide +kernel, by decide⟩, tb_9 _ (List.mem_of_getElem? (i := 115) rfl), sl_13 (⟨"ParapetCourtModel", "doAll", "(II)V"⟩, 45) (List.mem_of_getElem? (i := 13) rfl)⟩
set_option maxRecDepth 20000 in
theorem mk_X12_runsTerms : MKv mt_X12_runsTerms 1 := ⟨⟨tb_9 _ (List.mem_of_getElem? (i := 112) rfl), ck_X12.1, ck_X12.2.1, ck_X12.2.2, by decide +kernel, by decide⟩, tb_9 _ (List.mem_of_getElem? (i := 111) rfl), sl_13 (⟨"ParapetCourtModel", "runsTerms", "(I)V"⟩, 45) (List.mem_of_getElem? (i := 12) rfl)⟩
set_option maxRecDepth 20000 in
theorem mk_X12_live : MKv mt_X12_live 1 := ⟨⟨tb_9 _ (List.mem_of_getElem? (i := 107) rfl), ck_X12.1, ck_X12.2.1, ck_X12.2.2, by decide +kernel, by decide⟩, tb_9 _ (List.mem_of_getElem? (i := 105) rfl), tb_9 _ (List.mem_of_getElem? (i := 106) rfl)⟩
set_option maxRecDepth 20000 in
theorem mk_X11_lived : MKv mt_X11_lived 1 := ⟨⟨tb_6 _ (List.mem_of_getElem? (i := 112) rfl), ck_X11.1, ck_X11.2.1, ck_X11.2.2, by decide +kernel, by decide⟩, tb_6 _ (List.mem_of_getElem? (i := 110) rfl), tb_6 _ (List.mem_of_getElem? (i := 111) rfl)⟩
set_option maxRecDepth 20000 in
theorem mk_X12_lived : MKv mt_X12_lived 1 := ⟨⟨tb_9 _ (List.mem_of_getElem? (i := 149) rfl), ck_X12.1, ck_X12.2.1, ck_X12.2.2, by decide +kernel, by decide⟩, tb_9 _ (List.mem_of_getElem? (i := 147) rfl), tb_9 _ (List.mem_of_getElem? (i := 148) rfl)⟩
set_option maxRecDepth 20000 in
theorem mk_X11_mean : MKv mt_X11_mean 2 := ⟨⟨tb_6 _ (List.mem_of_getElem? (i := 116) rfl), ck_X11.1, ck_X11.2.1, ck_X11.2.2, by decide +kernel, by decide⟩, tb_6 _ (List.mem_of_getElem? (i := 114) rfl), tb_6 _ (List.mem_of_getElem? (i := 115) rfl)⟩
set_option maxRecDepth 20000 in
theorem mk_X12_mean : MKv mt_X12_mean 2 := ⟨⟨tb_9 _ (List.mem_of_getElem? (i := 153) rfl), ck_X12.1, ck_X12.2.1, ck_X12.2.2, by decide +kernel, by decide⟩, tb_9 _ (List.mem_of_getElem? (i := 151) rfl), tb_9 _ (List.mem_of_getElem? (i := 152) rfl)⟩
set_option maxRecDepth 20000 in
theorem mk_X11_mark : MKv mt_X11_mark 0 := ⟨⟨tb_6 _ (List.mem_of_getElem? (i := 120) rfl), ck_X11.1, ck_X11.2.1, ck_X11.2.2, by decide +kernel, by decide⟩, tb_6 _ (List.mem_of_getElem? (i := 118) rfl), tb_6 _ (List.mem_of_getElem? (i := 119) rfl)⟩
set_option maxRecDepth 20000 in
theorem mk_X12_mark : MKv mt_X12_mark 0 := ⟨⟨tb_9 _ (List.mem_of_getElem? (i := 157) rfl), ck_X12.1, ck_X12.2.1, ck_X12.2.2, by decide +kernel, by decide⟩, tb_9 _ (List.mem_of_getElem? (i := 155) rfl), tb_9 _ (List.mem_of_getElem? (i := 156) rfl)⟩
set_option maxRecDepth 20000 in
theorem mk_X11_back : MKv mt_X11_back 0 := ⟨⟨tb_6 _ (List.mem_of_getElem? (i := 124) rfl), ck_X11.1, ck_X11.2.1, ck_X11.2.2, by decide +kernel, by decide⟩, tb_6 _ (List.mem_of_getElem? (i := 122) rfl), tb_6 _ (List.mem_of_getElem? (i := 123) rfl)⟩
set_option maxRecDepth 20000 in
theorem mk_X12_back : MKv mt_X12_back 0 := ⟨⟨tb_9 _ (List.mem_of_getElem? (i := 161) rfl), ck_X12.1, ck_X12.2.1, ck_X12.2.2, by decide +kernel, by decide⟩, tb_9 _ (List.mem_of_getElem? (i := 159) rfl), tb_9 _ (List.mem_of_getElem? (i := 160) rfl)⟩
