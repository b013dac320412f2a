set_option maxRecDepth 20000 in
theorem ck_JS : Cond.initialized "java/lang/String" ∈ lw_tbl ∧ plainName "java/lang/String" = true ∧ ("java/lang/String" ≠ "java/lang/invoke/MethodHandle" ∧ "java/lang/String" ≠ "java/lang/invoke/VarHandle") := ⟨tb_1 _ (List.mem_of_getElem? (i := 3) rfl), by decide +kernel, by decide +kernel, by decide +kernel⟩
set_option maxRecDepth 20000 in
theorem ck_JL : Cond.initialized "java/lang/StringLatin1" ∈ lw_tbl ∧ plainName "java/lang/StringLatin1" = true ∧ ("java/lang/StringLatin1" ≠ "java/lang/invoke/MethodHandle" ∧ "java/lang/StringLatin1" ≠ "java/lang/invoke/VarHandle") := ⟨tb_1 _ (List.mem_of_getElem? (i := 4) rfl), by decide +kernel, by decide +kernel, by decide +kernel⟩
set_option maxRecDepth 20000 in
theorem ck_JP : Cond.initialized "jdk/internal/util/Preconditions" ∈ lw_tbl ∧ plainName "jdk/internal/util/Preconditions" = true ∧ ("jdk/internal/util/Preconditions" ≠ "java/lang/invoke/MethodHandle" ∧ "jdk/internal/util/Preconditions" ≠ "java/lang/invoke/VarHandle") := ⟨tb_1 _ (List.mem_of_getElem? (i := 5) rfl), by decide +kernel, by decide +kernel, by decide +kernel⟩
set_option maxRecDepth 20000 in
theorem mk_JS_coder : MKv mt_JS_coder 0 := ⟨⟨tb_1 _ (List.mem_of_getElem? (i := 45) rfl), ck_JS.1, ck_JS.2.1, ck_JS.2.2, by decide +kernel, by decide⟩, tb_1 _ (List.mem_of_getElem? (i := 43) rfl), tb_1 _ (List.mem_of_getElem? (i := 44) rfl)⟩
set_option maxRecDepth 20000 in
theorem mk_JS_isLatin1 : MKv mt_JS_isLatin1 0 := ⟨⟨tb_1 _ (List.mem_of_getElem? (i := 55) rfl), ck_JS.1, ck_JS.2.1, ck_JS.2.2, by decide +kernel, by decide⟩, tb_1 _ (List.mem_of_getElem? (i := 53) rfl), tb_1 _ (List.mem_of_getElem? (i := 54) rfl)⟩
set_option maxRecDepth 20000 in
theorem mk_JS_length : MKv mt_JS_length 0 := ⟨⟨tb_1 _ (List.mem_of_getElem? (i := 41) rfl), ck_JS.1, ck_JS.2.1, ck_JS.2.2, by decide +kernel, by decide⟩, tb_1 _ (List.mem_of_getElem? (i := 39) rfl), tb_1 _ (List.mem_of_getElem? (i := 40) rfl)⟩
set_option maxRecDepth 20000 in
theorem mk_JS_charAt : MKv mt_JS_charAt 1 := ⟨⟨tb_1 _ (List.mem_of_getElem? (i := 51) rfl), ck_JS.1, ck_JS.2.1, ck_JS.2.2, by decide +kernel, by decide⟩, tb_1 _ (List.mem_of_getElem? (i := 49) rfl), tb_1 _ (List.mem_of_getElem? (i := 50) rfl)⟩
set_option maxRecDepth 20000 in
theorem mk_JS_checkIndex : MKs mt_JS_checkIndex 2 := ⟨⟨tb_1 _ (List.mem_of_getElem? (i := 61) rfl), ck_JS.1, ck_JS.2.1, ck_JS.2.2, by decide +kernel, by decide⟩, tb_1 _ (List.mem_of_getElem? (i := 60) rfl)⟩
set_option maxRecDepth 20000 in
theorem mk_JL_charAt : MKs mt_JL_charAt 2 := ⟨⟨tb_1 _ (List.mem_of_getElem? (i := 58) rfl), ck_JL.1, ck_JL.2.1, ck_JL.2.2, by decide +kernel, by decide⟩, tb_1 _ (List.mem_of_getElem? (i := 57) rfl)⟩
set_option maxRecDepth 20000 in
theorem mk_JP_checkIndex : MKs mt_JP_checkIndex 3 := ⟨⟨tb_1 _ (List.mem_of_getElem? (i := 66) rfl), ck_JP.1, ck_JP.2.1, ck_JP.2.2, by decide +kernel, by decide⟩, tb_1 _ (List.mem_of_getElem? (i := 65) rfl)⟩
set_option maxRecDepth 20000 in
theorem mk_X11_init : MKi mt_X11_init 0 := ⟨⟨tb_1 _ (List.mem_of_getElem? (i := 25) rfl), ck_X11.1, ck_X11.2.1, ck_X11.2.2, by decide +kernel, by decide⟩, tb_1 _ (List.mem_of_getElem? (i := 24) rfl), rfl, rfl⟩
set_option maxRecDepth 20000 in
theorem mk_X7_init : MKi mt_X7_init 1 := ⟨⟨tb_1 _ (List.mem_of_getElem? (i := 35) rfl), ck_X7.1, ck_X7.2.1, ck_X7.2.2, by decide +kernel, by decide⟩, tb_1 _ (List.mem_of_getElem? (i := 34) rfl), rfl, rfl⟩
set_option maxRecDepth 20000 in
theorem mk_X9_init : MKi mt_X9_init 0 := ⟨⟨tb_1 _ (List.mem_of_getElem? (i := 137) rfl), ck_X9.1, ck_X9.2.1, ck_X9.2.2, by decide +kernel, by decide⟩, tb_1 _ (List.mem_of_getElem? (i := 136) rfl), rfl, rfl⟩
set_option maxRecDepth 20000 in
theorem mk_X5_init : MKi mt_X5_init 0 := ⟨⟨tb_1 _ (List.mem_of_getElem? (i := 221) rfl), ck_X5.1, ck_X5.2.1, ck_X5.2.2, by decide +kernel, by decide⟩, tb_1 _ (List.mem_of_getElem? (i := 220) rfl), rfl, rfl⟩
set_option maxRecDepth 20000 in
theorem mk_X10_init : MKi mt_X10_init 1 := ⟨⟨tb_2 _ (List.mem_of_getElem? (i := 23) rfl), ck_X10.1, ck_X10.2.1, ck_X10.2.2, by decide +kernel, by decide⟩, tb_2 _ (List.mem_of_getElem? (i := 22) rfl), rfl, rfl⟩
set_option maxRecDepth 20000 in
theorem mk_X6_init : MKi mt_X6_init 2 := ⟨⟨tb_2 _ (List.mem_of_getElem? (i := 42) rfl), ck_X6.1, ck_X6.2.1, ck_X6.2.2, by decide +kernel, by decide⟩, tb_2 _ (List.mem_of_getElem? (i := 41) rfl), rfl, rfl⟩
set_option maxRecDepth 20000 in
theorem mk_X4_init : MKi mt_X4_init 2 := ⟨⟨tb_2 _ (List.mem_of_getElem? (i := 72) rfl), ck_X4.1, ck_X4.2.1, ck_X4.2.2, by decide +kernel, by decide⟩, tb_2 _ (List.mem_of_getElem? (i := 71) rfl), rfl, rfl⟩
set_option maxRecDepth 20000 in
theorem mk_X3_init : MKi mt_X3_init 0 := ⟨⟨tb_2 _ (List.mem_of_getElem? (i := 115) rfl), ck_X3.1, ck_X3.2.1, ck_X3.2.2, by decide +kernel, by decide⟩, tb_2 _ (List.mem_of_getElem? (i := 114) rfl), rfl, rfl⟩
set_option maxRecDepth 20000 in
theorem mk_X0_init : MKi mt_X0_init 0 := ⟨⟨tb_2 _ (List.mem_of_getElem? (i := 138) rfl), ck_X0.1, ck_X0.2.1, ck_X0.2.2, by decide +kernel, by decide⟩, tb_2 _ (List.mem_of_getElem? (i := 137) rfl), rfl, rfl⟩
set_option maxRecDepth 20000 in
theorem mk_X1_init : MKi mt_X1_init 1 := ⟨⟨tb_2 _ (List.mem_of_getElem? (i := 176) rfl), ck_X1.1, ck_X1.2.1, ck_X1.2.2, by decide +kernel, by decide⟩, tb_2 _ (List.mem_of_getElem? (i := 175) rfl), rfl, rfl⟩
set_option maxRecDepth 20000 in
theorem mk_X2_init : MKi mt_X2_init 0 := ⟨⟨tb_2 _ (List.mem_of_getElem? (i := 198) rfl), ck_X2.1, ck_X2.2.1, ck_X2.2.2, by decide +kernel, by decide⟩, tb_2 _ (List.mem_of_getElem? (i := 197) rfl), rfl, rfl⟩
set_option maxRecDepth 20000 in
theorem mk_X8_init : MKi mt_X8_init 0 := ⟨⟨tb_2 _ (List.mem_of_getElem? (i := 212) rfl), ck_X8.1, ck_X8.2.1, ck_X8.2.2, by decide +kernel, by decide⟩, tb_2 _ (List.mem_of_getElem? (i := 211) rfl), rfl, rfl⟩
set_option maxRecDepth 20000 in
theorem mk_X12_init : MKi mt_X12_init 0 := ⟨⟨tb_6 _ (List.mem_of_getElem? (i := 129) rfl), ck_X12.1, ck_X12.2.1, ck_X12.2.2, by decide +kernel, by decide⟩, tb_6 _ (List.mem_of_getElem? (i := 128) rfl), rfl, rfl⟩
theorem d_JS_coder_0 : decode mt_JS_coder.2.1 0 = .ok (.getstatic 38, 3) := by decide +kernel
theorem d_JS_coder_3 : decode mt_JS_coder.2.1 3 = .ok (.ifCond .eq 10, 3) := by decide +kernel
theorem d_JS_coder_6 : decode mt_JS_coder.2.1 6 = .ok (.aload_n 0, 1) := by decide +kernel
theorem d_JS_coder_7 : decode mt_JS_coder.2.1 7 = .ok (.getfield 15, 3) := by decide +kernel
theorem d_JS_coder_10 : decode mt_JS_coder.2.1 10 = .ok (.goto 4, 3) := by decide +kernel
theorem d_JS_coder_13 : decode mt_JS_coder.2.1 13 = .ok (.iconst 1, 1) := by decide +kernel
theorem d_JS_coder_14 : decode mt_JS_coder.2.1 14 = .ok (.ireturn, 1) := by decide +kernel
theorem d_JS_isLatin1_0 : decode mt_JS_isLatin1.2.1 0 = .ok (.getstatic 38, 3) := by decide +kernel
theorem d_JS_isLatin1_3 : decode mt_JS_isLatin1.2.1 3 = .ok (.ifCond .eq 14, 3) := by decide +kernel
theorem d_JS_isLatin1_6 : decode mt_JS_isLatin1.2.1 6 = .ok (.aload_n 0, 1) := by decide +kernel
theorem d_JS_isLatin1_7 : decode mt_JS_isLatin1.2.1 7 = .ok (.getfield 15, 3) := by decide +kernel
theorem d_JS_isLatin1_10 : decode mt_JS_isLatin1.2.1 10 = .ok (.ifCond .ne 7, 3) := by decide +kernel
theorem d_JS_isLatin1_13 : decode mt_JS_isLatin1.2.1 13 = .ok (.iconst 1, 1) := by decide +kernel
theorem d_JS_isLatin1_14 : decode mt_JS_isLatin1.2.1 14 = .ok (.goto 4, 3) := by decide +kernel
theorem d_JS_isLatin1_17 : decode mt_JS_isLatin1.2.1 17 = .ok (.iconst 0, 1) := by decide +kernel
theorem d_JS_isLatin1_18 : decode mt_JS_isLatin1.2.1 18 = .ok (.ireturn, 1) := by decide +kernel
theorem d_JS_length_0 : decode mt_JS_length.2.1 0 = .ok (.aload_n 0, 1) := by decide +kernel
theorem d_JS_length_1 : decode mt_JS_length.2.1 1 = .ok (.getfield 9, 3) := by decide +kernel
theorem d_JS_length_4 : decode mt_JS_length.2.1 4 = .ok (.arraylength, 1) := by decide +kernel
theorem d_JS_length_5 : decode mt_JS_length.2.1 5 = .ok (.aload_n 0, 1) := by decide +kernel
theorem d_JS_length_6 : decode mt_JS_length.2.1 6 = .ok (.invokevirtual 335, 3) := by decide +kernel
theorem d_JS_length_9 : decode mt_JS_length.2.1 9 = .ok (.ishr, 1) := by decide +kernel
theorem d_JS_length_10 : decode mt_JS_length.2.1 10 = .ok (.ireturn, 1) := by decide +kernel
theorem d_JS_charAt_0 : decode mt_JS_charAt.2.1 0 = .ok (.aload_n 0, 1) := by decide +kernel
theorem d_JS_charAt_1 : decode mt_JS_charAt.2.1 1 = .ok (.invokevirtual 492, 3) := by decide +kernel
theorem d_JS_charAt_4 : decode mt_JS_charAt.2.1 4 = .ok (.ifCond .eq 12, 3) := by decide +kernel
theorem d_JS_charAt_7 : decode mt_JS_charAt.2.1 7 = .ok (.aload_n 0, 1) := by decide +kernel
theorem d_JS_charAt_8 : decode mt_JS_charAt.2.1 8 = .ok (.getfield 9, 3) := by decide +kernel
theorem d_JS_charAt_11 : decode mt_JS_charAt.2.1 11 = .ok (.iload_n 1, 1) := by decide +kernel
theorem d_JS_charAt_12 : decode mt_JS_charAt.2.1 12 = .ok (.invokestatic 495, 3) := by decide +kernel
theorem d_JS_charAt_15 : decode mt_JS_charAt.2.1 15 = .ok (.ireturn, 1) := by decide +kernel
theorem d_JS_charAt_16 : decode mt_JS_charAt.2.1 16 = .ok (.aload_n 0, 1) := by decide +kernel
theorem d_JS_charAt_17 : decode mt_JS_charAt.2.1 17 = .ok (.getfield 9, 3) := by decide +kernel
theorem d_JS_charAt_20 : decode mt_JS_charAt.2.1 20 = .ok (.iload_n 1, 1) := by decide +kernel
theorem d_JS_charAt_21 : decode mt_JS_charAt.2.1 21 = .ok (.invokestatic 498, 3) := by decide +kernel
theorem d_JS_charAt_24 : decode mt_JS_charAt.2.1 24 = .ok (.ireturn, 1) := by decide +kernel
theorem d_JS_checkIndex_0 : decode mt_JS_checkIndex.2.1 0 = .ok (.iload_n 0, 1) := by decide +kernel
theorem d_JS_checkIndex_1 : decode mt_JS_checkIndex.2.1 1 = .ok (.iload_n 1, 1) := by decide +kernel
theorem d_JS_checkIndex_2 : decode mt_JS_checkIndex.2.1 2 = .ok (.getstatic 1053, 3) := by decide +kernel
theorem d_JS_checkIndex_5 : decode mt_JS_checkIndex.2.1 5 = .ok (.invokestatic 1059, 3) := by decide +kernel
theorem d_JS_checkIndex_8 : decode mt_JS_checkIndex.2.1 8 = .ok (.pop, 1) := by decide +kernel
theorem d_JS_checkIndex_9 : decode mt_JS_checkIndex.2.1 9 = .ok (.return_, 1) := by decide +kernel
theorem d_JL_charAt_0 : decode mt_JL_charAt.2.1 0 = .ok (.iload_n 1, 1) := by decide +kernel
theorem d_JL_charAt_1 : decode mt_JL_charAt.2.1 1 = .ok (.aload_n 0, 1) := by decide +kernel
theorem d_JL_charAt_2 : decode mt_JL_charAt.2.1 2 = .ok (.arraylength, 1) := by decide +kernel
theorem d_JL_charAt_3 : decode mt_JL_charAt.2.1 3 = .ok (.invokestatic 9, 3) := by decide +kernel
theorem d_JL_charAt_6 : decode mt_JL_charAt.2.1 6 = .ok (.aload_n 0, 1) := by decide +kernel
theorem d_JL_charAt_7 : decode mt_JL_charAt.2.1 7 = .ok (.iload_n 1, 1) := by decide +kernel
theorem d_JL_charAt_8 : decode mt_JL_charAt.2.1 8 = .ok (.baload, 1) := by decide +kernel
theorem d_JL_charAt_9 : decode mt_JL_charAt.2.1 9 = .ok (.sipush 255, 3) := by decide +kernel
theorem d_JL_charAt_12 : decode mt_JL_charAt.2.1 12 = .ok (.iand, 1) := by decide +kernel
theorem d_JL_charAt_13 : decode mt_JL_charAt.2.1 13 = .ok (.i2c, 1) := by decide +kernel
theorem d_JL_charAt_14 : decode mt_JL_charAt.2.1 14 = .ok (.ireturn, 1) := by decide +kernel
theorem d_JP_checkIndex_0 : decode mt_JP_checkIndex.2.1 0 = .ok (.iload_n 0, 1) := by decide +kernel
theorem d_JP_checkIndex_1 : decode mt_JP_checkIndex.2.1 1 = .ok (.ifCond .lt 8, 3) := by decide +kernel
theorem d_JP_checkIndex_4 : decode mt_JP_checkIndex.2.1 4 = .ok (.iload_n 0, 1) := by decide +kernel
theorem d_JP_checkIndex_5 : decode mt_JP_checkIndex.2.1 5 = .ok (.iload_n 1, 1) := by decide +kernel
theorem d_JP_checkIndex_6 : decode mt_JP_checkIndex.2.1 6 = .ok (.if_icmp .lt 10, 3) := by decide +kernel
theorem d_JP_checkIndex_9 : decode mt_JP_checkIndex.2.1 9 = .ok (.aload_n 2, 1) := by decide +kernel
theorem d_JP_checkIndex_10 : decode mt_JP_checkIndex.2.1 10 = .ok (.iload_n 0, 1) := by decide +kernel
theorem d_JP_checkIndex_11 : decode mt_JP_checkIndex.2.1 11 = .ok (.iload_n 1, 1) := by decide +kernel
theorem d_JP_checkIndex_12 : decode mt_JP_checkIndex.2.1 12 = .ok (.invokestatic 95, 3) := by decide +kernel
theorem d_JP_checkIndex_15 : decode mt_JP_checkIndex.2.1 15 = .ok (.athrow, 1) := by decide +kernel
theorem d_JP_checkIndex_16 : decode mt_JP_checkIndex.2.1 16 = .ok (.iload_n 0, 1) := by decide +kernel
theorem d_JP_checkIndex_17 : decode mt_JP_checkIndex.2.1 17 = .ok (.ireturn, 1) := by decide +kernel
theorem d_X11_init_0 : decode mt_X11_init.2.1 0 = .ok (.aload_n 0, 1) := by decide +kernel
theorem d_X11_init_1 : decode mt_X11_init.2.1 1 = .ok (.invokespecial 3, 3) := by decide +kernel
theorem d_X11_init_4 : decode mt_X11_init.2.1 4 = .ok (.aload_n 0, 1) := by decide +kernel
theorem d_X11_init_5 : decode mt_X11_init.2.1 5 = .ok (.iconst 4, 1) := by decide +kernel
theorem d_X11_init_6 : decode mt_X11_init.2.1 6 = .ok (.anewarray 9, 3) := by decide +kernel
theorem d_X11_init_9 : decode mt_X11_init.2.1 9 = .ok (.putfield 11, 3) := by decide +kernel
theorem d_X11_init_12 : decode mt_X11_init.2.1 12 = .ok (.aload_n 0, 1) := by decide +kernel
theorem d_X11_init_13 : decode mt_X11_init.2.1 13 = .ok (.sipush 900, 3) := by decide +kernel
theorem d_X11_init_16 : decode mt_X11_init.2.1 16 = .ok (.newarray .byte, 2) := by decide +kernel
theorem d_X11_init_18 : decode mt_X11_init.2.1 18 = .ok (.putfield 15, 3) := by decide +kernel
theorem d_X11_init_21 : decode mt_X11_init.2.1 21 = .ok (.aload_n 0, 1) := by decide +kernel
theorem d_X11_init_22 : decode mt_X11_init.2.1 22 = .ok (.new 19, 3) := by decide +kernel
theorem d_X11_init_25 : decode mt_X11_init.2.1 25 = .ok (.dup, 1) := by decide +kernel
theorem d_X11_init_26 : decode mt_X11_init.2.1 26 = .ok (.aload_n 0, 1) := by decide +kernel
theorem d_X11_init_27 : decode mt_X11_init.2.1 27 = .ok (.getfield 15, 3) := by decide +kernel
theorem d_X11_init_30 : decode mt_X11_init.2.1 30 = .ok (.invokespecial 21, 3) := by decide +kernel
theorem d_X11_init_33 : decode mt_X11_init.2.1 33 = .ok (.putfield 24, 3) := by decide +kernel
theorem d_X11_init_36 : decode mt_X11_init.2.1 36 = .ok (.aload_n 0, 1) := by decide +kernel
theorem d_X11_init_37 : decode mt_X11_init.2.1 37 = .ok (.new 28, 3) := by decide +kernel
theorem d_X11_init_40 : decode mt_X11_init.2.1 40 = .ok (.dup, 1) := by decide +kernel
theorem d_X11_init_41 : decode mt_X11_init.2.1 41 = .ok (.invokespecial 30, 3) := by decide +kernel
theorem d_X11_init_44 : decode mt_X11_init.2.1 44 = .ok (.putfield 31, 3) := by decide +kernel
theorem d_X11_init_47 : decode mt_X11_init.2.1 47 = .ok (.aload_n 0, 1) := by decide +kernel
theorem d_X11_init_48 : decode mt_X11_init.2.1 48 = .ok (.new 35, 3) := by decide +kernel
theorem d_X11_init_51 : decode mt_X11_init.2.1 51 = .ok (.dup, 1) := by decide +kernel
theorem d_X11_init_52 : decode mt_X11_init.2.1 52 = .ok (.invokespecial 37, 3) := by decide +kernel
theorem d_X11_init_55 : decode mt_X11_init.2.1 55 = .ok (.putfield 38, 3) := by decide +kernel
theorem d_X11_init_58 : decode mt_X11_init.2.1 58 = .ok (.aload_n 0, 1) := by decide +kernel
theorem d_X11_init_59 : decode mt_X11_init.2.1 59 = .ok (.new 42, 3) := by decide +kernel
theorem d_X11_init_62 : decode mt_X11_init.2.1 62 = .ok (.dup, 1) := by decide +kernel
theorem d_X11_init_63 : decode mt_X11_init.2.1 63 = .ok (.aload_n 0, 1) := by decide +kernel
theorem d_X11_init_64 : decode mt_X11_init.2.1 64 = .ok (.getfield 24, 3) := by decide +kernel
theorem d_X11_init_67 : decode mt_X11_init.2.1 67 = .ok (.invokespecial 44, 3) := by decide +kernel
theorem d_X11_init_70 : decode mt_X11_init.2.1 70 = .ok (.putfield 47, 3) := by decide +kernel
theorem d_X11_init_73 : decode mt_X11_init.2.1 73 = .ok (.aload_n 0, 1) := by decide +kernel
theorem d_X11_init_74 : decode mt_X11_init.2.1 74 = .ok (.new 51, 3) := by decide +kernel
theorem d_X11_init_77 : decode mt_X11_init.2.1 77 = .ok (.dup, 1) := by decide +kernel
theorem d_X11_init_78 : decode mt_X11_init.2.1 78 = .ok (.aload_n 0, 1) := by decide +kernel
theorem d_X11_init_79 : decode mt_X11_init.2.1 79 = .ok (.getfield 24, 3) := by decide +kernel
theorem d_X11_init_82 : decode mt_X11_init.2.1 82 = .ok (.aload_n 0, 1) := by decide +kernel
theorem d_X11_init_83 : decode mt_X11_init.2.1 83 = .ok (.getfield 31, 3) := by decide +kernel
theorem d_X11_init_86 : decode mt_X11_init.2.1 86 = .ok (.invokespecial 53, 3) := by decide +kernel
theorem d_X11_init_89 : decode mt_X11_init.2.1 89 = .ok (.putfield 56, 3) := by decide +kernel
theorem d_X11_init_92 : decode mt_X11_init.2.1 92 = .ok (.aload_n 0, 1) := by decide +kernel
theorem d_X11_init_93 : decode mt_X11_init.2.1 93 = .ok (.iconst 3, 1) := by decide +kernel
theorem d_X11_init_94 : decode mt_X11_init.2.1 94 = .ok (.anewarray 28, 3) := by decide +kernel
theorem d_X11_init_97 : decode mt_X11_init.2.1 97 = .ok (.putfield 60, 3) := by decide +kernel
theorem d_X11_init_100 : decode mt_X11_init.2.1 100 = .ok (.aload_n 0, 1) := by decide +kernel
theorem d_X11_init_101 : decode mt_X11_init.2.1 101 = .ok (.iconst 3, 1) := by decide +kernel
theorem d_X11_init_102 : decode mt_X11_init.2.1 102 = .ok (.anewarray 35, 3) := by decide +kernel
theorem d_X11_init_105 : decode mt_X11_init.2.1 105 = .ok (.putfield 64, 3) := by decide +kernel
theorem d_X11_init_108 : decode mt_X11_init.2.1 108 = .ok (.aload_n 0, 1) := by decide +kernel
theorem d_X11_init_109 : decode mt_X11_init.2.1 109 = .ok (.new 68, 3) := by decide +kernel
theorem d_X11_init_112 : decode mt_X11_init.2.1 112 = .ok (.dup, 1) := by decide +kernel
theorem d_X11_init_113 : decode mt_X11_init.2.1 113 = .ok (.aload_n 0, 1) := by decide +kernel
theorem d_X11_init_114 : decode mt_X11_init.2.1 114 = .ok (.getfield 38, 3) := by decide +kernel
theorem d_X11_init_117 : decode mt_X11_init.2.1 117 = .ok (.aload_n 0, 1) := by decide +kernel
theorem d_X11_init_118 : decode mt_X11_init.2.1 118 = .ok (.getfield 31, 3) := by decide +kernel
theorem d_X11_init_121 : decode mt_X11_init.2.1 121 = .ok (.invokespecial 70, 3) := by decide +kernel
theorem d_X11_init_124 : decode mt_X11_init.2.1 124 = .ok (.putfield 73, 3) := by decide +kernel
theorem d_X11_init_127 : decode mt_X11_init.2.1 127 = .ok (.aload_n 0, 1) := by decide +kernel
theorem d_X11_init_128 : decode mt_X11_init.2.1 128 = .ok (.new 28, 3) := by decide +kernel
theorem d_X11_init_131 : decode mt_X11_init.2.1 131 = .ok (.dup, 1) := by decide +kernel
theorem d_X11_init_132 : decode mt_X11_init.2.1 132 = .ok (.invokespecial 30, 3) := by decide +kernel
theorem d_X11_init_135 : decode mt_X11_init.2.1 135 = .ok (.putfield 77, 3) := by decide +kernel
theorem d_X11_init_138 : decode mt_X11_init.2.1 138 = .ok (.aload_n 0, 1) := by decide +kernel
theorem d_X11_init_139 : decode mt_X11_init.2.1 139 = .ok (.new 68, 3) := by decide +kernel
theorem d_X11_init_142 : decode mt_X11_init.2.1 142 = .ok (.dup, 1) := by decide +kernel
theorem d_X11_init_143 : decode mt_X11_init.2.1 143 = .ok (.aload_n 0, 1) := by decide +kernel
theorem d_X11_init_144 : decode mt_X11_init.2.1 144 = .ok (.getfield 38, 3) := by decide +kernel
theorem d_X11_init_147 : decode mt_X11_init.2.1 147 = .ok (.aload_n 0, 1) := by decide +kernel
theorem d_X11_init_148 : decode mt_X11_init.2.1 148 = .ok (.getfield 77, 3) := by decide +kernel
theorem d_X11_init_151 : decode mt_X11_init.2.1 151 = .ok (.invokespecial 70, 3) := by decide +kernel
theorem d_X11_init_154 : decode mt_X11_init.2.1 154 = .ok (.putfield 80, 3) := by decide +kernel
theorem d_X11_init_157 : decode mt_X11_init.2.1 157 = .ok (.aload_n 0, 1) := by decide +kernel
theorem d_X11_init_158 : decode mt_X11_init.2.1 158 = .ok (.new 83, 3) := by decide +kernel
theorem d_X11_init_161 : decode mt_X11_init.2.1 161 = .ok (.dup, 1) := by decide +kernel
theorem d_X11_init_162 : decode mt_X11_init.2.1 162 = .ok (.invokespecial 85, 3) := by decide +kernel
theorem d_X11_init_165 : decode mt_X11_init.2.1 165 = .ok (.putfield 86, 3) := by decide +kernel
theorem d_X11_init_168 : decode mt_X11_init.2.1 168 = .ok (.aload_n 0, 1) := by decide +kernel
theorem d_X11_init_169 : decode mt_X11_init.2.1 169 = .ok (.new 90, 3) := by decide +kernel
theorem d_X11_init_172 : decode mt_X11_init.2.1 172 = .ok (.dup, 1) := by decide +kernel
theorem d_X11_init_173 : decode mt_X11_init.2.1 173 = .ok (.invokespecial 92, 3) := by decide +kernel
theorem d_X11_init_176 : decode mt_X11_init.2.1 176 = .ok (.putfield 93, 3) := by decide +kernel
theorem d_X11_init_179 : decode mt_X11_init.2.1 179 = .ok (.aload_n 0, 1) := by decide +kernel
theorem d_X11_init_180 : decode mt_X11_init.2.1 180 = .ok (.new 97, 3) := by decide +kernel
theorem d_X11_init_183 : decode mt_X11_init.2.1 183 = .ok (.dup, 1) := by decide +kernel
theorem d_X11_init_184 : decode mt_X11_init.2.1 184 = .ok (.aload_n 0, 1) := by decide +kernel
theorem d_X11_init_185 : decode mt_X11_init.2.1 185 = .ok (.getfield 31, 3) := by decide +kernel
theorem d_X11_init_188 : decode mt_X11_init.2.1 188 = .ok (.invokespecial 99, 3) := by decide +kernel
theorem d_X11_init_191 : decode mt_X11_init.2.1 191 = .ok (.putfield 102, 3) := by decide +kernel
theorem d_X11_init_194 : decode mt_X11_init.2.1 194 = .ok (.aload_n 0, 1) := by decide +kernel
theorem d_X11_init_195 : decode mt_X11_init.2.1 195 = .ok (.new 106, 3) := by decide +kernel
theorem d_X11_init_198 : decode mt_X11_init.2.1 198 = .ok (.dup, 1) := by decide +kernel
theorem d_X11_init_199 : decode mt_X11_init.2.1 199 = .ok (.invokespecial 108, 3) := by decide +kernel
theorem d_X11_init_202 : decode mt_X11_init.2.1 202 = .ok (.putfield 109, 3) := by decide +kernel
theorem d_X11_init_205 : decode mt_X11_init.2.1 205 = .ok (.iconst 0, 1) := by decide +kernel
theorem d_X11_init_206 : decode mt_X11_init.2.1 206 = .ok (.istore_n 1, 1) := by decide +kernel
theorem d_X11_init_207 : decode mt_X11_init.2.1 207 = .ok (.iload_n 1, 1) := by decide +kernel
theorem d_X11_init_208 : decode mt_X11_init.2.1 208 = .ok (.iconst 4, 1) := by decide +kernel
theorem d_X11_init_209 : decode mt_X11_init.2.1 209 = .ok (.if_icmp .ge 22, 3) := by decide +kernel
theorem d_X11_init_212 : decode mt_X11_init.2.1 212 = .ok (.aload_n 0, 1) := by decide +kernel
theorem d_X11_init_213 : decode mt_X11_init.2.1 213 = .ok (.getfield 11, 3) := by decide +kernel
theorem d_X11_init_216 : decode mt_X11_init.2.1 216 = .ok (.iload_n 1, 1) := by decide +kernel
theorem d_X11_init_217 : decode mt_X11_init.2.1 217 = .ok (.new 9, 3) := by decide +kernel
theorem d_X11_init_220 : decode mt_X11_init.2.1 220 = .ok (.dup, 1) := by decide +kernel
theorem d_X11_init_221 : decode mt_X11_init.2.1 221 = .ok (.invokespecial 113, 3) := by decide +kernel
theorem d_X11_init_224 : decode mt_X11_init.2.1 224 = .ok (.aastore, 1) := by decide +kernel
theorem d_X11_init_225 : decode mt_X11_init.2.1 225 = .ok (.iinc 1 1, 3) := by decide +kernel
theorem d_X11_init_228 : decode mt_X11_init.2.1 228 = .ok (.goto (-21), 3) := by decide +kernel
theorem d_X11_init_231 : decode mt_X11_init.2.1 231 = .ok (.iconst 0, 1) := by decide +kernel
theorem d_X11_init_232 : decode mt_X11_init.2.1 232 = .ok (.istore_n 1, 1) := by decide +kernel
theorem d_X11_init_233 : decode mt_X11_init.2.1 233 = .ok (.iload_n 1, 1) := by decide +kernel
theorem d_X11_init_234 : decode mt_X11_init.2.1 234 = .ok (.iconst 3, 1) := by decide +kernel
theorem d_X11_init_235 : decode mt_X11_init.2.1 235 = .ok (.if_icmp .ge 35, 3) := by decide +kernel
theorem d_X11_init_238 : decode mt_X11_init.2.1 238 = .ok (.aload_n 0, 1) := by decide +kernel
theorem d_X11_init_239 : decode mt_X11_init.2.1 239 = .ok (.getfield 60, 3) := by decide +kernel
theorem d_X11_init_242 : decode mt_X11_init.2.1 242 = .ok (.iload_n 1, 1) := by decide +kernel
theorem d_X11_init_243 : decode mt_X11_init.2.1 243 = .ok (.new 28, 3) := by decide +kernel
theorem d_X11_init_246 : decode mt_X11_init.2.1 246 = .ok (.dup, 1) := by decide +kernel
theorem d_X11_init_247 : decode mt_X11_init.2.1 247 = .ok (.invokespecial 30, 3) := by decide +kernel
theorem d_X11_init_250 : decode mt_X11_init.2.1 250 = .ok (.aastore, 1) := by decide +kernel
theorem d_X11_init_251 : decode mt_X11_init.2.1 251 = .ok (.aload_n 0, 1) := by decide +kernel
theorem d_X11_init_252 : decode mt_X11_init.2.1 252 = .ok (.getfield 64, 3) := by decide +kernel
theorem d_X11_init_255 : decode mt_X11_init.2.1 255 = .ok (.iload_n 1, 1) := by decide +kernel
theorem d_X11_init_256 : decode mt_X11_init.2.1 256 = .ok (.new 35, 3) := by decide +kernel
theorem d_X11_init_259 : decode mt_X11_init.2.1 259 = .ok (.dup, 1) := by decide +kernel
theorem d_X11_init_260 : decode mt_X11_init.2.1 260 = .ok (.invokespecial 37, 3) := by decide +kernel
theorem d_X11_init_263 : decode mt_X11_init.2.1 263 = .ok (.aastore, 1) := by decide +kernel
theorem d_X11_init_264 : decode mt_X11_init.2.1 264 = .ok (.iinc 1 1, 3) := by decide +kernel
theorem d_X11_init_267 : decode mt_X11_init.2.1 267 = .ok (.goto (-34), 3) := by decide +kernel
theorem d_X11_init_270 : decode mt_X11_init.2.1 270 = .ok (.return_, 1) := by decide +kernel
theorem d_X7_init_0 : decode mt_X7_init.2.1 0 = .ok (.aload_n 0, 1) := by decide +kernel
theorem d_X7_init_1 : decode mt_X7_init.2.1 1 = .ok (.invokespecial 3, 3) := by decide +kernel
theorem d_X7_init_4 : decode mt_X7_init.2.1 4 = .ok (.aload_n 0, 1) := by decide +kernel
theorem d_X7_init_5 : decode mt_X7_init.2.1 5 = .ok (.bipush 23, 2) := by decide +kernel
theorem d_X7_init_7 : decode mt_X7_init.2.1 7 = .ok (.newarray .long, 2) := by decide +kernel
theorem d_X7_init_9 : decode mt_X7_init.2.1 9 = .ok (.putfield 9, 3) := by decide +kernel
theorem d_X7_init_12 : decode mt_X7_init.2.1 12 = .ok (.aload_n 0, 1) := by decide +kernel
theorem d_X7_init_13 : decode mt_X7_init.2.1 13 = .ok (.iconst (-1), 1) := by decide +kernel
theorem d_X7_init_14 : decode mt_X7_init.2.1 14 = .ok (.putfield 15, 3) := by decide +kernel
theorem d_X7_init_17 : decode mt_X7_init.2.1 17 = .ok (.aload_n 0, 1) := by decide +kernel
theorem d_X7_init_18 : decode mt_X7_init.2.1 18 = .ok (.iconst (-1), 1) := by decide +kernel
theorem d_X7_init_19 : decode mt_X7_init.2.1 19 = .ok (.putfield 19, 3) := by decide +kernel
theorem d_X7_init_22 : decode mt_X7_init.2.1 22 = .ok (.aload_n 0, 1) := by decide +kernel
theorem d_X7_init_23 : decode mt_X7_init.2.1 23 = .ok (.aload_n 1, 1) := by decide +kernel
theorem d_X7_init_24 : decode mt_X7_init.2.1 24 = .ok (.putfield 22, 3) := by decide +kernel
theorem d_X7_init_27 : decode mt_X7_init.2.1 27 = .ok (.iconst 0, 1) := by decide +kernel
theorem d_X7_init_28 : decode mt_X7_init.2.1 28 = .ok (.istore_n 2, 1) := by decide +kernel
theorem d_X7_init_29 : decode mt_X7_init.2.1 29 = .ok (.iconst 0, 1) := by decide +kernel
theorem d_X7_init_30 : decode mt_X7_init.2.1 30 = .ok (.istore_n 3, 1) := by decide +kernel
theorem d_X7_init_31 : decode mt_X7_init.2.1 31 = .ok (.iload_n 3, 1) := by decide +kernel
theorem d_X7_init_32 : decode mt_X7_init.2.1 32 = .ok (.ldc 26, 2) := by decide +kernel
theorem d_X7_init_34 : decode mt_X7_init.2.1 34 = .ok (.invokevirtual 28, 3) := by decide +kernel
theorem d_X7_init_37 : decode mt_X7_init.2.1 37 = .ok (.if_icmp .ge 61, 3) := by decide +kernel
theorem d_X7_init_40 : decode mt_X7_init.2.1 40 = .ok (.iload_n 2, 1) := by decide +kernel
theorem d_X7_init_41 : decode mt_X7_init.2.1 41 = .ok (.bipush 23, 2) := by decide +kernel
theorem d_X7_init_43 : decode mt_X7_init.2.1 43 = .ok (.if_icmp .ge 55, 3) := by decide +kernel
theorem d_X7_init_46 : decode mt_X7_init.2.1 46 = .ok (.ldc 26, 2) := by decide +kernel
theorem d_X7_init_48 : decode mt_X7_init.2.1 48 = .ok (.iload_n 3, 1) := by decide +kernel
theorem d_X7_init_49 : decode mt_X7_init.2.1 49 = .ok (.invokevirtual 34, 3) := by decide +kernel
theorem d_X7_init_52 : decode mt_X7_init.2.1 52 = .ok (.istore 4, 2) := by decide +kernel
theorem d_X7_init_54 : decode mt_X7_init.2.1 54 = .ok (.iload 4, 2) := by decide +kernel
theorem d_X7_init_56 : decode mt_X7_init.2.1 56 = .ok (.bipush 32, 2) := by decide +kernel
theorem d_X7_init_58 : decode mt_X7_init.2.1 58 = .ok (.if_icmp .ne 9, 3) := by decide +kernel
theorem d_X7_init_61 : decode mt_X7_init.2.1 61 = .ok (.iinc 2 1, 3) := by decide +kernel
theorem d_X7_init_64 : decode mt_X7_init.2.1 64 = .ok (.goto 28, 3) := by decide +kernel
theorem d_X7_init_67 : decode mt_X7_init.2.1 67 = .ok (.aload_n 0, 1) := by decide +kernel
theorem d_X7_init_68 : decode mt_X7_init.2.1 68 = .ok (.getfield 9, 3) := by decide +kernel
theorem d_X7_init_71 : decode mt_X7_init.2.1 71 = .ok (.iload_n 2, 1) := by decide +kernel
theorem d_X7_init_72 : decode mt_X7_init.2.1 72 = .ok (.aload_n 0, 1) := by decide +kernel
theorem d_X7_init_73 : decode mt_X7_init.2.1 73 = .ok (.getfield 9, 3) := by decide +kernel
theorem d_X7_init_76 : decode mt_X7_init.2.1 76 = .ok (.iload_n 2, 1) := by decide +kernel
theorem d_X7_init_77 : decode mt_X7_init.2.1 77 = .ok (.laload, 1) := by decide +kernel
theorem d_X7_init_78 : decode mt_X7_init.2.1 78 = .ok (.ldc2_w 38, 3) := by decide +kernel
theorem d_X7_init_81 : decode mt_X7_init.2.1 81 = .ok (.lmul, 1) := by decide +kernel
theorem d_X7_init_82 : decode mt_X7_init.2.1 82 = .ok (.iload 4, 2) := by decide +kernel
theorem d_X7_init_84 : decode mt_X7_init.2.1 84 = .ok (.bipush 97, 2) := by decide +kernel
theorem d_X7_init_86 : decode mt_X7_init.2.1 86 = .ok (.isub, 1) := by decide +kernel
theorem d_X7_init_87 : decode mt_X7_init.2.1 87 = .ok (.iconst 1, 1) := by decide +kernel
theorem d_X7_init_88 : decode mt_X7_init.2.1 88 = .ok (.iadd, 1) := by decide +kernel
theorem d_X7_init_89 : decode mt_X7_init.2.1 89 = .ok (.i2l, 1) := by decide +kernel
theorem d_X7_init_90 : decode mt_X7_init.2.1 90 = .ok (.ladd, 1) := by decide +kernel
theorem d_X7_init_91 : decode mt_X7_init.2.1 91 = .ok (.lastore, 1) := by decide +kernel
theorem d_X7_init_92 : decode mt_X7_init.2.1 92 = .ok (.iinc 3 1, 3) := by decide +kernel
theorem d_X7_init_95 : decode mt_X7_init.2.1 95 = .ok (.goto (-64), 3) := by decide +kernel
theorem d_X7_init_98 : decode mt_X7_init.2.1 98 = .ok (.return_, 1) := by decide +kernel
theorem d_X9_init_0 : decode mt_X9_init.2.1 0 = .ok (.aload_n 0, 1) := by decide +kernel
theorem d_X9_init_1 : decode mt_X9_init.2.1 1 = .ok (.invokespecial 3, 3) := by decide +kernel
theorem d_X9_init_4 : decode mt_X9_init.2.1 4 = .ok (.aload_n 0, 1) := by decide +kernel
theorem d_X9_init_5 : decode mt_X9_init.2.1 5 = .ok (.bipush 10, 2) := by decide +kernel
theorem d_X9_init_7 : decode mt_X9_init.2.1 7 = .ok (.newarray .int, 2) := by decide +kernel
theorem d_X9_init_9 : decode mt_X9_init.2.1 9 = .ok (.putfield 9, 3) := by decide +kernel
theorem d_X9_init_12 : decode mt_X9_init.2.1 12 = .ok (.aload_n 0, 1) := by decide +kernel
theorem d_X9_init_13 : decode mt_X9_init.2.1 13 = .ok (.bipush 10, 2) := by decide +kernel
theorem d_X9_init_15 : decode mt_X9_init.2.1 15 = .ok (.newarray .int, 2) := by decide +kernel
theorem d_X9_init_17 : decode mt_X9_init.2.1 17 = .ok (.putfield 15, 3) := by decide +kernel
theorem d_X9_init_20 : decode mt_X9_init.2.1 20 = .ok (.aload_n 0, 1) := by decide +kernel
theorem d_X9_init_21 : decode mt_X9_init.2.1 21 = .ok (.bipush 10, 2) := by decide +kernel
theorem d_X9_init_23 : decode mt_X9_init.2.1 23 = .ok (.newarray .int, 2) := by decide +kernel
theorem d_X9_init_25 : decode mt_X9_init.2.1 25 = .ok (.putfield 18, 3) := by decide +kernel
theorem d_X9_init_28 : decode mt_X9_init.2.1 28 = .ok (.aload_n 0, 1) := by decide +kernel
theorem d_X9_init_29 : decode mt_X9_init.2.1 29 = .ok (.bipush 10, 2) := by decide +kernel
theorem d_X9_init_31 : decode mt_X9_init.2.1 31 = .ok (.newarray .int, 2) := by decide +kernel
theorem d_X9_init_33 : decode mt_X9_init.2.1 33 = .ok (.putfield 21, 3) := by decide +kernel
theorem d_X9_init_36 : decode mt_X9_init.2.1 36 = .ok (.aload_n 0, 1) := by decide +kernel
theorem d_X9_init_37 : decode mt_X9_init.2.1 37 = .ok (.bipush 10, 2) := by decide +kernel
theorem d_X9_init_39 : decode mt_X9_init.2.1 39 = .ok (.newarray .long, 2) := by decide +kernel
theorem d_X9_init_41 : decode mt_X9_init.2.1 41 = .ok (.putfield 24, 3) := by decide +kernel
theorem d_X9_init_44 : decode mt_X9_init.2.1 44 = .ok (.aload_n 0, 1) := by decide +kernel
theorem d_X9_init_45 : decode mt_X9_init.2.1 45 = .ok (.iconst 4, 1) := by decide +kernel
theorem d_X9_init_46 : decode mt_X9_init.2.1 46 = .ok (.newarray .int, 2) := by decide +kernel
theorem d_X9_init_48 : decode mt_X9_init.2.1 48 = .ok (.putfield 28, 3) := by decide +kernel
theorem d_X9_init_51 : decode mt_X9_init.2.1 51 = .ok (.aload_n 0, 1) := by decide +kernel
theorem d_X9_init_52 : decode mt_X9_init.2.1 52 = .ok (.iconst 4, 1) := by decide +kernel
theorem d_X9_init_53 : decode mt_X9_init.2.1 53 = .ok (.newarray .boolean, 2) := by decide +kernel
theorem d_X9_init_55 : decode mt_X9_init.2.1 55 = .ok (.putfield 31, 3) := by decide +kernel
theorem d_X9_init_58 : decode mt_X9_init.2.1 58 = .ok (.aload_n 0, 1) := by decide +kernel
theorem d_X9_init_59 : decode mt_X9_init.2.1 59 = .ok (.iconst 4, 1) := by decide +kernel
theorem d_X9_init_60 : decode mt_X9_init.2.1 60 = .ok (.newarray .long, 2) := by decide +kernel
theorem d_X9_init_62 : decode mt_X9_init.2.1 62 = .ok (.putfield 35, 3) := by decide +kernel
theorem d_X9_init_65 : decode mt_X9_init.2.1 65 = .ok (.aload_n 0, 1) := by decide +kernel
theorem d_X9_init_66 : decode mt_X9_init.2.1 66 = .ok (.bipush 8, 2) := by decide +kernel
theorem d_X9_init_68 : decode mt_X9_init.2.1 68 = .ok (.putfield 38, 3) := by decide +kernel
theorem d_X9_init_71 : decode mt_X9_init.2.1 71 = .ok (.return_, 1) := by decide +kernel
theorem d_X5_init_0 : decode mt_X5_init.2.1 0 = .ok (.aload_n 0, 1) := by decide +kernel
theorem d_X5_init_1 : decode mt_X5_init.2.1 1 = .ok (.invokespecial 3, 3) := by decide +kernel
theorem d_X5_init_4 : decode mt_X5_init.2.1 4 = .ok (.aload_n 0, 1) := by decide +kernel
theorem d_X5_init_5 : decode mt_X5_init.2.1 5 = .ok (.bipush 60, 2) := by decide +kernel
theorem d_X5_init_7 : decode mt_X5_init.2.1 7 = .ok (.newarray .int, 2) := by decide +kernel
theorem d_X5_init_9 : decode mt_X5_init.2.1 9 = .ok (.putfield 9, 3) := by decide +kernel
theorem d_X5_init_12 : decode mt_X5_init.2.1 12 = .ok (.aload_n 0, 1) := by decide +kernel
theorem d_X5_init_13 : decode mt_X5_init.2.1 13 = .ok (.bipush 60, 2) := by decide +kernel
theorem d_X5_init_15 : decode mt_X5_init.2.1 15 = .ok (.newarray .int, 2) := by decide +kernel
theorem d_X5_init_17 : decode mt_X5_init.2.1 17 = .ok (.putfield 15, 3) := by decide +kernel
theorem d_X5_init_20 : decode mt_X5_init.2.1 20 = .ok (.aload_n 0, 1) := by decide +kernel
theorem d_X5_init_21 : decode mt_X5_init.2.1 21 = .ok (.bipush 60, 2) := by decide +kernel
theorem d_X5_init_23 : decode mt_X5_init.2.1 23 = .ok (.newarray .int, 2) := by decide +kernel
theorem d_X5_init_25 : decode mt_X5_init.2.1 25 = .ok (.putfield 18, 3) := by decide +kernel
theorem d_X5_init_28 : decode mt_X5_init.2.1 28 = .ok (.aload_n 0, 1) := by decide +kernel
theorem d_X5_init_29 : decode mt_X5_init.2.1 29 = .ok (.bipush 60, 2) := by decide +kernel
theorem d_X5_init_31 : decode mt_X5_init.2.1 31 = .ok (.newarray .int, 2) := by decide +kernel
theorem d_X5_init_33 : decode mt_X5_init.2.1 33 = .ok (.putfield 21, 3) := by decide +kernel
theorem d_X5_init_36 : decode mt_X5_init.2.1 36 = .ok (.aload_n 0, 1) := by decide +kernel
theorem d_X5_init_37 : decode mt_X5_init.2.1 37 = .ok (.bipush 60, 2) := by decide +kernel
theorem d_X5_init_39 : decode mt_X5_init.2.1 39 = .ok (.newarray .int, 2) := by decide +kernel
theorem d_X5_init_41 : decode mt_X5_init.2.1 41 = .ok (.putfield 24, 3) := by decide +kernel
theorem d_X5_init_44 : decode mt_X5_init.2.1 44 = .ok (.return_, 1) := by decide +kernel
theorem d_X10_init_0 : decode mt_X10_init.2.1 0 = .ok (.aload_n 0, 1) := by decide +kernel
theorem d_X10_init_1 : decode mt_X10_init.2.1 1 = .ok (.invokespecial 3, 3) := by decide +kernel
theorem d_X10_init_4 : decode mt_X10_init.2.1 4 = .ok (.aload_n 0, 1) := by decide +kernel
theorem d_X10_init_5 : decode mt_X10_init.2.1 5 = .ok (.new 9, 3) := by decide +kernel
theorem d_X10_init_8 : decode mt_X10_init.2.1 8 = .ok (.dup, 1) := by decide +kernel
theorem d_X10_init_9 : decode mt_X10_init.2.1 9 = .ok (.invokespecial 11, 3) := by decide +kernel
theorem d_X10_init_12 : decode mt_X10_init.2.1 12 = .ok (.putfield 12, 3) := by decide +kernel
theorem d_X10_init_15 : decode mt_X10_init.2.1 15 = .ok (.aload_n 0, 1) := by decide +kernel
theorem d_X10_init_16 : decode mt_X10_init.2.1 16 = .ok (.aload_n 1, 1) := by decide +kernel
theorem d_X10_init_17 : decode mt_X10_init.2.1 17 = .ok (.putfield 18, 3) := by decide +kernel
theorem d_X10_init_20 : decode mt_X10_init.2.1 20 = .ok (.return_, 1) := by decide +kernel
theorem d_X6_init_0 : decode mt_X6_init.2.1 0 = .ok (.aload_n 0, 1) := by decide +kernel
theorem d_X6_init_1 : decode mt_X6_init.2.1 1 = .ok (.invokespecial 3, 3) := by decide +kernel
theorem d_X6_init_4 : decode mt_X6_init.2.1 4 = .ok (.aload_n 0, 1) := by decide +kernel
theorem d_X6_init_5 : decode mt_X6_init.2.1 5 = .ok (.new 9, 3) := by decide +kernel
theorem d_X6_init_8 : decode mt_X6_init.2.1 8 = .ok (.dup, 1) := by decide +kernel
theorem d_X6_init_9 : decode mt_X6_init.2.1 9 = .ok (.invokespecial 11, 3) := by decide +kernel
theorem d_X6_init_12 : decode mt_X6_init.2.1 12 = .ok (.putfield 12, 3) := by decide +kernel
theorem d_X6_init_15 : decode mt_X6_init.2.1 15 = .ok (.aload_n 0, 1) := by decide +kernel
theorem d_X6_init_16 : decode mt_X6_init.2.1 16 = .ok (.iconst 3, 1) := by decide +kernel
theorem d_X6_init_17 : decode mt_X6_init.2.1 17 = .ok (.newarray .int, 2) := by decide +kernel
theorem d_X6_init_19 : decode mt_X6_init.2.1 19 = .ok (.putfield 18, 3) := by decide +kernel
theorem d_X6_init_22 : decode mt_X6_init.2.1 22 = .ok (.aload_n 0, 1) := by decide +kernel
theorem d_X6_init_23 : decode mt_X6_init.2.1 23 = .ok (.aload_n 1, 1) := by decide +kernel
theorem d_X6_init_24 : decode mt_X6_init.2.1 24 = .ok (.putfield 22, 3) := by decide +kernel
theorem d_X6_init_27 : decode mt_X6_init.2.1 27 = .ok (.aload_n 0, 1) := by decide +kernel
theorem d_X6_init_28 : decode mt_X6_init.2.1 28 = .ok (.aload_n 2, 1) := by decide +kernel
theorem d_X6_init_29 : decode mt_X6_init.2.1 29 = .ok (.putfield 26, 3) := by decide +kernel
theorem d_X6_init_32 : decode mt_X6_init.2.1 32 = .ok (.return_, 1) := by decide +kernel
theorem d_X4_init_0 : decode mt_X4_init.2.1 0 = .ok (.aload_n 0, 1) := by decide +kernel
theorem d_X4_init_1 : decode mt_X4_init.2.1 1 = .ok (.invokespecial 3, 3) := by decide +kernel
theorem d_X4_init_4 : decode mt_X4_init.2.1 4 = .ok (.aload_n 0, 1) := by decide +kernel
theorem d_X4_init_5 : decode mt_X4_init.2.1 5 = .ok (.bipush 60, 2) := by decide +kernel
theorem d_X4_init_7 : decode mt_X4_init.2.1 7 = .ok (.newarray .int, 2) := by decide +kernel
theorem d_X4_init_9 : decode mt_X4_init.2.1 9 = .ok (.putfield 9, 3) := by decide +kernel
theorem d_X4_init_12 : decode mt_X4_init.2.1 12 = .ok (.aload_n 0, 1) := by decide +kernel
theorem d_X4_init_13 : decode mt_X4_init.2.1 13 = .ok (.aload_n 1, 1) := by decide +kernel
theorem d_X4_init_14 : decode mt_X4_init.2.1 14 = .ok (.putfield 15, 3) := by decide +kernel
theorem d_X4_init_17 : decode mt_X4_init.2.1 17 = .ok (.aload_n 0, 1) := by decide +kernel
theorem d_X4_init_18 : decode mt_X4_init.2.1 18 = .ok (.aload_n 2, 1) := by decide +kernel
theorem d_X4_init_19 : decode mt_X4_init.2.1 19 = .ok (.putfield 19, 3) := by decide +kernel
theorem d_X4_init_22 : decode mt_X4_init.2.1 22 = .ok (.return_, 1) := by decide +kernel
theorem d_X3_init_0 : decode mt_X3_init.2.1 0 = .ok (.aload_n 0, 1) := by decide +kernel
theorem d_X3_init_1 : decode mt_X3_init.2.1 1 = .ok (.invokespecial 3, 3) := by decide +kernel
theorem d_X3_init_4 : decode mt_X3_init.2.1 4 = .ok (.return_, 1) := by decide +kernel
theorem d_X0_init_0 : decode mt_X0_init.2.1 0 = .ok (.aload_n 0, 1) := by decide +kernel
theorem d_X0_init_1 : decode mt_X0_init.2.1 1 = .ok (.invokespecial 3, 3) := by decide +kernel
theorem d_X0_init_4 : decode mt_X0_init.2.1 4 = .ok (.aload_n 0, 1) := by decide +kernel
theorem d_X0_init_5 : decode mt_X0_init.2.1 5 = .ok (.bipush 6, 2) := by decide +kernel
theorem d_X0_init_7 : decode mt_X0_init.2.1 7 = .ok (.newarray .int, 2) := by decide +kernel
theorem d_X0_init_9 : decode mt_X0_init.2.1 9 = .ok (.putfield 9, 3) := by decide +kernel
theorem d_X0_init_12 : decode mt_X0_init.2.1 12 = .ok (.aload_n 0, 1) := by decide +kernel
theorem d_X0_init_13 : decode mt_X0_init.2.1 13 = .ok (.bipush 6, 2) := by decide +kernel
theorem d_X0_init_15 : decode mt_X0_init.2.1 15 = .ok (.newarray .boolean, 2) := by decide +kernel
theorem d_X0_init_17 : decode mt_X0_init.2.1 17 = .ok (.putfield 15, 3) := by decide +kernel
theorem d_X0_init_20 : decode mt_X0_init.2.1 20 = .ok (.aload_n 0, 1) := by decide +kernel
theorem d_X0_init_21 : decode mt_X0_init.2.1 21 = .ok (.bipush 6, 2) := by decide +kernel
theorem d_X0_init_23 : decode mt_X0_init.2.1 23 = .ok (.newarray .int, 2) := by decide +kernel
theorem d_X0_init_25 : decode mt_X0_init.2.1 25 = .ok (.putfield 19, 3) := by decide +kernel
theorem d_X0_init_28 : decode mt_X0_init.2.1 28 = .ok (.return_, 1) := by decide +kernel
theorem d_X1_init_0 : decode mt_X1_init.2.1 0 = .ok (.aload_n 0, 1) := by decide +kernel
theorem d_X1_init_1 : decode mt_X1_init.2.1 1 = .ok (.invokespecial 3, 3) := by decide +kernel
theorem d_X1_init_4 : decode mt_X1_init.2.1 4 = .ok (.aload_n 0, 1) := by decide +kernel
theorem d_X1_init_5 : decode mt_X1_init.2.1 5 = .ok (.aload_n 1, 1) := by decide +kernel
theorem d_X1_init_6 : decode mt_X1_init.2.1 6 = .ok (.putfield 9, 3) := by decide +kernel
theorem d_X1_init_9 : decode mt_X1_init.2.1 9 = .ok (.return_, 1) := by decide +kernel
theorem d_X2_init_0 : decode mt_X2_init.2.1 0 = .ok (.aload_n 0, 1) := by decide +kernel
theorem d_X2_init_1 : decode mt_X2_init.2.1 1 = .ok (.invokespecial 3, 3) := by decide +kernel
theorem d_X2_init_4 : decode mt_X2_init.2.1 4 = .ok (.aload_n 0, 1) := by decide +kernel
theorem d_X2_init_5 : decode mt_X2_init.2.1 5 = .ok (.lconst 1, 1) := by decide +kernel
theorem d_X2_init_6 : decode mt_X2_init.2.1 6 = .ok (.putfield 9, 3) := by decide +kernel
theorem d_X2_init_9 : decode mt_X2_init.2.1 9 = .ok (.return_, 1) := by decide +kernel
theorem d_X8_init_0 : decode mt_X8_init.2.1 0 = .ok (.aload_n 0, 1) := by decide +kernel
theorem d_X8_init_1 : decode mt_X8_init.2.1 1 = .ok (.invokespecial 3, 3) := by decide +kernel
theorem d_X8_init_4 : decode mt_X8_init.2.1 4 = .ok (.aload_n 0, 1) := by decide +kernel
theorem d_X8_init_5 : decode mt_X8_init.2.1 5 = .ok (.bipush 60, 2) := by decide +kernel
theorem d_X8_init_7 : decode mt_X8_init.2.1 7 = .ok (.newarray .long, 2) := by decide +kernel
theorem d_X8_init_9 : decode mt_X8_init.2.1 9 = .ok (.putfield 9, 3) := by decide +kernel
theorem d_X8_init_12 : decode mt_X8_init.2.1 12 = .ok (.aload_n 0, 1) := by decide +kernel
theorem d_X8_init_13 : decode mt_X8_init.2.1 13 = .ok (.iconst (-1), 1) := by decide +kernel
theorem d_X8_init_14 : decode mt_X8_init.2.1 14 = .ok (.putfield 15, 3) := by decide +kernel
theorem d_X8_init_17 : decode mt_X8_init.2.1 17 = .ok (.return_, 1) := by decide +kernel
theorem d_X12_init_0 : decode mt_X12_init.2.1 0 = .ok (.aload_n 0, 1) := by decide +kernel
theorem d_X12_init_1 : decode mt_X12_init.2.1 1 = .ok (.invokespecial 1, 3) := by decide +kernel
theorem d_X12_init_4 : decode mt_X12_init.2.1 4 = .ok (.aload_n 0, 1) := by decide +kernel
theorem d_X12_init_5 : decode mt_X12_init.2.1 5 = .ok (.lconst 1, 1) := by decide +kernel
theorem d_X12_init_6 : decode mt_X12_init.2.1 6 = .ok (.putfield 7, 3) := by decide +kernel
theorem d_X12_init_9 : decode mt_X12_init.2.1 9 = .ok (.aload_n 0, 1) := by decide +kernel
theorem d_X12_init_10 : decode mt_X12_init.2.1 10 = .ok (.iconst 4, 1) := by decide +kernel
theorem d_X12_init_11 : decode mt_X12_init.2.1 11 = .ok (.newarray .int, 2) := by decide +kernel
theorem d_X12_init_13 : decode mt_X12_init.2.1 13 = .ok (.putfield 13, 3) := by decide +kernel
theorem d_X12_init_16 : decode mt_X12_init.2.1 16 = .ok (.aload_n 0, 1) := by decide +kernel
theorem d_X12_init_17 : decode mt_X12_init.2.1 17 = .ok (.iconst 4, 1) := by decide +kernel
theorem d_X12_init_18 : decode mt_X12_init.2.1 18 = .ok (.newarray .int, 2) := by decide +kernel
theorem d_X12_init_20 : decode mt_X12_init.2.1 20 = .ok (.putfield 17, 3) := by decide +kernel
theorem d_X12_init_23 : decode mt_X12_init.2.1 23 = .ok (.aload_n 0, 1) := by decide +kernel
theorem d_X12_init_24 : decode mt_X12_init.2.1 24 = .ok (.sipush 240, 3) := by decide +kernel
theorem d_X12_init_27 : decode mt_X12_init.2.1 27 = .ok (.newarray .long, 2) := by decide +kernel
theorem d_X12_init_29 : decode mt_X12_init.2.1 29 = .ok (.putfield 20, 3) := by decide +kernel
theorem d_X12_init_32 : decode mt_X12_init.2.1 32 = .ok (.aload_n 0, 1) := by decide +kernel
theorem d_X12_init_33 : decode mt_X12_init.2.1 33 = .ok (.sipush 900, 3) := by decide +kernel
theorem d_X12_init_36 : decode mt_X12_init.2.1 36 = .ok (.newarray .byte, 2) := by decide +kernel
theorem d_X12_init_38 : decode mt_X12_init.2.1 38 = .ok (.putfield 24, 3) := by decide +kernel
theorem d_X12_init_41 : decode mt_X12_init.2.1 41 = .ok (.aload_n 0, 1) := by decide +kernel
theorem d_X12_init_42 : decode mt_X12_init.2.1 42 = .ok (.iconst (-1), 1) := by decide +kernel
theorem d_X12_init_43 : decode mt_X12_init.2.1 43 = .ok (.putfield 28, 3) := by decide +kernel
theorem d_X12_init_46 : decode mt_X12_init.2.1 46 = .ok (.aload_n 0, 1) := by decide +kernel
theorem d_X12_init_47 : decode mt_X12_init.2.1 47 = .ok (.iconst (-1), 1) := by decide +kernel
theorem d_X12_init_48 : decode mt_X12_init.2.1 48 = .ok (.putfield 32, 3) := by decide +kernel
theorem d_X12_init_51 : decode mt_X12_init.2.1 51 = .ok (.aload_n 0, 1) := by decide +kernel
theorem d_X12_init_52 : decode mt_X12_init.2.1 52 = .ok (.sipush 1635, 3) := by decide +kernel
theorem d_X12_init_55 : decode mt_X12_init.2.1 55 = .ok (.newarray .int, 2) := by decide +kernel
theorem d_X12_init_57 : decode mt_X12_init.2.1 57 = .ok (.putfield 35, 3) := by decide +kernel
theorem d_X12_init_60 : decode mt_X12_init.2.1 60 = .ok (.aload_n 0, 1) := by decide +kernel
theorem d_X12_init_61 : decode mt_X12_init.2.1 61 = .ok (.bipush 55, 2) := by decide +kernel
theorem d_X12_init_63 : decode mt_X12_init.2.1 63 = .ok (.newarray .int, 2) := by decide +kernel
theorem d_X12_init_65 : decode mt_X12_init.2.1 65 = .ok (.putfield 38, 3) := by decide +kernel
theorem d_X12_init_68 : decode mt_X12_init.2.1 68 = .ok (.aload_n 0, 1) := by decide +kernel
theorem d_X12_init_69 : decode mt_X12_init.2.1 69 = .ok (.bipush 70, 2) := by decide +kernel
theorem d_X12_init_71 : decode mt_X12_init.2.1 71 = .ok (.newarray .long, 2) := by decide +kernel
theorem d_X12_init_73 : decode mt_X12_init.2.1 73 = .ok (.putfield 41, 3) := by decide +kernel
theorem d_X12_init_76 : decode mt_X12_init.2.1 76 = .ok (.aload_n 0, 1) := by decide +kernel
theorem d_X12_init_77 : decode mt_X12_init.2.1 77 = .ok (.bipush 10, 2) := by decide +kernel
theorem d_X12_init_79 : decode mt_X12_init.2.1 79 = .ok (.newarray .int, 2) := by decide +kernel
theorem d_X12_init_81 : decode mt_X12_init.2.1 81 = .ok (.putfield 44, 3) := by decide +kernel
theorem d_X12_init_84 : decode mt_X12_init.2.1 84 = .ok (.aload_n 0, 1) := by decide +kernel
theorem d_X12_init_85 : decode mt_X12_init.2.1 85 = .ok (.bipush 61, 2) := by decide +kernel
theorem d_X12_init_87 : decode mt_X12_init.2.1 87 = .ok (.newarray .boolean, 2) := by decide +kernel
theorem d_X12_init_89 : decode mt_X12_init.2.1 89 = .ok (.putfield 47, 3) := by decide +kernel
theorem d_X12_init_92 : decode mt_X12_init.2.1 92 = .ok (.aload_n 0, 1) := by decide +kernel
theorem d_X12_init_93 : decode mt_X12_init.2.1 93 = .ok (.bipush 6, 2) := by decide +kernel
theorem d_X12_init_95 : decode mt_X12_init.2.1 95 = .ok (.newarray .int, 2) := by decide +kernel
theorem d_X12_init_97 : decode mt_X12_init.2.1 97 = .ok (.putfield 51, 3) := by decide +kernel
theorem d_X12_init_100 : decode mt_X12_init.2.1 100 = .ok (.aload_n 0, 1) := by decide +kernel
theorem d_X12_init_101 : decode mt_X12_init.2.1 101 = .ok (.bipush 6, 2) := by decide +kernel
theorem d_X12_init_103 : decode mt_X12_init.2.1 103 = .ok (.newarray .int, 2) := by decide +kernel
theorem d_X12_init_105 : decode mt_X12_init.2.1 105 = .ok (.putfield 54, 3) := by decide +kernel
theorem d_X12_init_108 : decode mt_X12_init.2.1 108 = .ok (.aload_n 0, 1) := by decide +kernel
theorem d_X12_init_109 : decode mt_X12_init.2.1 109 = .ok (.bipush 10, 2) := by decide +kernel
theorem d_X12_init_111 : decode mt_X12_init.2.1 111 = .ok (.newarray .int, 2) := by decide +kernel
theorem d_X12_init_113 : decode mt_X12_init.2.1 113 = .ok (.putfield 57, 3) := by decide +kernel
theorem d_X12_init_116 : decode mt_X12_init.2.1 116 = .ok (.aload_n 0, 1) := by decide +kernel
theorem d_X12_init_117 : decode mt_X12_init.2.1 117 = .ok (.bipush 11, 2) := by decide +kernel
theorem d_X12_init_119 : decode mt_X12_init.2.1 119 = .ok (.newarray .long, 2) := by decide +kernel
theorem d_X12_init_121 : decode mt_X12_init.2.1 121 = .ok (.putfield 60, 3) := by decide +kernel
theorem d_X12_init_124 : decode mt_X12_init.2.1 124 = .ok (.aload_n 0, 1) := by decide +kernel
theorem d_X12_init_125 : decode mt_X12_init.2.1 125 = .ok (.iconst 5, 1) := by decide +kernel
theorem d_X12_init_126 : decode mt_X12_init.2.1 126 = .ok (.newarray .int, 2) := by decide +kernel
theorem d_X12_init_128 : decode mt_X12_init.2.1 128 = .ok (.putfield 63, 3) := by decide +kernel
theorem d_X12_init_131 : decode mt_X12_init.2.1 131 = .ok (.iconst 0, 1) := by decide +kernel
theorem d_X12_init_132 : decode mt_X12_init.2.1 132 = .ok (.istore_n 1, 1) := by decide +kernel
theorem d_X12_init_133 : decode mt_X12_init.2.1 133 = .ok (.iload_n 1, 1) := by decide +kernel
theorem d_X12_init_134 : decode mt_X12_init.2.1 134 = .ok (.iconst 4, 1) := by decide +kernel
theorem d_X12_init_135 : decode mt_X12_init.2.1 135 = .ok (.if_icmp .ge 16, 3) := by decide +kernel
theorem d_X12_init_138 : decode mt_X12_init.2.1 138 = .ok (.aload_n 0, 1) := by decide +kernel
theorem d_X12_init_139 : decode mt_X12_init.2.1 139 = .ok (.getfield 17, 3) := by decide +kernel
theorem d_X12_init_142 : decode mt_X12_init.2.1 142 = .ok (.iload_n 1, 1) := by decide +kernel
theorem d_X12_init_143 : decode mt_X12_init.2.1 143 = .ok (.iconst (-1), 1) := by decide +kernel
theorem d_X12_init_144 : decode mt_X12_init.2.1 144 = .ok (.iastore, 1) := by decide +kernel
theorem d_X12_init_145 : decode mt_X12_init.2.1 145 = .ok (.iinc 1 1, 3) := by decide +kernel
theorem d_X12_init_148 : decode mt_X12_init.2.1 148 = .ok (.goto (-15), 3) := by decide +kernel
theorem d_X12_init_151 : decode mt_X12_init.2.1 151 = .ok (.aload_n 0, 1) := by decide +kernel
theorem d_X12_init_152 : decode mt_X12_init.2.1 152 = .ok (.iconst 0, 1) := by decide +kernel
theorem d_X12_init_153 : decode mt_X12_init.2.1 153 = .ok (.invokevirtual 66, 3) := by decide +kernel
theorem d_X12_init_156 : decode mt_X12_init.2.1 156 = .ok (.return_, 1) := by decide +kernel
set_option maxRecDepth 20000 in
theorem wj_335 : Cond.methodLink "java/lang/String" 335 mt_JS_coder.1 ∈ lw_tbl := tb_1 _ (List.mem_of_getElem? (i := 42) rfl)
set_option maxRecDepth 20000 in
theorem wj_492 : Cond.methodLink "java/lang/String" 492 mt_JS_isLatin1.1 ∈ lw_tbl := tb_1 _ (List.mem_of_getElem? (i := 52) rfl)
set_option maxRecDepth 20000 in
theorem nl_JS_495 : NL "java/lang/String" 495 mt_JL_charAt.1 := Or.inl (tb_1 _ (List.mem_of_getElem? (i := 56) rfl))
set_option maxRecDepth 20000 in
theorem nl_JL_9 : NL "java/lang/StringLatin1" 9 mt_JS_checkIndex.1 := Or.inl (tb_1 _ (List.mem_of_getElem? (i := 59) rfl))
set_option maxRecDepth 20000 in
theorem nl_JS_1059 : NL "java/lang/String" 1059 mt_JP_checkIndex.1 := Or.inl (tb_1 _ (List.mem_of_getElem? (i := 64) rfl))
set_option maxRecDepth 20000 in
theorem wj_9 : Cond.fieldLink "java/lang/String" 9 "java/lang/String" "value" "[B" ∈ lw_tbl := tb_9 _ (List.mem_of_getElem? (i := 163) rfl)
set_option maxRecDepth 20000 in
theorem wj_15 : Cond.fieldLink "java/lang/String" 15 "java/lang/String" "coder" "B" ∈ lw_tbl := tb_9 _ (List.mem_of_getElem? (i := 164) rfl)
set_option maxRecDepth 20000 in
theorem wj_38 : Cond.fieldLink "java/lang/String" 38 "java/lang/String" "COMPACT_STRINGS" "Z" ∈ lw_tbl := tb_1 _ (List.mem_of_getElem? (i := 46) rfl)
set_option maxRecDepth 20000 in
theorem wj_1053 : Cond.fieldLink "java/lang/String" 1053 "jdk/internal/util/Preconditions" "SIOOBE_FORMATTER" "Ljava/util/function/BiFunction;" ∈ lw_tbl := tb_1 _ (List.mem_of_getElem? (i := 62) rfl)
section
variable {sh : Shp} {σ : Mem}
theorem C_JS_coder : Cn mt_JS_coder 1 [(4, 0)] sh σ (some (0, 0)) sh σ := by
  refine Cn_of mk_JS_coder.1.2.2.1 (Nat.le_of_ble_eq_true rfl) (fun sc => ?_)
  refine E_statC d_JS_coder_0 wj_38 ?_
  refine E_ifeq_f (tgt := 13) d_JS_coder_3 (by decide) (by decide) ?_
  refine E_aload_n d_JS_coder_6 rfl (by decide) ?_
  refine E_getTc d_JS_coder_7 wj_15 ?_
  refine E_goto (tgt := 14) d_JS_coder_10 (by decide) ?_
  exact E_bret d_JS_coder_14 rfl rfl
theorem C_JS_isLatin1 : Cn mt_JS_isLatin1 1 [(4, 0)] sh σ (some (0, 1)) sh σ := by
  refine Cn_of mk_JS_isLatin1.1.2.2.1 (Nat.le_of_ble_eq_true rfl) (fun sc => ?_)
  refine E_statC d_JS_isLatin1_0 wj_38 ?_
  refine E_ifeq_f (tgt := 17) d_JS_isLatin1_3 (by decide) (by decide) ?_
  refine E_aload_n d_JS_isLatin1_6 rfl (by decide) ?_
  refine E_getTc d_JS_isLatin1_7 wj_15 ?_
  refine E_ifne_f (tgt := 17) d_JS_isLatin1_10 (by decide) rfl ?_
  refine E_iconst d_JS_isLatin1_13 (c32 rfl) ?_
  refine E_goto (tgt := 18) d_JS_isLatin1_14 (by decide) ?_
  exact E_zret d_JS_isLatin1_18 rfl (Or.inr rfl)
theorem C_JS_length : Cn mt_JS_length 2 [(4, 0)] sh σ (some (0, 120)) sh σ := by
  have e : ishr 120 0 = 120 := by decide +kernel
  rw [← e]
  refine Cn_of mk_JS_length.1.2.2.1 (Nat.le_of_ble_eq_true rfl) (fun sc => ?_)
  refine E_aload_n d_JS_length_0 rfl (by decide) ?_
  refine E_getTv d_JS_length_1 wj_9 ?_
  refine E_lenT d_JS_length_4 ?_
  refine E_aload_n d_JS_length_5 rfl (by decide) ?_
  refine E_invT (as := []) (st := [(0, 120)]) (a := 0) d_JS_length_6 mk_JS_coder wj_335 (by omega) ⟨rfl, rfl, Nat.le_of_ble_eq_true rfl⟩ rfl C_JS_coder ?_
  refine E_ishr d_JS_length_9 ?_
  exact E_iret d_JS_length_10 rfl
theorem C_JP_checkIndex {i n : Int} (hi : 0 ≤ i ∧ i < n) : Cn mt_JP_checkIndex 1 [(0, i), (0, n), (6, 0)] sh σ (some (0, i)) sh σ := by
  refine Cn_of mk_JP_checkIndex.1.2.2.1 (Nat.le_of_ble_eq_true rfl) (fun sc => ?_)
  refine E_iload_n d_JP_checkIndex_0 rfl ?_
  refine E_iflt_f (tgt := 9) d_JP_checkIndex_1 (by decide) (by omega) ?_
  refine E_iload_n d_JP_checkIndex_4 rfl ?_
  refine E_iload_n d_JP_checkIndex_5 rfl ?_
  refine E_icmplt_t (tgt := 16) d_JP_checkIndex_6 (by decide) hi.2 ?_
  refine E_iload_n d_JP_checkIndex_16 rfl ?_
  exact E_iret d_JP_checkIndex_17 rfl
theorem C_JS_checkIndex {i n : Int} (hi : 0 ≤ i ∧ i < n) : Cn mt_JS_checkIndex 2 [(0, i), (0, n)] sh σ none sh σ := by
  refine Cn_of mk_JS_checkIndex.1.2.2.1 (Nat.le_of_ble_eq_true rfl) (fun sc => ?_)
  refine E_iload_n d_JS_checkIndex_0 rfl ?_
  refine E_iload_n d_JS_checkIndex_1 rfl ?_
  refine E_statF d_JS_checkIndex_2 wj_1053 ?_
  refine E_cS (as := [(0, i), (0, n), (6, 0)]) (st := []) d_JS_checkIndex_5 mk_JP_checkIndex nl_JS_1059 (by omega) ⟨rfl, rfl, Nat.le_of_ble_eq_true rfl⟩ (C_JP_checkIndex hi) ?_
  refine E_popT d_JS_checkIndex_8 (by decide) ?_
  exact E_vret d_JS_checkIndex_9 rfl
/-- the char at a place of the text -/
def txC (i : Int) : Int := i2c (iand (txN i) 255)
theorem C_JL_charAt {i : Int} (hi : 0 ≤ i ∧ i < 120) : Cn mt_JL_charAt 3 [(5, 0), (0, i)] sh σ (some (0, txC i)) sh σ := by
  refine Cn_of mk_JL_charAt.1.2.2.1 (Nat.le_of_ble_eq_true rfl) (fun sc => ?_)
  refine E_iload_n d_JL_charAt_0 rfl ?_
  refine E_aload_n d_JL_charAt_1 rfl (by decide) ?_
  refine E_lenT d_JL_charAt_2 ?_
  refine E_cSv (as := [(0, i), (0, 120)]) (st := []) d_JL_charAt_3 mk_JS_checkIndex nl_JL_9 (by omega) ⟨rfl, rfl, Nat.le_of_ble_eq_true rfl⟩ (C_JS_checkIndex hi) ?_
  refine E_aload_n d_JL_charAt_6 rfl (by decide) ?_
  refine E_iload_n d_JL_charAt_7 rfl ?_
  refine E_balT d_JL_charAt_8 hi ?_
  refine E_sipush d_JL_charAt_9 (c16 rfl) ?_
  refine E_iand d_JL_charAt_12 ?_
  refine E_i2c d_JL_charAt_13 ?_
  exact E_cret d_JL_charAt_14 rfl rfl
theorem C_JS_charAt {i : Int} (hi : 0 ≤ i ∧ i < 120) : Cn mt_JS_charAt 4 [(4, 0), (0, i)] sh σ (some (0, txC i)) sh σ := by
  refine Cn_of mk_JS_charAt.1.2.2.1 (Nat.le_of_ble_eq_true rfl) (fun sc => ?_)
  refine E_aload_n d_JS_charAt_0 rfl (by decide) ?_
  refine E_invT (as := []) (st := []) (a := 0) d_JS_charAt_1 mk_JS_isLatin1 wj_492 (by omega) ⟨rfl, rfl, Nat.le_of_ble_eq_true rfl⟩ rfl C_JS_isLatin1 ?_
  refine E_ifeq_f (tgt := 16) d_JS_charAt_4 (by decide) (by decide) ?_
  refine E_aload_n d_JS_charAt_7 rfl (by decide) ?_
  refine E_getTv d_JS_charAt_8 wj_9 ?_
  refine E_iload_n d_JS_charAt_11 rfl ?_
  refine E_cS (as := [(5, 0), (0, i)]) (st := []) d_JS_charAt_12 mk_JL_charAt nl_JS_495 (by omega) ⟨rfl, rfl, Nat.le_of_ble_eq_true rfl⟩ (C_JL_charAt hi) ?_
  exact E_cret (y := iand (txN i) 255) d_JS_charAt_15 rfl rfl
end
