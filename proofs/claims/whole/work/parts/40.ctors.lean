def tgO (t : FieldType) : Nat := match t with
  | .long => 1
  | .object _ => 2
  | .array _ => 2
  | .float => 9
  | .double => 9
  | _ => 0
theorem dv_cv {t : FieldType} {k : Nat} (h : tgO t = k) (h9 : k ≠ 9) (ad : Nat → Nat) (z : Ats) : defaultValue t = cv ad z (k, if k = 2 then -1 else 0) := by
  subst h
  cases t <;> first | rfl | exact congrArg Value.int i32_zero.symm | exact absurd rfl h9 | (exact congrArg Value.long (by decide +kernel))
theorem okD_of {ci N : Nat} {ty : Nat → FieldType} (hci : ci < 20) (h : ∀ j, j < N → tgO (ty j) = ftag ci j ∧ ftag ci j ≠ 9) : okD ci N ty := by
  intro ad z j hj
  rw [ktag_obj hci]
  exact dv_cv (h j hj).1 (h j hj).2 ad z
theorem isO_last {sh : Shp} {k N n : Nat} (hn : n = sh.length) (hN : N = nf k) : isO (sh ++ [(k, N)]) k (n : Int) = true := by
  subst hn; subst hN
  refine isO_iff.mpr ⟨by omega, ?_⟩
  rw [Int.toNat_natCast, List.getElem?_append_right (Nat.le_refl _), Nat.sub_self]
  rfl
theorem okD0 : okD 0 10 tyX0 := okD_of (by decide) (by decide +kernel)
theorem okD1 : okD 1 5 tyX1 := okD_of (by decide) (by decide +kernel)
theorem okD2 : okD 2 2 tyX2 := okD_of (by decide) (by decide +kernel)
theorem okD3 : okD 3 4 tyX3 := okD_of (by decide) (by decide +kernel)
theorem okD4 : okD 4 10 tyX4 := okD_of (by decide) (by decide +kernel)
theorem okD5 : okD 5 8 tyX5 := okD_of (by decide) (by decide +kernel)
theorem okD6 : okD 6 6 tyX6 := okD_of (by decide) (by decide +kernel)
theorem okD7 : okD 7 12 tyX7 := okD_of (by decide) (by decide +kernel)
theorem okD8 : okD 8 3 tyX8 := okD_of (by decide) (by decide +kernel)
theorem okD9 : okD 9 16 tyX9 := okD_of (by decide) (by decide +kernel)
theorem okD10 : okD 10 3 tyX10 := okD_of (by decide) (by decide +kernel)
theorem okD11 : okD 11 20 tyX11 := okD_of (by decide) (by decide +kernel)
theorem okD12 : okD 12 45 tyX12 := okD_of (by decide) (by decide +kernel)
set_option maxRecDepth 20000 in
theorem aw_int : Cond.arrayClass .int ∈ lw_tbl := tb_1 _ (List.mem_of_getElem? (i := 215) rfl)
set_option maxRecDepth 20000 in
theorem aw_long : Cond.arrayClass .long ∈ lw_tbl := tb_1 _ (List.mem_of_getElem? (i := 132) rfl)
set_option maxRecDepth 20000 in
theorem aw_byte : Cond.arrayClass .byte ∈ lw_tbl := tb_1 _ (List.mem_of_getElem? (i := 131) rfl)
set_option maxRecDepth 20000 in
theorem aw_boolean : Cond.arrayClass .boolean ∈ lw_tbl := tb_1 _ (List.mem_of_getElem? (i := 216) rfl)
set_option maxRecDepth 20000 in
theorem ow_X11 : Cond.methodLink "ParapetCourt" 3 Lib.objectInit ∈ lw_tbl ∧ Cond.instanceMethod Lib.objectInit ∈ lw_tbl ∧ Cond.code Lib.objectInit ⟨#[0xb1]⟩ 1 none ∈ lw_tbl := ⟨tb_1 _ (List.mem_of_getElem? (i := 26) rfl), tb_1 _ (List.mem_of_getElem? (i := 27) rfl), tb_1 _ (List.mem_of_getElem? (i := 28) rfl)⟩
set_option maxRecDepth 20000 in
theorem ow_X7 : Cond.methodLink "ParapetCourt$Text" 3 Lib.objectInit ∈ lw_tbl ∧ Cond.instanceMethod Lib.objectInit ∈ lw_tbl ∧ Cond.code Lib.objectInit ⟨#[0xb1]⟩ 1 none ∈ lw_tbl := ⟨tb_1 _ (List.mem_of_getElem? (i := 36) rfl), tb_1 _ (List.mem_of_getElem? (i := 27) rfl), tb_1 _ (List.mem_of_getElem? (i := 28) rfl)⟩
set_option maxRecDepth 20000 in
theorem ow_X9 : Cond.methodLink "ParapetCourt$Wall" 3 Lib.objectInit ∈ lw_tbl ∧ Cond.instanceMethod Lib.objectInit ∈ lw_tbl ∧ Cond.code Lib.objectInit ⟨#[0xb1]⟩ 1 none ∈ lw_tbl := ⟨tb_1 _ (List.mem_of_getElem? (i := 138) rfl), tb_1 _ (List.mem_of_getElem? (i := 27) rfl), tb_1 _ (List.mem_of_getElem? (i := 28) rfl)⟩
set_option maxRecDepth 20000 in
theorem ow_X5 : Cond.methodLink "ParapetCourt$Terms" 3 Lib.objectInit ∈ lw_tbl ∧ Cond.instanceMethod Lib.objectInit ∈ lw_tbl ∧ Cond.code Lib.objectInit ⟨#[0xb1]⟩ 1 none ∈ lw_tbl := ⟨tb_1 _ (List.mem_of_getElem? (i := 222) rfl), tb_1 _ (List.mem_of_getElem? (i := 27) rfl), tb_1 _ (List.mem_of_getElem? (i := 28) rfl)⟩
set_option maxRecDepth 20000 in
theorem ow_X10 : Cond.methodLink "ParapetCourt$WallReader" 3 Lib.objectInit ∈ lw_tbl ∧ Cond.instanceMethod Lib.objectInit ∈ lw_tbl ∧ Cond.code Lib.objectInit ⟨#[0xb1]⟩ 1 none ∈ lw_tbl := ⟨tb_2 _ (List.mem_of_getElem? (i := 24) rfl), tb_1 _ (List.mem_of_getElem? (i := 27) rfl), tb_1 _ (List.mem_of_getElem? (i := 28) rfl)⟩
set_option maxRecDepth 20000 in
theorem ow_X6 : Cond.methodLink "ParapetCourt$TermsReader" 3 Lib.objectInit ∈ lw_tbl ∧ Cond.instanceMethod Lib.objectInit ∈ lw_tbl ∧ Cond.code Lib.objectInit ⟨#[0xb1]⟩ 1 none ∈ lw_tbl := ⟨tb_2 _ (List.mem_of_getElem? (i := 43) rfl), tb_1 _ (List.mem_of_getElem? (i := 27) rfl), tb_1 _ (List.mem_of_getElem? (i := 28) rfl)⟩
set_option maxRecDepth 20000 in
theorem ow_X4 : Cond.methodLink "ParapetCourt$Life" 3 Lib.objectInit ∈ lw_tbl ∧ Cond.instanceMethod Lib.objectInit ∈ lw_tbl ∧ Cond.code Lib.objectInit ⟨#[0xb1]⟩ 1 none ∈ lw_tbl := ⟨tb_2 _ (List.mem_of_getElem? (i := 73) rfl), tb_1 _ (List.mem_of_getElem? (i := 27) rfl), tb_1 _ (List.mem_of_getElem? (i := 28) rfl)⟩
set_option maxRecDepth 20000 in
theorem ow_X3 : Cond.methodLink "ParapetCourt$Guess" 3 Lib.objectInit ∈ lw_tbl ∧ Cond.instanceMethod Lib.objectInit ∈ lw_tbl ∧ Cond.code Lib.objectInit ⟨#[0xb1]⟩ 1 none ∈ lw_tbl := ⟨tb_2 _ (List.mem_of_getElem? (i := 116) rfl), tb_1 _ (List.mem_of_getElem? (i := 27) rfl), tb_1 _ (List.mem_of_getElem? (i := 28) rfl)⟩
set_option maxRecDepth 20000 in
theorem ow_X0 : Cond.methodLink "ParapetCourt$Cutter" 3 Lib.objectInit ∈ lw_tbl ∧ Cond.instanceMethod Lib.objectInit ∈ lw_tbl ∧ Cond.code Lib.objectInit ⟨#[0xb1]⟩ 1 none ∈ lw_tbl := ⟨tb_2 _ (List.mem_of_getElem? (i := 139) rfl), tb_1 _ (List.mem_of_getElem? (i := 27) rfl), tb_1 _ (List.mem_of_getElem? (i := 28) rfl)⟩
set_option maxRecDepth 20000 in
theorem ow_X1 : Cond.methodLink "ParapetCourt$Debate" 3 Lib.objectInit ∈ lw_tbl ∧ Cond.instanceMethod Lib.objectInit ∈ lw_tbl ∧ Cond.code Lib.objectInit ⟨#[0xb1]⟩ 1 none ∈ lw_tbl := ⟨tb_2 _ (List.mem_of_getElem? (i := 177) rfl), tb_1 _ (List.mem_of_getElem? (i := 27) rfl), tb_1 _ (List.mem_of_getElem? (i := 28) rfl)⟩
set_option maxRecDepth 20000 in
theorem ow_X2 : Cond.methodLink "ParapetCourt$Fraction" 3 Lib.objectInit ∈ lw_tbl ∧ Cond.instanceMethod Lib.objectInit ∈ lw_tbl ∧ Cond.code Lib.objectInit ⟨#[0xb1]⟩ 1 none ∈ lw_tbl := ⟨tb_2 _ (List.mem_of_getElem? (i := 199) rfl), tb_1 _ (List.mem_of_getElem? (i := 27) rfl), tb_1 _ (List.mem_of_getElem? (i := 28) rfl)⟩
set_option maxRecDepth 20000 in
theorem ow_X8 : Cond.methodLink "ParapetCourt$Tray" 3 Lib.objectInit ∈ lw_tbl ∧ Cond.instanceMethod Lib.objectInit ∈ lw_tbl ∧ Cond.code Lib.objectInit ⟨#[0xb1]⟩ 1 none ∈ lw_tbl := ⟨tb_2 _ (List.mem_of_getElem? (i := 213) rfl), tb_1 _ (List.mem_of_getElem? (i := 27) rfl), tb_1 _ (List.mem_of_getElem? (i := 28) rfl)⟩
set_option maxRecDepth 20000 in
theorem ow_X12 : Cond.methodLink "ParapetCourtModel" 1 Lib.objectInit ∈ lw_tbl ∧ Cond.instanceMethod Lib.objectInit ∈ lw_tbl ∧ Cond.code Lib.objectInit ⟨#[0xb1]⟩ 1 none ∈ lw_tbl := ⟨tb_6 _ (List.mem_of_getElem? (i := 130) rfl), tb_1 _ (List.mem_of_getElem? (i := 27) rfl), tb_1 _ (List.mem_of_getElem? (i := 28) rfl)⟩
set_option maxRecDepth 20000 in
theorem na_X11_9 : Cond.classLink "ParapetCourt" 9 RX8 ∈ lw_tbl ∧ Cond.arrayOver (.object RX8) ∈ lw_tbl := ⟨tb_1 _ (List.mem_of_getElem? (i := 29) rfl), tb_1 _ (List.mem_of_getElem? (i := 30) rfl)⟩
set_option maxRecDepth 20000 in
theorem fc_X11_11 : FL "ParapetCourt" 11 (TX11 0) := Or.inl (tb_2 _ (List.mem_of_getElem? (i := 227) rfl))
set_option maxRecDepth 20000 in
theorem fc_X11_11_w : Cond.fieldLink "ParapetCourt" 11 (TX11 0).1 (TX11 0).2.1 (TX11 0).2.2.1 ∈ lw_tbl := tb_2 _ (List.mem_of_getElem? (i := 227) rfl)
set_option maxRecDepth 20000 in
theorem fc_X11_15 : FL "ParapetCourt" 15 (TX11 1) := Or.inl (tb_2 _ (List.mem_of_getElem? (i := 228) rfl))
set_option maxRecDepth 20000 in
theorem fc_X11_15_w : Cond.fieldLink "ParapetCourt" 15 (TX11 1).1 (TX11 1).2.1 (TX11 1).2.2.1 ∈ lw_tbl := tb_2 _ (List.mem_of_getElem? (i := 228) rfl)
set_option maxRecDepth 20000 in
theorem nw_X11_19 : Cond.classLink "ParapetCourt" 19 RX7 ∈ lw_tbl ∧ Cond.instantiable RX7 12 ∈ lw_tbl ∧ Cond.initialized RX7 ∈ lw_tbl := ⟨tb_1 _ (List.mem_of_getElem? (i := 31) rfl), tb_1 _ (List.mem_of_getElem? (i := 32) rfl), tb_1 _ (List.mem_of_getElem? (i := 2) rfl)⟩
set_option maxRecDepth 20000 in
theorem nl_X11_21 : NL "ParapetCourt" 21 mt_X7_init.1 := Or.inr ⟨"ParapetCourt", tb_1 _ (List.mem_of_getElem? (i := 33) rfl)⟩
set_option maxRecDepth 20000 in
theorem fc_X11_24 : FL "ParapetCourt" 24 (TX11 2) := Or.inl (tb_2 _ (List.mem_of_getElem? (i := 229) rfl))
set_option maxRecDepth 20000 in
theorem fc_X11_24_w : Cond.fieldLink "ParapetCourt" 24 (TX11 2).1 (TX11 2).2.1 (TX11 2).2.2.1 ∈ lw_tbl := tb_2 _ (List.mem_of_getElem? (i := 229) rfl)
set_option maxRecDepth 20000 in
theorem nw_X11_28 : Cond.classLink "ParapetCourt" 28 RX9 ∈ lw_tbl ∧ Cond.instantiable RX9 16 ∈ lw_tbl ∧ Cond.initialized RX9 ∈ lw_tbl := ⟨tb_1 _ (List.mem_of_getElem? (i := 133) rfl), tb_1 _ (List.mem_of_getElem? (i := 134) rfl), tb_1 _ (List.mem_of_getElem? (i := 7) rfl)⟩
set_option maxRecDepth 20000 in
theorem nl_X11_30 : NL "ParapetCourt" 30 mt_X9_init.1 := Or.inr ⟨"ParapetCourt", tb_1 _ (List.mem_of_getElem? (i := 135) rfl)⟩
set_option maxRecDepth 20000 in
theorem fc_X11_31 : FL "ParapetCourt" 31 (TX11 3) := Or.inl (tb_2 _ (List.mem_of_getElem? (i := 230) rfl))
set_option maxRecDepth 20000 in
theorem fc_X11_31_w : Cond.fieldLink "ParapetCourt" 31 (TX11 3).1 (TX11 3).2.1 (TX11 3).2.2.1 ∈ lw_tbl := tb_2 _ (List.mem_of_getElem? (i := 230) rfl)
set_option maxRecDepth 20000 in
theorem nw_X11_35 : Cond.classLink "ParapetCourt" 35 RX5 ∈ lw_tbl ∧ Cond.instantiable RX5 8 ∈ lw_tbl ∧ Cond.initialized RX5 ∈ lw_tbl := ⟨tb_1 _ (List.mem_of_getElem? (i := 217) rfl), tb_1 _ (List.mem_of_getElem? (i := 218) rfl), tb_1 _ (List.mem_of_getElem? (i := 8) rfl)⟩
set_option maxRecDepth 20000 in
theorem nl_X11_37 : NL "ParapetCourt" 37 mt_X5_init.1 := Or.inr ⟨"ParapetCourt", tb_1 _ (List.mem_of_getElem? (i := 219) rfl)⟩
set_option maxRecDepth 20000 in
theorem fc_X11_38 : FL "ParapetCourt" 38 (TX11 4) := Or.inl (tb_2 _ (List.mem_of_getElem? (i := 231) rfl))
set_option maxRecDepth 20000 in
theorem fc_X11_38_w : Cond.fieldLink "ParapetCourt" 38 (TX11 4).1 (TX11 4).2.1 (TX11 4).2.2.1 ∈ lw_tbl := tb_2 _ (List.mem_of_getElem? (i := 231) rfl)
set_option maxRecDepth 20000 in
theorem nw_X11_42 : Cond.classLink "ParapetCourt" 42 RX10 ∈ lw_tbl ∧ Cond.instantiable RX10 3 ∈ lw_tbl ∧ Cond.initialized RX10 ∈ lw_tbl := ⟨tb_2 _ (List.mem_of_getElem? (i := 19) rfl), tb_2 _ (List.mem_of_getElem? (i := 20) rfl), tb_1 _ (List.mem_of_getElem? (i := 9) rfl)⟩
set_option maxRecDepth 20000 in
theorem nl_X11_44 : NL "ParapetCourt" 44 mt_X10_init.1 := Or.inr ⟨"ParapetCourt", tb_2 _ (List.mem_of_getElem? (i := 21) rfl)⟩
set_option maxRecDepth 20000 in
theorem fc_X11_47 : FL "ParapetCourt" 47 (TX11 5) := Or.inl (tb_2 _ (List.mem_of_getElem? (i := 232) rfl))
set_option maxRecDepth 20000 in
theorem fc_X11_47_w : Cond.fieldLink "ParapetCourt" 47 (TX11 5).1 (TX11 5).2.1 (TX11 5).2.2.1 ∈ lw_tbl := tb_2 _ (List.mem_of_getElem? (i := 232) rfl)
set_option maxRecDepth 20000 in
theorem nw_X11_51 : Cond.classLink "ParapetCourt" 51 RX6 ∈ lw_tbl ∧ Cond.instantiable RX6 6 ∈ lw_tbl ∧ Cond.initialized RX6 ∈ lw_tbl := ⟨tb_2 _ (List.mem_of_getElem? (i := 38) rfl), tb_2 _ (List.mem_of_getElem? (i := 39) rfl), tb_1 _ (List.mem_of_getElem? (i := 10) rfl)⟩
set_option maxRecDepth 20000 in
theorem nl_X11_53 : NL "ParapetCourt" 53 mt_X6_init.1 := Or.inr ⟨"ParapetCourt", tb_2 _ (List.mem_of_getElem? (i := 40) rfl)⟩
set_option maxRecDepth 20000 in
theorem fc_X11_56 : FL "ParapetCourt" 56 (TX11 6) := Or.inl (tb_2 _ (List.mem_of_getElem? (i := 233) rfl))
set_option maxRecDepth 20000 in
theorem fc_X11_56_w : Cond.fieldLink "ParapetCourt" 56 (TX11 6).1 (TX11 6).2.1 (TX11 6).2.2.1 ∈ lw_tbl := tb_2 _ (List.mem_of_getElem? (i := 233) rfl)
set_option maxRecDepth 20000 in
theorem na_X11_28 : Cond.classLink "ParapetCourt" 28 RX9 ∈ lw_tbl ∧ Cond.arrayOver (.object RX9) ∈ lw_tbl := ⟨tb_1 _ (List.mem_of_getElem? (i := 133) rfl), tb_2 _ (List.mem_of_getElem? (i := 66) rfl)⟩
set_option maxRecDepth 20000 in
theorem fc_X11_60 : FL "ParapetCourt" 60 (TX11 7) := Or.inl (tb_2 _ (List.mem_of_getElem? (i := 234) rfl))
set_option maxRecDepth 20000 in
theorem fc_X11_60_w : Cond.fieldLink "ParapetCourt" 60 (TX11 7).1 (TX11 7).2.1 (TX11 7).2.2.1 ∈ lw_tbl := tb_2 _ (List.mem_of_getElem? (i := 234) rfl)
set_option maxRecDepth 20000 in
theorem na_X11_35 : Cond.classLink "ParapetCourt" 35 RX5 ∈ lw_tbl ∧ Cond.arrayOver (.object RX5) ∈ lw_tbl := ⟨tb_1 _ (List.mem_of_getElem? (i := 217) rfl), tb_2 _ (List.mem_of_getElem? (i := 67) rfl)⟩
set_option maxRecDepth 20000 in
theorem fc_X11_64 : FL "ParapetCourt" 64 (TX11 8) := Or.inl (tb_2 _ (List.mem_of_getElem? (i := 235) rfl))
set_option maxRecDepth 20000 in
theorem fc_X11_64_w : Cond.fieldLink "ParapetCourt" 64 (TX11 8).1 (TX11 8).2.1 (TX11 8).2.2.1 ∈ lw_tbl := tb_2 _ (List.mem_of_getElem? (i := 235) rfl)
set_option maxRecDepth 20000 in
theorem nw_X11_68 : Cond.classLink "ParapetCourt" 68 RX4 ∈ lw_tbl ∧ Cond.instantiable RX4 10 ∈ lw_tbl ∧ Cond.initialized RX4 ∈ lw_tbl := ⟨tb_2 _ (List.mem_of_getElem? (i := 68) rfl), tb_2 _ (List.mem_of_getElem? (i := 69) rfl), tb_1 _ (List.mem_of_getElem? (i := 11) rfl)⟩
set_option maxRecDepth 20000 in
theorem nl_X11_70 : NL "ParapetCourt" 70 mt_X4_init.1 := Or.inr ⟨"ParapetCourt", tb_2 _ (List.mem_of_getElem? (i := 70) rfl)⟩
set_option maxRecDepth 20000 in
theorem fc_X11_73 : FL "ParapetCourt" 73 (TX11 9) := Or.inl (tb_2 _ (List.mem_of_getElem? (i := 236) rfl))
set_option maxRecDepth 20000 in
theorem fc_X11_73_w : Cond.fieldLink "ParapetCourt" 73 (TX11 9).1 (TX11 9).2.1 (TX11 9).2.2.1 ∈ lw_tbl := tb_2 _ (List.mem_of_getElem? (i := 236) rfl)
set_option maxRecDepth 20000 in
theorem fc_X11_77 : FL "ParapetCourt" 77 (TX11 10) := Or.inl (tb_2 _ (List.mem_of_getElem? (i := 237) rfl))
set_option maxRecDepth 20000 in
theorem fc_X11_77_w : Cond.fieldLink "ParapetCourt" 77 (TX11 10).1 (TX11 10).2.1 (TX11 10).2.2.1 ∈ lw_tbl := tb_2 _ (List.mem_of_getElem? (i := 237) rfl)
set_option maxRecDepth 20000 in
theorem fc_X11_80 : FL "ParapetCourt" 80 (TX11 11) := Or.inl (tb_2 _ (List.mem_of_getElem? (i := 238) rfl))
set_option maxRecDepth 20000 in
theorem fc_X11_80_w : Cond.fieldLink "ParapetCourt" 80 (TX11 11).1 (TX11 11).2.1 (TX11 11).2.2.1 ∈ lw_tbl := tb_2 _ (List.mem_of_getElem? (i := 238) rfl)
set_option maxRecDepth 20000 in
theorem nw_X11_83 : Cond.classLink "ParapetCourt" 83 RX3 ∈ lw_tbl ∧ Cond.instantiable RX3 4 ∈ lw_tbl ∧ Cond.initialized RX3 ∈ lw_tbl := ⟨tb_2 _ (List.mem_of_getElem? (i := 111) rfl), tb_2 _ (List.mem_of_getElem? (i := 112) rfl), tb_1 _ (List.mem_of_getElem? (i := 12) rfl)⟩
set_option maxRecDepth 20000 in
theorem nl_X11_85 : NL "ParapetCourt" 85 mt_X3_init.1 := Or.inr ⟨"ParapetCourt", tb_2 _ (List.mem_of_getElem? (i := 113) rfl)⟩
set_option maxRecDepth 20000 in
theorem fc_X11_86 : FL "ParapetCourt" 86 (TX11 12) := Or.inl (tb_2 _ (List.mem_of_getElem? (i := 239) rfl))
set_option maxRecDepth 20000 in
theorem fc_X11_86_w : Cond.fieldLink "ParapetCourt" 86 (TX11 12).1 (TX11 12).2.1 (TX11 12).2.2.1 ∈ lw_tbl := tb_2 _ (List.mem_of_getElem? (i := 239) rfl)
set_option maxRecDepth 20000 in
theorem nw_X11_90 : Cond.classLink "ParapetCourt" 90 RX0 ∈ lw_tbl ∧ Cond.instantiable RX0 10 ∈ lw_tbl ∧ Cond.initialized RX0 ∈ lw_tbl := ⟨tb_2 _ (List.mem_of_getElem? (i := 134) rfl), tb_2 _ (List.mem_of_getElem? (i := 135) rfl), tb_1 _ (List.mem_of_getElem? (i := 13) rfl)⟩
set_option maxRecDepth 20000 in
theorem nl_X11_92 : NL "ParapetCourt" 92 mt_X0_init.1 := Or.inr ⟨"ParapetCourt", tb_2 _ (List.mem_of_getElem? (i := 136) rfl)⟩
set_option maxRecDepth 20000 in
theorem fc_X11_93 : FL "ParapetCourt" 93 (TX11 13) := Or.inl (tb_3 _ (List.mem_of_getElem? (i := 0) rfl))
set_option maxRecDepth 20000 in
theorem fc_X11_93_w : Cond.fieldLink "ParapetCourt" 93 (TX11 13).1 (TX11 13).2.1 (TX11 13).2.2.1 ∈ lw_tbl := tb_3 _ (List.mem_of_getElem? (i := 0) rfl)
set_option maxRecDepth 20000 in
theorem nw_X11_97 : Cond.classLink "ParapetCourt" 97 RX1 ∈ lw_tbl ∧ Cond.instantiable RX1 5 ∈ lw_tbl ∧ Cond.initialized RX1 ∈ lw_tbl := ⟨tb_2 _ (List.mem_of_getElem? (i := 172) rfl), tb_2 _ (List.mem_of_getElem? (i := 173) rfl), tb_1 _ (List.mem_of_getElem? (i := 14) rfl)⟩
set_option maxRecDepth 20000 in
theorem nl_X11_99 : NL "ParapetCourt" 99 mt_X1_init.1 := Or.inr ⟨"ParapetCourt", tb_2 _ (List.mem_of_getElem? (i := 174) rfl)⟩
set_option maxRecDepth 20000 in
theorem fc_X11_102 : FL "ParapetCourt" 102 (TX11 14) := Or.inl (tb_3 _ (List.mem_of_getElem? (i := 1) rfl))
set_option maxRecDepth 20000 in
theorem fc_X11_102_w : Cond.fieldLink "ParapetCourt" 102 (TX11 14).1 (TX11 14).2.1 (TX11 14).2.2.1 ∈ lw_tbl := tb_3 _ (List.mem_of_getElem? (i := 1) rfl)
set_option maxRecDepth 20000 in
theorem nw_X11_106 : Cond.classLink "ParapetCourt" 106 RX2 ∈ lw_tbl ∧ Cond.instantiable RX2 2 ∈ lw_tbl ∧ Cond.initialized RX2 ∈ lw_tbl := ⟨tb_2 _ (List.mem_of_getElem? (i := 194) rfl), tb_2 _ (List.mem_of_getElem? (i := 195) rfl), tb_1 _ (List.mem_of_getElem? (i := 15) rfl)⟩
set_option maxRecDepth 20000 in
theorem nl_X11_108 : NL "ParapetCourt" 108 mt_X2_init.1 := Or.inr ⟨"ParapetCourt", tb_2 _ (List.mem_of_getElem? (i := 196) rfl)⟩
set_option maxRecDepth 20000 in
theorem fc_X11_109 : FL "ParapetCourt" 109 (TX11 15) := Or.inl (tb_3 _ (List.mem_of_getElem? (i := 2) rfl))
set_option maxRecDepth 20000 in
theorem fc_X11_109_w : Cond.fieldLink "ParapetCourt" 109 (TX11 15).1 (TX11 15).2.1 (TX11 15).2.2.1 ∈ lw_tbl := tb_3 _ (List.mem_of_getElem? (i := 2) rfl)
set_option maxRecDepth 20000 in
theorem nw_X11_9 : Cond.classLink "ParapetCourt" 9 RX8 ∈ lw_tbl ∧ Cond.instantiable RX8 3 ∈ lw_tbl ∧ Cond.initialized RX8 ∈ lw_tbl := ⟨tb_1 _ (List.mem_of_getElem? (i := 29) rfl), tb_2 _ (List.mem_of_getElem? (i := 209) rfl), tb_1 _ (List.mem_of_getElem? (i := 16) rfl)⟩
set_option maxRecDepth 20000 in
theorem nl_X11_113 : NL "ParapetCourt" 113 mt_X8_init.1 := Or.inr ⟨"ParapetCourt", tb_2 _ (List.mem_of_getElem? (i := 210) rfl)⟩
set_option maxRecDepth 20000 in
theorem fc_X7_9 : FL "ParapetCourt$Text" 9 (TX7 1) := Or.inl (tb_1 _ (List.mem_of_getElem? (i := 88) rfl))
set_option maxRecDepth 20000 in
theorem fc_X7_9_w : Cond.fieldLink "ParapetCourt$Text" 9 (TX7 1).1 (TX7 1).2.1 (TX7 1).2.2.1 ∈ lw_tbl := tb_1 _ (List.mem_of_getElem? (i := 88) rfl)
set_option maxRecDepth 20000 in
theorem fc_X7_15 : FL "ParapetCourt$Text" 15 (TX7 10) := Or.inl (tb_1 _ (List.mem_of_getElem? (i := 102) rfl))
set_option maxRecDepth 20000 in
theorem fc_X7_19 : FL "ParapetCourt$Text" 19 (TX7 11) := Or.inl (tb_1 _ (List.mem_of_getElem? (i := 104) rfl))
set_option maxRecDepth 20000 in
theorem fc_X7_22 : FL "ParapetCourt$Text" 22 (TX7 0) := Or.inl (tb_1 _ (List.mem_of_getElem? (i := 87) rfl))
set_option maxRecDepth 20000 in
theorem fc_X7_22_w : Cond.fieldLink "ParapetCourt$Text" 22 (TX7 0).1 (TX7 0).2.1 (TX7 0).2.2.1 ∈ lw_tbl := tb_1 _ (List.mem_of_getElem? (i := 87) rfl)
set_option maxRecDepth 20000 in
theorem wj_X7_28 : Cond.methodLink "ParapetCourt$Text" 28 mt_JS_length.1 ∈ lw_tbl := tb_1 _ (List.mem_of_getElem? (i := 38) rfl)
set_option maxRecDepth 20000 in
theorem wj_X7_34 : Cond.methodLink "ParapetCourt$Text" 34 mt_JS_charAt.1 ∈ lw_tbl := tb_1 _ (List.mem_of_getElem? (i := 48) rfl)
set_option maxRecDepth 20000 in
theorem fc_X9_9 : FL "ParapetCourt$Wall" 9 (TX9 2) := Or.inl (tb_1 _ (List.mem_of_getElem? (i := 148) rfl))
set_option maxRecDepth 20000 in
theorem fc_X9_9_w : Cond.fieldLink "ParapetCourt$Wall" 9 (TX9 2).1 (TX9 2).2.1 (TX9 2).2.2.1 ∈ lw_tbl := tb_1 _ (List.mem_of_getElem? (i := 148) rfl)
set_option maxRecDepth 20000 in
theorem fc_X9_15 : FL "ParapetCourt$Wall" 15 (TX9 3) := Or.inl (tb_1 _ (List.mem_of_getElem? (i := 151) rfl))
set_option maxRecDepth 20000 in
theorem fc_X9_15_w : Cond.fieldLink "ParapetCourt$Wall" 15 (TX9 3).1 (TX9 3).2.1 (TX9 3).2.2.1 ∈ lw_tbl := tb_1 _ (List.mem_of_getElem? (i := 151) rfl)
set_option maxRecDepth 20000 in
theorem fc_X9_18 : FL "ParapetCourt$Wall" 18 (TX9 4) := Or.inl (tb_1 _ (List.mem_of_getElem? (i := 154) rfl))
set_option maxRecDepth 20000 in
theorem fc_X9_18_w : Cond.fieldLink "ParapetCourt$Wall" 18 (TX9 4).1 (TX9 4).2.1 (TX9 4).2.2.1 ∈ lw_tbl := tb_1 _ (List.mem_of_getElem? (i := 154) rfl)
set_option maxRecDepth 20000 in
theorem fc_X9_21 : FL "ParapetCourt$Wall" 21 (TX9 5) := Or.inl (tb_1 _ (List.mem_of_getElem? (i := 156) rfl))
set_option maxRecDepth 20000 in
theorem fc_X9_21_w : Cond.fieldLink "ParapetCourt$Wall" 21 (TX9 5).1 (TX9 5).2.1 (TX9 5).2.2.1 ∈ lw_tbl := tb_1 _ (List.mem_of_getElem? (i := 156) rfl)
set_option maxRecDepth 20000 in
theorem fc_X9_24 : FL "ParapetCourt$Wall" 24 (TX9 6) := Or.inl (tb_1 _ (List.mem_of_getElem? (i := 157) rfl))
set_option maxRecDepth 20000 in
theorem fc_X9_24_w : Cond.fieldLink "ParapetCourt$Wall" 24 (TX9 6).1 (TX9 6).2.1 (TX9 6).2.2.1 ∈ lw_tbl := tb_1 _ (List.mem_of_getElem? (i := 157) rfl)
set_option maxRecDepth 20000 in
theorem fc_X9_28 : FL "ParapetCourt$Wall" 28 (TX9 8) := Or.inl (tb_1 _ (List.mem_of_getElem? (i := 161) rfl))
set_option maxRecDepth 20000 in
theorem fc_X9_28_w : Cond.fieldLink "ParapetCourt$Wall" 28 (TX9 8).1 (TX9 8).2.1 (TX9 8).2.2.1 ∈ lw_tbl := tb_1 _ (List.mem_of_getElem? (i := 161) rfl)
set_option maxRecDepth 20000 in
theorem fc_X9_31 : FL "ParapetCourt$Wall" 31 (TX9 9) := Or.inl (tb_1 _ (List.mem_of_getElem? (i := 164) rfl))
set_option maxRecDepth 20000 in
theorem fc_X9_31_w : Cond.fieldLink "ParapetCourt$Wall" 31 (TX9 9).1 (TX9 9).2.1 (TX9 9).2.2.1 ∈ lw_tbl := tb_1 _ (List.mem_of_getElem? (i := 164) rfl)
set_option maxRecDepth 20000 in
theorem fc_X9_35 : FL "ParapetCourt$Wall" 35 (TX9 10) := Or.inl (tb_1 _ (List.mem_of_getElem? (i := 166) rfl))
set_option maxRecDepth 20000 in
theorem fc_X9_35_w : Cond.fieldLink "ParapetCourt$Wall" 35 (TX9 10).1 (TX9 10).2.1 (TX9 10).2.2.1 ∈ lw_tbl := tb_1 _ (List.mem_of_getElem? (i := 166) rfl)
set_option maxRecDepth 20000 in
theorem fc_X9_38 : FL "ParapetCourt$Wall" 38 (TX9 11) := Or.inl (tb_1 _ (List.mem_of_getElem? (i := 167) rfl))
set_option maxRecDepth 20000 in
theorem fc_X5_9 : FL "ParapetCourt$Terms" 9 (TX5 3) := Or.inl (tb_1 _ (List.mem_of_getElem? (i := 232) rfl))
set_option maxRecDepth 20000 in
theorem fc_X5_9_w : Cond.fieldLink "ParapetCourt$Terms" 9 (TX5 3).1 (TX5 3).2.1 (TX5 3).2.2.1 ∈ lw_tbl := tb_1 _ (List.mem_of_getElem? (i := 232) rfl)
set_option maxRecDepth 20000 in
theorem fc_X5_15 : FL "ParapetCourt$Terms" 15 (TX5 4) := Or.inl (tb_1 _ (List.mem_of_getElem? (i := 234) rfl))
set_option maxRecDepth 20000 in
theorem fc_X5_15_w : Cond.fieldLink "ParapetCourt$Terms" 15 (TX5 4).1 (TX5 4).2.1 (TX5 4).2.2.1 ∈ lw_tbl := tb_1 _ (List.mem_of_getElem? (i := 234) rfl)
set_option maxRecDepth 20000 in
theorem fc_X5_18 : FL "ParapetCourt$Terms" 18 (TX5 5) := Or.inl (tb_1 _ (List.mem_of_getElem? (i := 236) rfl))
set_option maxRecDepth 20000 in
theorem fc_X5_18_w : Cond.fieldLink "ParapetCourt$Terms" 18 (TX5 5).1 (TX5 5).2.1 (TX5 5).2.2.1 ∈ lw_tbl := tb_1 _ (List.mem_of_getElem? (i := 236) rfl)
set_option maxRecDepth 20000 in
theorem fc_X5_21 : FL "ParapetCourt$Terms" 21 (TX5 6) := Or.inl (tb_1 _ (List.mem_of_getElem? (i := 238) rfl))
set_option maxRecDepth 20000 in
theorem fc_X5_21_w : Cond.fieldLink "ParapetCourt$Terms" 21 (TX5 6).1 (TX5 6).2.1 (TX5 6).2.2.1 ∈ lw_tbl := tb_1 _ (List.mem_of_getElem? (i := 238) rfl)
set_option maxRecDepth 20000 in
theorem fc_X5_24 : FL "ParapetCourt$Terms" 24 (TX5 7) := Or.inl (tb_2 _ (List.mem_of_getElem? (i := 0) rfl))
set_option maxRecDepth 20000 in
theorem fc_X5_24_w : Cond.fieldLink "ParapetCourt$Terms" 24 (TX5 7).1 (TX5 7).2.1 (TX5 7).2.2.1 ∈ lw_tbl := tb_2 _ (List.mem_of_getElem? (i := 0) rfl)
set_option maxRecDepth 20000 in
theorem nw_X10_9 : Cond.classLink "ParapetCourt$WallReader" 9 RX9 ∈ lw_tbl ∧ Cond.instantiable RX9 16 ∈ lw_tbl ∧ Cond.initialized RX9 ∈ lw_tbl := ⟨tb_2 _ (List.mem_of_getElem? (i := 25) rfl), tb_1 _ (List.mem_of_getElem? (i := 134) rfl), tb_1 _ (List.mem_of_getElem? (i := 7) rfl)⟩
set_option maxRecDepth 20000 in
theorem nl_X10_11 : NL "ParapetCourt$WallReader" 11 mt_X9_init.1 := Or.inr ⟨"ParapetCourt", tb_2 _ (List.mem_of_getElem? (i := 26) rfl)⟩
set_option maxRecDepth 20000 in
theorem fc_X10_12 : FL "ParapetCourt$WallReader" 12 (TX10 1) := Or.inl (tb_2 _ (List.mem_of_getElem? (i := 28) rfl))
set_option maxRecDepth 20000 in
theorem fc_X10_12_w : Cond.fieldLink "ParapetCourt$WallReader" 12 (TX10 1).1 (TX10 1).2.1 (TX10 1).2.2.1 ∈ lw_tbl := tb_2 _ (List.mem_of_getElem? (i := 28) rfl)
set_option maxRecDepth 20000 in
theorem fc_X10_18 : FL "ParapetCourt$WallReader" 18 (TX10 0) := Or.inl (tb_2 _ (List.mem_of_getElem? (i := 27) rfl))
set_option maxRecDepth 20000 in
theorem fc_X10_18_w : Cond.fieldLink "ParapetCourt$WallReader" 18 (TX10 0).1 (TX10 0).2.1 (TX10 0).2.2.1 ∈ lw_tbl := tb_2 _ (List.mem_of_getElem? (i := 27) rfl)
set_option maxRecDepth 20000 in
theorem nw_X6_9 : Cond.classLink "ParapetCourt$TermsReader" 9 RX5 ∈ lw_tbl ∧ Cond.instantiable RX5 8 ∈ lw_tbl ∧ Cond.initialized RX5 ∈ lw_tbl := ⟨tb_2 _ (List.mem_of_getElem? (i := 44) rfl), tb_1 _ (List.mem_of_getElem? (i := 218) rfl), tb_1 _ (List.mem_of_getElem? (i := 8) rfl)⟩
set_option maxRecDepth 20000 in
theorem nl_X6_11 : NL "ParapetCourt$TermsReader" 11 mt_X5_init.1 := Or.inr ⟨"ParapetCourt", tb_2 _ (List.mem_of_getElem? (i := 45) rfl)⟩
set_option maxRecDepth 20000 in
theorem fc_X6_12 : FL "ParapetCourt$TermsReader" 12 (TX6 2) := Or.inl (tb_2 _ (List.mem_of_getElem? (i := 48) rfl))
set_option maxRecDepth 20000 in
theorem fc_X6_12_w : Cond.fieldLink "ParapetCourt$TermsReader" 12 (TX6 2).1 (TX6 2).2.1 (TX6 2).2.2.1 ∈ lw_tbl := tb_2 _ (List.mem_of_getElem? (i := 48) rfl)
set_option maxRecDepth 20000 in
theorem fc_X6_18 : FL "ParapetCourt$TermsReader" 18 (TX6 3) := Or.inl (tb_2 _ (List.mem_of_getElem? (i := 50) rfl))
set_option maxRecDepth 20000 in
theorem fc_X6_18_w : Cond.fieldLink "ParapetCourt$TermsReader" 18 (TX6 3).1 (TX6 3).2.1 (TX6 3).2.2.1 ∈ lw_tbl := tb_2 _ (List.mem_of_getElem? (i := 50) rfl)
set_option maxRecDepth 20000 in
theorem fc_X6_22 : FL "ParapetCourt$TermsReader" 22 (TX6 0) := Or.inl (tb_2 _ (List.mem_of_getElem? (i := 46) rfl))
set_option maxRecDepth 20000 in
theorem fc_X6_22_w : Cond.fieldLink "ParapetCourt$TermsReader" 22 (TX6 0).1 (TX6 0).2.1 (TX6 0).2.2.1 ∈ lw_tbl := tb_2 _ (List.mem_of_getElem? (i := 46) rfl)
set_option maxRecDepth 20000 in
theorem fc_X6_26 : FL "ParapetCourt$TermsReader" 26 (TX6 1) := Or.inl (tb_2 _ (List.mem_of_getElem? (i := 47) rfl))
set_option maxRecDepth 20000 in
theorem fc_X6_26_w : Cond.fieldLink "ParapetCourt$TermsReader" 26 (TX6 1).1 (TX6 1).2.1 (TX6 1).2.2.1 ∈ lw_tbl := tb_2 _ (List.mem_of_getElem? (i := 47) rfl)
set_option maxRecDepth 20000 in
theorem fc_X4_9 : FL "ParapetCourt$Life" 9 (TX4 2) := Or.inl (tb_2 _ (List.mem_of_getElem? (i := 76) rfl))
set_option maxRecDepth 20000 in
theorem fc_X4_9_w : Cond.fieldLink "ParapetCourt$Life" 9 (TX4 2).1 (TX4 2).2.1 (TX4 2).2.2.1 ∈ lw_tbl := tb_2 _ (List.mem_of_getElem? (i := 76) rfl)
set_option maxRecDepth 20000 in
theorem fc_X4_15 : FL "ParapetCourt$Life" 15 (TX4 0) := Or.inl (tb_2 _ (List.mem_of_getElem? (i := 74) rfl))
set_option maxRecDepth 20000 in
theorem fc_X4_15_w : Cond.fieldLink "ParapetCourt$Life" 15 (TX4 0).1 (TX4 0).2.1 (TX4 0).2.2.1 ∈ lw_tbl := tb_2 _ (List.mem_of_getElem? (i := 74) rfl)
set_option maxRecDepth 20000 in
theorem fc_X4_19 : FL "ParapetCourt$Life" 19 (TX4 1) := Or.inl (tb_2 _ (List.mem_of_getElem? (i := 75) rfl))
set_option maxRecDepth 20000 in
theorem fc_X4_19_w : Cond.fieldLink "ParapetCourt$Life" 19 (TX4 1).1 (TX4 1).2.1 (TX4 1).2.2.1 ∈ lw_tbl := tb_2 _ (List.mem_of_getElem? (i := 75) rfl)
set_option maxRecDepth 20000 in
theorem fc_X0_9 : FL "ParapetCourt$Cutter" 9 (TX0 0) := Or.inl (tb_2 _ (List.mem_of_getElem? (i := 140) rfl))
set_option maxRecDepth 20000 in
theorem fc_X0_9_w : Cond.fieldLink "ParapetCourt$Cutter" 9 (TX0 0).1 (TX0 0).2.1 (TX0 0).2.2.1 ∈ lw_tbl := tb_2 _ (List.mem_of_getElem? (i := 140) rfl)
set_option maxRecDepth 20000 in
theorem fc_X0_15 : FL "ParapetCourt$Cutter" 15 (TX0 1) := Or.inl (tb_2 _ (List.mem_of_getElem? (i := 141) rfl))
set_option maxRecDepth 20000 in
theorem fc_X0_15_w : Cond.fieldLink "ParapetCourt$Cutter" 15 (TX0 1).1 (TX0 1).2.1 (TX0 1).2.2.1 ∈ lw_tbl := tb_2 _ (List.mem_of_getElem? (i := 141) rfl)
set_option maxRecDepth 20000 in
theorem fc_X0_19 : FL "ParapetCourt$Cutter" 19 (TX0 2) := Or.inl (tb_2 _ (List.mem_of_getElem? (i := 142) rfl))
set_option maxRecDepth 20000 in
theorem fc_X0_19_w : Cond.fieldLink "ParapetCourt$Cutter" 19 (TX0 2).1 (TX0 2).2.1 (TX0 2).2.2.1 ∈ lw_tbl := tb_2 _ (List.mem_of_getElem? (i := 142) rfl)
set_option maxRecDepth 20000 in
theorem fc_X1_9 : FL "ParapetCourt$Debate" 9 (TX1 0) := Or.inl (tb_2 _ (List.mem_of_getElem? (i := 178) rfl))
set_option maxRecDepth 20000 in
theorem fc_X1_9_w : Cond.fieldLink "ParapetCourt$Debate" 9 (TX1 0).1 (TX1 0).2.1 (TX1 0).2.2.1 ∈ lw_tbl := tb_2 _ (List.mem_of_getElem? (i := 178) rfl)
set_option maxRecDepth 20000 in
theorem fc_X2_9 : FL "ParapetCourt$Fraction" 9 (TX2 1) := Or.inl (tb_2 _ (List.mem_of_getElem? (i := 202) rfl))
set_option maxRecDepth 20000 in
theorem fc_X8_9 : FL "ParapetCourt$Tray" 9 (TX8 0) := Or.inl (tb_2 _ (List.mem_of_getElem? (i := 214) rfl))
set_option maxRecDepth 20000 in
theorem fc_X8_9_w : Cond.fieldLink "ParapetCourt$Tray" 9 (TX8 0).1 (TX8 0).2.1 (TX8 0).2.2.1 ∈ lw_tbl := tb_2 _ (List.mem_of_getElem? (i := 214) rfl)
set_option maxRecDepth 20000 in
theorem fc_X8_15 : FL "ParapetCourt$Tray" 15 (TX8 1) := Or.inl (tb_2 _ (List.mem_of_getElem? (i := 216) rfl))
set_option maxRecDepth 20000 in
theorem fc_X12_7 : FL "ParapetCourtModel" 7 (TX12 3) := Or.inl (tb_6 _ (List.mem_of_getElem? (i := 138) rfl))
set_option maxRecDepth 20000 in
theorem fc_X12_13 : FL "ParapetCourtModel" 13 (TX12 4) := Or.inl (tb_6 _ (List.mem_of_getElem? (i := 139) rfl))
set_option maxRecDepth 20000 in
theorem fc_X12_13_w : Cond.fieldLink "ParapetCourtModel" 13 (TX12 4).1 (TX12 4).2.1 (TX12 4).2.2.1 ∈ lw_tbl := tb_6 _ (List.mem_of_getElem? (i := 139) rfl)
set_option maxRecDepth 20000 in
theorem fc_X12_17 : FL "ParapetCourtModel" 17 (TX12 5) := Or.inl (tb_6 _ (List.mem_of_getElem? (i := 140) rfl))
set_option maxRecDepth 20000 in
theorem fc_X12_17_w : Cond.fieldLink "ParapetCourtModel" 17 (TX12 5).1 (TX12 5).2.1 (TX12 5).2.2.1 ∈ lw_tbl := tb_6 _ (List.mem_of_getElem? (i := 140) rfl)
set_option maxRecDepth 20000 in
theorem fc_X12_20 : FL "ParapetCourtModel" 20 (TX12 6) := Or.inl (tb_6 _ (List.mem_of_getElem? (i := 141) rfl))
set_option maxRecDepth 20000 in
theorem fc_X12_20_w : Cond.fieldLink "ParapetCourtModel" 20 (TX12 6).1 (TX12 6).2.1 (TX12 6).2.2.1 ∈ lw_tbl := tb_6 _ (List.mem_of_getElem? (i := 141) rfl)
set_option maxRecDepth 20000 in
theorem fc_X12_24 : FL "ParapetCourtModel" 24 (TX12 7) := Or.inl (tb_6 _ (List.mem_of_getElem? (i := 142) rfl))
set_option maxRecDepth 20000 in
theorem fc_X12_24_w : Cond.fieldLink "ParapetCourtModel" 24 (TX12 7).1 (TX12 7).2.1 (TX12 7).2.2.1 ∈ lw_tbl := tb_6 _ (List.mem_of_getElem? (i := 142) rfl)
set_option maxRecDepth 20000 in
theorem fc_X12_28 : FL "ParapetCourtModel" 28 (TX12 10) := Or.inl (tb_6 _ (List.mem_of_getElem? (i := 145) rfl))
set_option maxRecDepth 20000 in
theorem fc_X12_32 : FL "ParapetCourtModel" 32 (TX12 11) := Or.inl (tb_6 _ (List.mem_of_getElem? (i := 146) rfl))
set_option maxRecDepth 20000 in
theorem fc_X12_35 : FL "ParapetCourtModel" 35 (TX12 20) := Or.inl (tb_6 _ (List.mem_of_getElem? (i := 155) rfl))
set_option maxRecDepth 20000 in
theorem fc_X12_35_w : Cond.fieldLink "ParapetCourtModel" 35 (TX12 20).1 (TX12 20).2.1 (TX12 20).2.2.1 ∈ lw_tbl := tb_6 _ (List.mem_of_getElem? (i := 155) rfl)
set_option maxRecDepth 20000 in
theorem fc_X12_38 : FL "ParapetCourtModel" 38 (TX12 21) := Or.inl (tb_6 _ (List.mem_of_getElem? (i := 156) rfl))
set_option maxRecDepth 20000 in
theorem fc_X12_38_w : Cond.fieldLink "ParapetCourtModel" 38 (TX12 21).1 (TX12 21).2.1 (TX12 21).2.2.1 ∈ lw_tbl := tb_6 _ (List.mem_of_getElem? (i := 156) rfl)
set_option maxRecDepth 20000 in
theorem fc_X12_41 : FL "ParapetCourtModel" 41 (TX12 22) := Or.inl (tb_6 _ (List.mem_of_getElem? (i := 157) rfl))
set_option maxRecDepth 20000 in
theorem fc_X12_41_w : Cond.fieldLink "ParapetCourtModel" 41 (TX12 22).1 (TX12 22).2.1 (TX12 22).2.2.1 ∈ lw_tbl := tb_6 _ (List.mem_of_getElem? (i := 157) rfl)
set_option maxRecDepth 20000 in
theorem fc_X12_44 : FL "ParapetCourtModel" 44 (TX12 26) := Or.inl (tb_6 _ (List.mem_of_getElem? (i := 161) rfl))
set_option maxRecDepth 20000 in
theorem fc_X12_44_w : Cond.fieldLink "ParapetCourtModel" 44 (TX12 26).1 (TX12 26).2.1 (TX12 26).2.2.1 ∈ lw_tbl := tb_6 _ (List.mem_of_getElem? (i := 161) rfl)
set_option maxRecDepth 20000 in
theorem fc_X12_47 : FL "ParapetCourtModel" 47 (TX12 27) := Or.inl (tb_6 _ (List.mem_of_getElem? (i := 162) rfl))
set_option maxRecDepth 20000 in
theorem fc_X12_47_w : Cond.fieldLink "ParapetCourtModel" 47 (TX12 27).1 (TX12 27).2.1 (TX12 27).2.2.1 ∈ lw_tbl := tb_6 _ (List.mem_of_getElem? (i := 162) rfl)
set_option maxRecDepth 20000 in
theorem fc_X12_51 : FL "ParapetCourtModel" 51 (TX12 29) := Or.inl (tb_6 _ (List.mem_of_getElem? (i := 164) rfl))
set_option maxRecDepth 20000 in
theorem fc_X12_51_w : Cond.fieldLink "ParapetCourtModel" 51 (TX12 29).1 (TX12 29).2.1 (TX12 29).2.2.1 ∈ lw_tbl := tb_6 _ (List.mem_of_getElem? (i := 164) rfl)
set_option maxRecDepth 20000 in
theorem fc_X12_54 : FL "ParapetCourtModel" 54 (TX12 30) := Or.inl (tb_6 _ (List.mem_of_getElem? (i := 165) rfl))
set_option maxRecDepth 20000 in
theorem fc_X12_54_w : Cond.fieldLink "ParapetCourtModel" 54 (TX12 30).1 (TX12 30).2.1 (TX12 30).2.2.1 ∈ lw_tbl := tb_6 _ (List.mem_of_getElem? (i := 165) rfl)
set_option maxRecDepth 20000 in
theorem fc_X12_57 : FL "ParapetCourtModel" 57 (TX12 31) := Or.inl (tb_6 _ (List.mem_of_getElem? (i := 166) rfl))
set_option maxRecDepth 20000 in
theorem fc_X12_57_w : Cond.fieldLink "ParapetCourtModel" 57 (TX12 31).1 (TX12 31).2.1 (TX12 31).2.2.1 ∈ lw_tbl := tb_6 _ (List.mem_of_getElem? (i := 166) rfl)
set_option maxRecDepth 20000 in
theorem fc_X12_60 : FL "ParapetCourtModel" 60 (TX12 34) := Or.inl (tb_6 _ (List.mem_of_getElem? (i := 169) rfl))
set_option maxRecDepth 20000 in
theorem fc_X12_60_w : Cond.fieldLink "ParapetCourtModel" 60 (TX12 34).1 (TX12 34).2.1 (TX12 34).2.2.1 ∈ lw_tbl := tb_6 _ (List.mem_of_getElem? (i := 169) rfl)
set_option maxRecDepth 20000 in
theorem fc_X12_63 : FL "ParapetCourtModel" 63 (TX12 35) := Or.inl (tb_6 _ (List.mem_of_getElem? (i := 170) rfl))
set_option maxRecDepth 20000 in
theorem fc_X12_63_w : Cond.fieldLink "ParapetCourtModel" 63 (TX12 35).1 (TX12 35).2.1 (TX12 35).2.2.1 ∈ lw_tbl := tb_6 _ (List.mem_of_getElem? (i := 170) rfl)
set_option maxRecDepth 20000 in
theorem nw_L_7 : Cond.classLink "ParapetCourtLaw" 7 RX11 ∈ lw_tbl ∧ Cond.instantiable RX11 20 ∈ lw_tbl ∧ Cond.initialized RX11 ∈ lw_tbl := ⟨tb_1 _ (List.mem_of_getElem? (i := 21) rfl), tb_1 _ (List.mem_of_getElem? (i := 22) rfl), tb_1 _ (List.mem_of_getElem? (i := 1) rfl)⟩
set_option maxRecDepth 20000 in
theorem nw_L_10 : Cond.classLink "ParapetCourtLaw" 10 RX12 ∈ lw_tbl ∧ Cond.instantiable RX12 45 ∈ lw_tbl ∧ Cond.initialized RX12 ∈ lw_tbl := ⟨tb_6 _ (List.mem_of_getElem? (i := 125) rfl), tb_6 _ (List.mem_of_getElem? (i := 126) rfl), tb_1 _ (List.mem_of_getElem? (i := 17) rfl)⟩
def I_X9_init_1 (σ : Mem) (n : Nat) (a : Int) : Mem := nwm (σ) (n + 0) 20
def I_X9_init_2 (σ : Mem) (n : Nat) (a : Int) : Mem := upm (I_X9_init_1 σ n a) a.toNat 2 ((n + 0 : Nat) : Int)
def I_X9_init_3 (σ : Mem) (n : Nat) (a : Int) : Mem := nwm (I_X9_init_2 σ n a) (n + 1) 20
def I_X9_init_4 (σ : Mem) (n : Nat) (a : Int) : Mem := upm (I_X9_init_3 σ n a) a.toNat 3 ((n + 1 : Nat) : Int)
def I_X9_init_5 (σ : Mem) (n : Nat) (a : Int) : Mem := nwm (I_X9_init_4 σ n a) (n + 2) 20
def I_X9_init_6 (σ : Mem) (n : Nat) (a : Int) : Mem := upm (I_X9_init_5 σ n a) a.toNat 4 ((n + 2 : Nat) : Int)
def I_X9_init_7 (σ : Mem) (n : Nat) (a : Int) : Mem := nwm (I_X9_init_6 σ n a) (n + 3) 20
def I_X9_init_8 (σ : Mem) (n : Nat) (a : Int) : Mem := upm (I_X9_init_7 σ n a) a.toNat 5 ((n + 3 : Nat) : Int)
def I_X9_init_9 (σ : Mem) (n : Nat) (a : Int) : Mem := nwm (I_X9_init_8 σ n a) (n + 4) 21
def I_X9_init_10 (σ : Mem) (n : Nat) (a : Int) : Mem := upm (I_X9_init_9 σ n a) a.toNat 6 ((n + 4 : Nat) : Int)
def I_X9_init_11 (σ : Mem) (n : Nat) (a : Int) : Mem := nwm (I_X9_init_10 σ n a) (n + 5) 20
def I_X9_init_12 (σ : Mem) (n : Nat) (a : Int) : Mem := upm (I_X9_init_11 σ n a) a.toNat 8 ((n + 5 : Nat) : Int)
def I_X9_init_13 (σ : Mem) (n : Nat) (a : Int) : Mem := nwm (I_X9_init_12 σ n a) (n + 6) 23
def I_X9_init_14 (σ : Mem) (n : Nat) (a : Int) : Mem := upm (I_X9_init_13 σ n a) a.toNat 9 ((n + 6 : Nat) : Int)
def I_X9_init_15 (σ : Mem) (n : Nat) (a : Int) : Mem := nwm (I_X9_init_14 σ n a) (n + 7) 21
def I_X9_init_16 (σ : Mem) (n : Nat) (a : Int) : Mem := upm (I_X9_init_15 σ n a) a.toNat 10 ((n + 7 : Nat) : Int)
def I_X9_init_17 (σ : Mem) (n : Nat) (a : Int) : Mem := upm (I_X9_init_16 σ n a) a.toNat 11 8
abbrev I_X9_init (σ : Mem) (n : Nat) (a : Int) : Mem := I_X9_init_17 σ n a
theorem C_X9_init {sh : Shp} {σ : Mem} {n : Nat} {a : Int} (hn : n = sh.length) (h : isO sh 9 a = true) : Cn mt_X9_init 2 [(2, a)] sh σ none (sh ++ [(20, 10)] ++ [(20, 10)] ++ [(20, 10)] ++ [(20, 10)] ++ [(21, 10)] ++ [(20, 4)] ++ [(23, 4)] ++ [(21, 4)]) (I_X9_init σ n a) := by
  subst hn
  refine Cn_of mk_X9_init.1.2.2.1 (Nat.le_of_ble_eq_true rfl) (fun sc => ?_)
  show E sc _ _ _ _ _ 0 [(2, a)] [] sh σ
  refine E_aload_n d_X9_init_0 rfl (by decide) ?_
  refine E_objinit d_X9_init_1 ow_X9 ⟨isO_nn h, by decide, Nat.le_of_ble_eq_true rfl⟩ ?_
  refine E_aload_n d_X9_init_4 rfl (by decide) ?_
  refine E_bipush d_X9_init_5 (c8 rfl) ?_
  refine E_newarrD (n := sh.length + 0) (N := 10) (sh' := sh ++ [(20, 10)]) (σ' := I_X9_init_1 σ sh.length a) d_X9_init_7 rfl aw_int (Or.inl ⟨rfl, rfl, rfl⟩) ⟨rfl, by decide⟩ (by simp) rfl rfl ⟨by simp only [List.length_append, List.length_cons, List.length_nil]; omega, by simp only [tot_new]; omega⟩ ?_
  refine E_putD (σ' := I_X9_init_2 σ sh.length a) d_X9_init_9 okX9 fc_X9_9 ⟨by decide, rfl⟩ (Or.inr (Or.inr (Or.inr (Or.inr ⟨⟨_, rfl⟩, rfl⟩)))) (Or.inr ⟨rfl, rfl, rfl, fc_X9_9_w⟩) (isO_app h) rfl ?_
  refine E_aload_n d_X9_init_12 rfl (by decide) ?_
  refine E_bipush d_X9_init_13 (c8 rfl) ?_
  refine E_newarrD (n := sh.length + 1) (N := 10) (sh' := sh ++ [(20, 10)] ++ [(20, 10)]) (σ' := I_X9_init_3 σ sh.length a) d_X9_init_15 rfl aw_int (Or.inl ⟨rfl, rfl, rfl⟩) ⟨rfl, by decide⟩ (by simp) rfl rfl ⟨by simp only [List.length_append, List.length_cons, List.length_nil]; omega, by simp only [tot_new]; omega⟩ ?_
  refine E_putD (σ' := I_X9_init_4 σ sh.length a) d_X9_init_17 okX9 fc_X9_15 ⟨by decide, rfl⟩ (Or.inr (Or.inr (Or.inr (Or.inr ⟨⟨_, rfl⟩, rfl⟩)))) (Or.inr ⟨rfl, rfl, rfl, fc_X9_15_w⟩) (isO_app (isO_app h)) rfl ?_
  refine E_aload_n d_X9_init_20 rfl (by decide) ?_
  refine E_bipush d_X9_init_21 (c8 rfl) ?_
  refine E_newarrD (n := sh.length + 2) (N := 10) (sh' := sh ++ [(20, 10)] ++ [(20, 10)] ++ [(20, 10)]) (σ' := I_X9_init_5 σ sh.length a) d_X9_init_23 rfl aw_int (Or.inl ⟨rfl, rfl, rfl⟩) ⟨rfl, by decide⟩ (by simp) rfl rfl ⟨by simp only [List.length_append, List.length_cons, List.length_nil]; omega, by simp only [tot_new]; omega⟩ ?_
  refine E_putD (σ' := I_X9_init_6 σ sh.length a) d_X9_init_25 okX9 fc_X9_18 ⟨by decide, rfl⟩ (Or.inr (Or.inr (Or.inr (Or.inr ⟨⟨_, rfl⟩, rfl⟩)))) (Or.inr ⟨rfl, rfl, rfl, fc_X9_18_w⟩) (isO_app (isO_app (isO_app h))) rfl ?_
  refine E_aload_n d_X9_init_28 rfl (by decide) ?_
  refine E_bipush d_X9_init_29 (c8 rfl) ?_
  refine E_newarrD (n := sh.length + 3) (N := 10) (sh' := sh ++ [(20, 10)] ++ [(20, 10)] ++ [(20, 10)] ++ [(20, 10)]) (σ' := I_X9_init_7 σ sh.length a) d_X9_init_31 rfl aw_int (Or.inl ⟨rfl, rfl, rfl⟩) ⟨rfl, by decide⟩ (by simp) rfl rfl ⟨by simp only [List.length_append, List.length_cons, List.length_nil]; omega, by simp only [tot_new]; omega⟩ ?_
  refine E_putD (σ' := I_X9_init_8 σ sh.length a) d_X9_init_33 okX9 fc_X9_21 ⟨by decide, rfl⟩ (Or.inr (Or.inr (Or.inr (Or.inr ⟨⟨_, rfl⟩, rfl⟩)))) (Or.inr ⟨rfl, rfl, rfl, fc_X9_21_w⟩) (isO_app (isO_app (isO_app (isO_app h)))) rfl ?_
  refine E_aload_n d_X9_init_36 rfl (by decide) ?_
  refine E_bipush d_X9_init_37 (c8 rfl) ?_
  refine E_newarrD (n := sh.length + 4) (N := 10) (sh' := sh ++ [(20, 10)] ++ [(20, 10)] ++ [(20, 10)] ++ [(20, 10)] ++ [(21, 10)]) (σ' := I_X9_init_9 σ sh.length a) d_X9_init_39 rfl aw_long (Or.inr (Or.inl ⟨rfl, rfl, rfl⟩)) ⟨rfl, by decide⟩ (by simp) rfl rfl ⟨by simp only [List.length_append, List.length_cons, List.length_nil]; omega, by simp only [tot_new]; omega⟩ ?_
  refine E_putD (σ' := I_X9_init_10 σ sh.length a) d_X9_init_41 okX9 fc_X9_24 ⟨by decide, rfl⟩ (Or.inr (Or.inr (Or.inr (Or.inr ⟨⟨_, rfl⟩, rfl⟩)))) (Or.inr ⟨rfl, rfl, rfl, fc_X9_24_w⟩) (isO_app (isO_app (isO_app (isO_app (isO_app h))))) rfl ?_
  refine E_aload_n d_X9_init_44 rfl (by decide) ?_
  refine E_iconst d_X9_init_45 (c32 rfl) ?_
  refine E_newarrD (n := sh.length + 5) (N := 4) (sh' := sh ++ [(20, 10)] ++ [(20, 10)] ++ [(20, 10)] ++ [(20, 10)] ++ [(21, 10)] ++ [(20, 4)]) (σ' := I_X9_init_11 σ sh.length a) d_X9_init_46 rfl aw_int (Or.inl ⟨rfl, rfl, rfl⟩) ⟨rfl, by decide⟩ (by simp) rfl rfl ⟨by simp only [List.length_append, List.length_cons, List.length_nil]; omega, by simp only [tot_new]; omega⟩ ?_
  refine E_putD (σ' := I_X9_init_12 σ sh.length a) d_X9_init_48 okX9 fc_X9_28 ⟨by decide, rfl⟩ (Or.inr (Or.inr (Or.inr (Or.inr ⟨⟨_, rfl⟩, rfl⟩)))) (Or.inr ⟨rfl, rfl, rfl, fc_X9_28_w⟩) (isO_app (isO_app (isO_app (isO_app (isO_app (isO_app h)))))) rfl ?_
  refine E_aload_n d_X9_init_51 rfl (by decide) ?_
  refine E_iconst d_X9_init_52 (c32 rfl) ?_
  refine E_newarrD (n := sh.length + 6) (N := 4) (sh' := sh ++ [(20, 10)] ++ [(20, 10)] ++ [(20, 10)] ++ [(20, 10)] ++ [(21, 10)] ++ [(20, 4)] ++ [(23, 4)]) (σ' := I_X9_init_13 σ sh.length a) d_X9_init_53 rfl aw_boolean (Or.inr (Or.inr (Or.inr ⟨rfl, rfl, rfl⟩))) ⟨rfl, by decide⟩ (by simp) rfl rfl ⟨by simp only [List.length_append, List.length_cons, List.length_nil]; omega, by simp only [tot_new]; omega⟩ ?_
  refine E_putD (σ' := I_X9_init_14 σ sh.length a) d_X9_init_55 okX9 fc_X9_31 ⟨by decide, rfl⟩ (Or.inr (Or.inr (Or.inr (Or.inr ⟨⟨_, rfl⟩, rfl⟩)))) (Or.inr ⟨rfl, rfl, rfl, fc_X9_31_w⟩) (isO_app (isO_app (isO_app (isO_app (isO_app (isO_app (isO_app h))))))) rfl ?_
  refine E_aload_n d_X9_init_58 rfl (by decide) ?_
  refine E_iconst d_X9_init_59 (c32 rfl) ?_
  refine E_newarrD (n := sh.length + 7) (N := 4) (sh' := sh ++ [(20, 10)] ++ [(20, 10)] ++ [(20, 10)] ++ [(20, 10)] ++ [(21, 10)] ++ [(20, 4)] ++ [(23, 4)] ++ [(21, 4)]) (σ' := I_X9_init_15 σ sh.length a) d_X9_init_60 rfl aw_long (Or.inr (Or.inl ⟨rfl, rfl, rfl⟩)) ⟨rfl, by decide⟩ (by simp) rfl rfl ⟨by simp only [List.length_append, List.length_cons, List.length_nil]; omega, by simp only [tot_new]; omega⟩ ?_
  refine E_putD (σ' := I_X9_init_16 σ sh.length a) d_X9_init_62 okX9 fc_X9_35 ⟨by decide, rfl⟩ (Or.inr (Or.inr (Or.inr (Or.inr ⟨⟨_, rfl⟩, rfl⟩)))) (Or.inr ⟨rfl, rfl, rfl, fc_X9_35_w⟩) (isO_app (isO_app (isO_app (isO_app (isO_app (isO_app (isO_app (isO_app h)))))))) rfl ?_
  refine E_aload_n d_X9_init_65 rfl (by decide) ?_
  refine E_bipush d_X9_init_66 (c8 rfl) ?_
  refine E_putD (σ' := I_X9_init_17 σ sh.length a) d_X9_init_68 okX9 fc_X9_38 ⟨by decide, rfl⟩ (Or.inl ⟨rfl, rfl⟩) (Or.inl rfl) (isO_app (isO_app (isO_app (isO_app (isO_app (isO_app (isO_app (isO_app h)))))))) rfl ?_
  exact E_vret d_X9_init_71 rfl
def I_X5_init_1 (σ : Mem) (n : Nat) (a : Int) : Mem := nwm (σ) (n + 0) 20
def I_X5_init_2 (σ : Mem) (n : Nat) (a : Int) : Mem := upm (I_X5_init_1 σ n a) a.toNat 3 ((n + 0 : Nat) : Int)
def I_X5_init_3 (σ : Mem) (n : Nat) (a : Int) : Mem := nwm (I_X5_init_2 σ n a) (n + 1) 20
def I_X5_init_4 (σ : Mem) (n : Nat) (a : Int) : Mem := upm (I_X5_init_3 σ n a) a.toNat 4 ((n + 1 : Nat) : Int)
def I_X5_init_5 (σ : Mem) (n : Nat) (a : Int) : Mem := nwm (I_X5_init_4 σ n a) (n + 2) 20
def I_X5_init_6 (σ : Mem) (n : Nat) (a : Int) : Mem := upm (I_X5_init_5 σ n a) a.toNat 5 ((n + 2 : Nat) : Int)
def I_X5_init_7 (σ : Mem) (n : Nat) (a : Int) : Mem := nwm (I_X5_init_6 σ n a) (n + 3) 20
def I_X5_init_8 (σ : Mem) (n : Nat) (a : Int) : Mem := upm (I_X5_init_7 σ n a) a.toNat 6 ((n + 3 : Nat) : Int)
def I_X5_init_9 (σ : Mem) (n : Nat) (a : Int) : Mem := nwm (I_X5_init_8 σ n a) (n + 4) 20
def I_X5_init_10 (σ : Mem) (n : Nat) (a : Int) : Mem := upm (I_X5_init_9 σ n a) a.toNat 7 ((n + 4 : Nat) : Int)
abbrev I_X5_init (σ : Mem) (n : Nat) (a : Int) : Mem := I_X5_init_10 σ n a
theorem C_X5_init {sh : Shp} {σ : Mem} {n : Nat} {a : Int} (hn : n = sh.length) (h : isO sh 5 a = true) : Cn mt_X5_init 2 [(2, a)] sh σ none (sh ++ [(20, 60)] ++ [(20, 60)] ++ [(20, 60)] ++ [(20, 60)] ++ [(20, 60)]) (I_X5_init σ n a) := by
  subst hn
  refine Cn_of mk_X5_init.1.2.2.1 (Nat.le_of_ble_eq_true rfl) (fun sc => ?_)
  show E sc _ _ _ _ _ 0 [(2, a)] [] sh σ
  refine E_aload_n d_X5_init_0 rfl (by decide) ?_
  refine E_objinit d_X5_init_1 ow_X5 ⟨isO_nn h, by decide, Nat.le_of_ble_eq_true rfl⟩ ?_
  refine E_aload_n d_X5_init_4 rfl (by decide) ?_
  refine E_bipush d_X5_init_5 (c8 rfl) ?_
  refine E_newarrD (n := sh.length + 0) (N := 60) (sh' := sh ++ [(20, 60)]) (σ' := I_X5_init_1 σ sh.length a) d_X5_init_7 rfl aw_int (Or.inl ⟨rfl, rfl, rfl⟩) ⟨rfl, by decide⟩ (by simp) rfl rfl ⟨by simp only [List.length_append, List.length_cons, List.length_nil]; omega, by simp only [tot_new]; omega⟩ ?_
  refine E_putD (σ' := I_X5_init_2 σ sh.length a) d_X5_init_9 okX5 fc_X5_9 ⟨by decide, rfl⟩ (Or.inr (Or.inr (Or.inr (Or.inr ⟨⟨_, rfl⟩, rfl⟩)))) (Or.inr ⟨rfl, rfl, rfl, fc_X5_9_w⟩) (isO_app h) rfl ?_
  refine E_aload_n d_X5_init_12 rfl (by decide) ?_
  refine E_bipush d_X5_init_13 (c8 rfl) ?_
  refine E_newarrD (n := sh.length + 1) (N := 60) (sh' := sh ++ [(20, 60)] ++ [(20, 60)]) (σ' := I_X5_init_3 σ sh.length a) d_X5_init_15 rfl aw_int (Or.inl ⟨rfl, rfl, rfl⟩) ⟨rfl, by decide⟩ (by simp) rfl rfl ⟨by simp only [List.length_append, List.length_cons, List.length_nil]; omega, by simp only [tot_new]; omega⟩ ?_
  refine E_putD (σ' := I_X5_init_4 σ sh.length a) d_X5_init_17 okX5 fc_X5_15 ⟨by decide, rfl⟩ (Or.inr (Or.inr (Or.inr (Or.inr ⟨⟨_, rfl⟩, rfl⟩)))) (Or.inr ⟨rfl, rfl, rfl, fc_X5_15_w⟩) (isO_app (isO_app h)) rfl ?_
  refine E_aload_n d_X5_init_20 rfl (by decide) ?_
  refine E_bipush d_X5_init_21 (c8 rfl) ?_
  refine E_newarrD (n := sh.length + 2) (N := 60) (sh' := sh ++ [(20, 60)] ++ [(20, 60)] ++ [(20, 60)]) (σ' := I_X5_init_5 σ sh.length a) d_X5_init_23 rfl aw_int (Or.inl ⟨rfl, rfl, rfl⟩) ⟨rfl, by decide⟩ (by simp) rfl rfl ⟨by simp only [List.length_append, List.length_cons, List.length_nil]; omega, by simp only [tot_new]; omega⟩ ?_
  refine E_putD (σ' := I_X5_init_6 σ sh.length a) d_X5_init_25 okX5 fc_X5_18 ⟨by decide, rfl⟩ (Or.inr (Or.inr (Or.inr (Or.inr ⟨⟨_, rfl⟩, rfl⟩)))) (Or.inr ⟨rfl, rfl, rfl, fc_X5_18_w⟩) (isO_app (isO_app (isO_app h))) rfl ?_
  refine E_aload_n d_X5_init_28 rfl (by decide) ?_
  refine E_bipush d_X5_init_29 (c8 rfl) ?_
  refine E_newarrD (n := sh.length + 3) (N := 60) (sh' := sh ++ [(20, 60)] ++ [(20, 60)] ++ [(20, 60)] ++ [(20, 60)]) (σ' := I_X5_init_7 σ sh.length a) d_X5_init_31 rfl aw_int (Or.inl ⟨rfl, rfl, rfl⟩) ⟨rfl, by decide⟩ (by simp) rfl rfl ⟨by simp only [List.length_append, List.length_cons, List.length_nil]; omega, by simp only [tot_new]; omega⟩ ?_
  refine E_putD (σ' := I_X5_init_8 σ sh.length a) d_X5_init_33 okX5 fc_X5_21 ⟨by decide, rfl⟩ (Or.inr (Or.inr (Or.inr (Or.inr ⟨⟨_, rfl⟩, rfl⟩)))) (Or.inr ⟨rfl, rfl, rfl, fc_X5_21_w⟩) (isO_app (isO_app (isO_app (isO_app h)))) rfl ?_
  refine E_aload_n d_X5_init_36 rfl (by decide) ?_
  refine E_bipush d_X5_init_37 (c8 rfl) ?_
  refine E_newarrD (n := sh.length + 4) (N := 60) (sh' := sh ++ [(20, 60)] ++ [(20, 60)] ++ [(20, 60)] ++ [(20, 60)] ++ [(20, 60)]) (σ' := I_X5_init_9 σ sh.length a) d_X5_init_39 rfl aw_int (Or.inl ⟨rfl, rfl, rfl⟩) ⟨rfl, by decide⟩ (by simp) rfl rfl ⟨by simp only [List.length_append, List.length_cons, List.length_nil]; omega, by simp only [tot_new]; omega⟩ ?_
  refine E_putD (σ' := I_X5_init_10 σ sh.length a) d_X5_init_41 okX5 fc_X5_24 ⟨by decide, rfl⟩ (Or.inr (Or.inr (Or.inr (Or.inr ⟨⟨_, rfl⟩, rfl⟩)))) (Or.inr ⟨rfl, rfl, rfl, fc_X5_24_w⟩) (isO_app (isO_app (isO_app (isO_app (isO_app h))))) rfl ?_
  exact E_vret d_X5_init_44 rfl
abbrev I_X3_init (σ : Mem) (n : Nat) (a : Int) : Mem := σ
theorem C_X3_init {sh : Shp} {σ : Mem} {n : Nat} {a : Int} (hn : n = sh.length) (h : isO sh 3 a = true) : Cn mt_X3_init 2 [(2, a)] sh σ none (sh) (I_X3_init σ n a) := by
  subst hn
  refine Cn_of mk_X3_init.1.2.2.1 (Nat.le_of_ble_eq_true rfl) (fun sc => ?_)
  show E sc _ _ _ _ _ 0 [(2, a)] [] sh σ
  refine E_aload_n d_X3_init_0 rfl (by decide) ?_
  refine E_objinit d_X3_init_1 ow_X3 ⟨isO_nn h, by decide, Nat.le_of_ble_eq_true rfl⟩ ?_
  exact E_vret d_X3_init_4 rfl
def I_X0_init_1 (σ : Mem) (n : Nat) (a : Int) : Mem := nwm (σ) (n + 0) 20
def I_X0_init_2 (σ : Mem) (n : Nat) (a : Int) : Mem := upm (I_X0_init_1 σ n a) a.toNat 0 ((n + 0 : Nat) : Int)
def I_X0_init_3 (σ : Mem) (n : Nat) (a : Int) : Mem := nwm (I_X0_init_2 σ n a) (n + 1) 23
def I_X0_init_4 (σ : Mem) (n : Nat) (a : Int) : Mem := upm (I_X0_init_3 σ n a) a.toNat 1 ((n + 1 : Nat) : Int)
def I_X0_init_5 (σ : Mem) (n : Nat) (a : Int) : Mem := nwm (I_X0_init_4 σ n a) (n + 2) 20
def I_X0_init_6 (σ : Mem) (n : Nat) (a : Int) : Mem := upm (I_X0_init_5 σ n a) a.toNat 2 ((n + 2 : Nat) : Int)
abbrev I_X0_init (σ : Mem) (n : Nat) (a : Int) : Mem := I_X0_init_6 σ n a
theorem C_X0_init {sh : Shp} {σ : Mem} {n : Nat} {a : Int} (hn : n = sh.length) (h : isO sh 0 a = true) : Cn mt_X0_init 2 [(2, a)] sh σ none (sh ++ [(20, 6)] ++ [(23, 6)] ++ [(20, 6)]) (I_X0_init σ n a) := by
  subst hn
  refine Cn_of mk_X0_init.1.2.2.1 (Nat.le_of_ble_eq_true rfl) (fun sc => ?_)
  show E sc _ _ _ _ _ 0 [(2, a)] [] sh σ
  refine E_aload_n d_X0_init_0 rfl (by decide) ?_
  refine E_objinit d_X0_init_1 ow_X0 ⟨isO_nn h, by decide, Nat.le_of_ble_eq_true rfl⟩ ?_
  refine E_aload_n d_X0_init_4 rfl (by decide) ?_
  refine E_bipush d_X0_init_5 (c8 rfl) ?_
  refine E_newarrD (n := sh.length + 0) (N := 6) (sh' := sh ++ [(20, 6)]) (σ' := I_X0_init_1 σ sh.length a) d_X0_init_7 rfl aw_int (Or.inl ⟨rfl, rfl, rfl⟩) ⟨rfl, by decide⟩ (by simp) rfl rfl ⟨by simp only [List.length_append, List.length_cons, List.length_nil]; omega, by simp only [tot_new]; omega⟩ ?_
  refine E_putD (σ' := I_X0_init_2 σ sh.length a) d_X0_init_9 okX0 fc_X0_9 ⟨by decide, rfl⟩ (Or.inr (Or.inr (Or.inr (Or.inr ⟨⟨_, rfl⟩, rfl⟩)))) (Or.inr ⟨rfl, rfl, rfl, fc_X0_9_w⟩) (isO_app h) rfl ?_
  refine E_aload_n d_X0_init_12 rfl (by decide) ?_
  refine E_bipush d_X0_init_13 (c8 rfl) ?_
  refine E_newarrD (n := sh.length + 1) (N := 6) (sh' := sh ++ [(20, 6)] ++ [(23, 6)]) (σ' := I_X0_init_3 σ sh.length a) d_X0_init_15 rfl aw_boolean (Or.inr (Or.inr (Or.inr ⟨rfl, rfl, rfl⟩))) ⟨rfl, by decide⟩ (by simp) rfl rfl ⟨by simp only [List.length_append, List.length_cons, List.length_nil]; omega, by simp only [tot_new]; omega⟩ ?_
  refine E_putD (σ' := I_X0_init_4 σ sh.length a) d_X0_init_17 okX0 fc_X0_15 ⟨by decide, rfl⟩ (Or.inr (Or.inr (Or.inr (Or.inr ⟨⟨_, rfl⟩, rfl⟩)))) (Or.inr ⟨rfl, rfl, rfl, fc_X0_15_w⟩) (isO_app (isO_app h)) rfl ?_
  refine E_aload_n d_X0_init_20 rfl (by decide) ?_
  refine E_bipush d_X0_init_21 (c8 rfl) ?_
  refine E_newarrD (n := sh.length + 2) (N := 6) (sh' := sh ++ [(20, 6)] ++ [(23, 6)] ++ [(20, 6)]) (σ' := I_X0_init_5 σ sh.length a) d_X0_init_23 rfl aw_int (Or.inl ⟨rfl, rfl, rfl⟩) ⟨rfl, by decide⟩ (by simp) rfl rfl ⟨by simp only [List.length_append, List.length_cons, List.length_nil]; omega, by simp only [tot_new]; omega⟩ ?_
  refine E_putD (σ' := I_X0_init_6 σ sh.length a) d_X0_init_25 okX0 fc_X0_19 ⟨by decide, rfl⟩ (Or.inr (Or.inr (Or.inr (Or.inr ⟨⟨_, rfl⟩, rfl⟩)))) (Or.inr ⟨rfl, rfl, rfl, fc_X0_19_w⟩) (isO_app (isO_app (isO_app h))) rfl ?_
  exact E_vret d_X0_init_28 rfl
def I_X1_init_1 (σ : Mem) (n : Nat) (a b1 : Int) : Mem := upm (σ) a.toNat 0 b1
abbrev I_X1_init (σ : Mem) (n : Nat) (a b1 : Int) : Mem := I_X1_init_1 σ n a b1
theorem C_X1_init {sh : Shp} {σ : Mem} {n : Nat} {a b1 : Int} (hn : n = sh.length) (h : isO sh 1 a = true) : Cn mt_X1_init 2 [(2, a), (2, b1)] sh σ none (sh) (I_X1_init σ n a b1) := by
  subst hn
  refine Cn_of mk_X1_init.1.2.2.1 (Nat.le_of_ble_eq_true rfl) (fun sc => ?_)
  show E sc _ _ _ _ _ 0 [(2, a), (2, b1)] [] sh σ
  refine E_aload_n d_X1_init_0 rfl (by decide) ?_
  refine E_objinit d_X1_init_1 ow_X1 ⟨isO_nn h, by decide, Nat.le_of_ble_eq_true rfl⟩ ?_
  refine E_aload_n d_X1_init_4 rfl (by decide) ?_
  refine E_aload_n d_X1_init_5 rfl (by decide) ?_
  refine E_putD (σ' := I_X1_init_1 σ sh.length a b1) d_X1_init_6 okX1 fc_X1_9 ⟨by decide, rfl⟩ (Or.inr (Or.inr (Or.inr (Or.inl ⟨⟨_, rfl⟩, rfl⟩)))) (Or.inr ⟨rfl, rfl, rfl, fc_X1_9_w⟩) h rfl ?_
  exact E_vret d_X1_init_9 rfl
def I_X2_init_1 (σ : Mem) (n : Nat) (a : Int) : Mem := upm (σ) a.toNat 1 1
abbrev I_X2_init (σ : Mem) (n : Nat) (a : Int) : Mem := I_X2_init_1 σ n a
theorem C_X2_init {sh : Shp} {σ : Mem} {n : Nat} {a : Int} (hn : n = sh.length) (h : isO sh 2 a = true) : Cn mt_X2_init 2 [(2, a)] sh σ none (sh) (I_X2_init σ n a) := by
  subst hn
  refine Cn_of mk_X2_init.1.2.2.1 (Nat.le_of_ble_eq_true rfl) (fun sc => ?_)
  show E sc _ _ _ _ _ 0 [(2, a)] [] sh σ
  refine E_aload_n d_X2_init_0 rfl (by decide) ?_
  refine E_objinit d_X2_init_1 ow_X2 ⟨isO_nn h, by decide, Nat.le_of_ble_eq_true rfl⟩ ?_
  refine E_aload_n d_X2_init_4 rfl (by decide) ?_
  refine E_lconst d_X2_init_5 cl1 ?_
  refine E_putD (σ' := I_X2_init_1 σ sh.length a) d_X2_init_6 okX2 fc_X2_9 ⟨by decide, rfl⟩ (Or.inr (Or.inl ⟨rfl, rfl⟩)) (Or.inl rfl) h rfl ?_
  exact E_vret d_X2_init_9 rfl
def I_X8_init_1 (σ : Mem) (n : Nat) (a : Int) : Mem := nwm (σ) (n + 0) 21
def I_X8_init_2 (σ : Mem) (n : Nat) (a : Int) : Mem := upm (I_X8_init_1 σ n a) a.toNat 0 ((n + 0 : Nat) : Int)
def I_X8_init_3 (σ : Mem) (n : Nat) (a : Int) : Mem := upm (I_X8_init_2 σ n a) a.toNat 1 (-1)
abbrev I_X8_init (σ : Mem) (n : Nat) (a : Int) : Mem := I_X8_init_3 σ n a
theorem C_X8_init {sh : Shp} {σ : Mem} {n : Nat} {a : Int} (hn : n = sh.length) (h : isO sh 8 a = true) : Cn mt_X8_init 2 [(2, a)] sh σ none (sh ++ [(21, 60)]) (I_X8_init σ n a) := by
  subst hn
  refine Cn_of mk_X8_init.1.2.2.1 (Nat.le_of_ble_eq_true rfl) (fun sc => ?_)
  show E sc _ _ _ _ _ 0 [(2, a)] [] sh σ
  refine E_aload_n d_X8_init_0 rfl (by decide) ?_
  refine E_objinit d_X8_init_1 ow_X8 ⟨isO_nn h, by decide, Nat.le_of_ble_eq_true rfl⟩ ?_
  refine E_aload_n d_X8_init_4 rfl (by decide) ?_
  refine E_bipush d_X8_init_5 (c8 rfl) ?_
  refine E_newarrD (n := sh.length + 0) (N := 60) (sh' := sh ++ [(21, 60)]) (σ' := I_X8_init_1 σ sh.length a) d_X8_init_7 rfl aw_long (Or.inr (Or.inl ⟨rfl, rfl, rfl⟩)) ⟨rfl, by decide⟩ (by simp) rfl rfl ⟨by simp only [List.length_append, List.length_cons, List.length_nil]; omega, by simp only [tot_new]; omega⟩ ?_
  refine E_putD (σ' := I_X8_init_2 σ sh.length a) d_X8_init_9 okX8 fc_X8_9 ⟨by decide, rfl⟩ (Or.inr (Or.inr (Or.inr (Or.inr ⟨⟨_, rfl⟩, rfl⟩)))) (Or.inr ⟨rfl, rfl, rfl, fc_X8_9_w⟩) (isO_app h) rfl ?_
  refine E_aload_n d_X8_init_12 rfl (by decide) ?_
  refine E_iconst d_X8_init_13 (c32 rfl) ?_
  refine E_putD (σ' := I_X8_init_3 σ sh.length a) d_X8_init_14 okX8 fc_X8_15 ⟨by decide, rfl⟩ (Or.inl ⟨rfl, rfl⟩) (Or.inl rfl) (isO_app h) rfl ?_
  exact E_vret d_X8_init_17 rfl
def I_X4_init_1 (σ : Mem) (n : Nat) (a b1 b2 : Int) : Mem := nwm (σ) (n + 0) 20
def I_X4_init_2 (σ : Mem) (n : Nat) (a b1 b2 : Int) : Mem := upm (I_X4_init_1 σ n a b1 b2) a.toNat 2 ((n + 0 : Nat) : Int)
def I_X4_init_3 (σ : Mem) (n : Nat) (a b1 b2 : Int) : Mem := upm (I_X4_init_2 σ n a b1 b2) a.toNat 0 b1
def I_X4_init_4 (σ : Mem) (n : Nat) (a b1 b2 : Int) : Mem := upm (I_X4_init_3 σ n a b1 b2) a.toNat 1 b2
abbrev I_X4_init (σ : Mem) (n : Nat) (a b1 b2 : Int) : Mem := I_X4_init_4 σ n a b1 b2
theorem C_X4_init {sh : Shp} {σ : Mem} {n : Nat} {a b1 b2 : Int} (hn : n = sh.length) (h : isO sh 4 a = true) : Cn mt_X4_init 2 [(2, a), (2, b1), (2, b2)] sh σ none (sh ++ [(20, 60)]) (I_X4_init σ n a b1 b2) := by
  subst hn
  refine Cn_of mk_X4_init.1.2.2.1 (Nat.le_of_ble_eq_true rfl) (fun sc => ?_)
  show E sc _ _ _ _ _ 0 [(2, a), (2, b1), (2, b2)] [] sh σ
  refine E_aload_n d_X4_init_0 rfl (by decide) ?_
  refine E_objinit d_X4_init_1 ow_X4 ⟨isO_nn h, by decide, Nat.le_of_ble_eq_true rfl⟩ ?_
  refine E_aload_n d_X4_init_4 rfl (by decide) ?_
  refine E_bipush d_X4_init_5 (c8 rfl) ?_
  refine E_newarrD (n := sh.length + 0) (N := 60) (sh' := sh ++ [(20, 60)]) (σ' := I_X4_init_1 σ sh.length a b1 b2) d_X4_init_7 rfl aw_int (Or.inl ⟨rfl, rfl, rfl⟩) ⟨rfl, by decide⟩ (by simp) rfl rfl ⟨by simp only [List.length_append, List.length_cons, List.length_nil]; omega, by simp only [tot_new]; omega⟩ ?_
  refine E_putD (σ' := I_X4_init_2 σ sh.length a b1 b2) d_X4_init_9 okX4 fc_X4_9 ⟨by decide, rfl⟩ (Or.inr (Or.inr (Or.inr (Or.inr ⟨⟨_, rfl⟩, rfl⟩)))) (Or.inr ⟨rfl, rfl, rfl, fc_X4_9_w⟩) (isO_app h) rfl ?_
  refine E_aload_n d_X4_init_12 rfl (by decide) ?_
  refine E_aload_n d_X4_init_13 rfl (by decide) ?_
  refine E_putD (σ' := I_X4_init_3 σ sh.length a b1 b2) d_X4_init_14 okX4 fc_X4_15 ⟨by decide, rfl⟩ (Or.inr (Or.inr (Or.inr (Or.inl ⟨⟨_, rfl⟩, rfl⟩)))) (Or.inr ⟨rfl, rfl, rfl, fc_X4_15_w⟩) (isO_app h) rfl ?_
  refine E_aload_n d_X4_init_17 rfl (by decide) ?_
  refine E_aload_n d_X4_init_18 rfl (by decide) ?_
  refine E_putD (σ' := I_X4_init_4 σ sh.length a b1 b2) d_X4_init_19 okX4 fc_X4_19 ⟨by decide, rfl⟩ (Or.inr (Or.inr (Or.inr (Or.inl ⟨⟨_, rfl⟩, rfl⟩)))) (Or.inr ⟨rfl, rfl, rfl, fc_X4_19_w⟩) (isO_app h) rfl ?_
  exact E_vret d_X4_init_22 rfl
def I_X10_init_1 (σ : Mem) (n : Nat) (a b1 : Int) : Mem := nwm (σ) (n + 0) 9
def I_X10_init_2 (σ : Mem) (n : Nat) (a b1 : Int) : Mem := I_X9_init (I_X10_init_1 σ n a b1) (n + 1) ((n + 0 : Nat) : Int)
def I_X10_init_3 (σ : Mem) (n : Nat) (a b1 : Int) : Mem := upm (I_X10_init_2 σ n a b1) a.toNat 1 ((n + 0 : Nat) : Int)
def I_X10_init_4 (σ : Mem) (n : Nat) (a b1 : Int) : Mem := upm (I_X10_init_3 σ n a b1) a.toNat 0 b1
abbrev I_X10_init (σ : Mem) (n : Nat) (a b1 : Int) : Mem := I_X10_init_4 σ n a b1
theorem C_X10_init {sh : Shp} {σ : Mem} {n : Nat} {a b1 : Int} (hn : n = sh.length) (h : isO sh 10 a = true) : Cn mt_X10_init 3 [(2, a), (2, b1)] sh σ none (sh ++ [(9, 16)] ++ [(20, 10)] ++ [(20, 10)] ++ [(20, 10)] ++ [(20, 10)] ++ [(21, 10)] ++ [(20, 4)] ++ [(23, 4)] ++ [(21, 4)]) (I_X10_init σ n a b1) := by
  subst hn
  refine Cn_of mk_X10_init.1.2.2.1 (Nat.le_of_ble_eq_true rfl) (fun sc => ?_)
  show E sc _ _ _ _ _ 0 [(2, a), (2, b1)] [] sh σ
  refine E_aload_n d_X10_init_0 rfl (by decide) ?_
  refine E_objinit d_X10_init_1 ow_X10 ⟨isO_nn h, by decide, Nat.le_of_ble_eq_true rfl⟩ ?_
  refine E_aload_n d_X10_init_4 rfl (by decide) ?_
  refine E_newD (n := sh.length + 0) (sh' := sh ++ [(9, 16)]) (σ' := I_X10_init_1 σ sh.length a b1) d_X10_init_5 okX9 okD9 nw_X10_9 (by simp) rfl rfl ⟨by simp only [List.length_append, List.length_cons, List.length_nil]; omega, by simp only [tot_new]; omega⟩ ?_
  refine E_dupT d_X10_init_8 (by decide) ?_
  refine E_iI (as := []) (st := [(2, ((sh.length + 0 : Nat) : Int)), (2, a)]) (a := ((sh.length + 0 : Nat) : Int)) (sh' := sh ++ [(9, 16)] ++ [(20, 10)] ++ [(20, 10)] ++ [(20, 10)] ++ [(20, 10)] ++ [(21, 10)] ++ [(20, 4)] ++ [(23, 4)] ++ [(21, 4)]) (σ' := I_X10_init_2 σ sh.length a b1) d_X10_init_9 mk_X9_init nl_X10_11 (by decide) ⟨rfl, rfl, Nat.le_of_ble_eq_true rfl⟩ (by omega) (C_X9_init (n := sh.length + 1) (by simp) (isO_last (by simp) rfl)) ⟨by simp only [List.length_append, List.length_cons, List.length_nil]; omega, by simp only [tot_new]; omega, by simp only [List.length_append, List.length_cons, List.length_nil]; omega, by simp only [tot_new]; omega⟩ ?_
  refine E_putD (σ' := I_X10_init_3 σ sh.length a b1) d_X10_init_12 okX10 fc_X10_12 ⟨by decide, rfl⟩ (Or.inr (Or.inr (Or.inr (Or.inl ⟨⟨_, rfl⟩, rfl⟩)))) (Or.inr ⟨rfl, rfl, rfl, fc_X10_12_w⟩) (isO_app (isO_app (isO_app (isO_app (isO_app (isO_app (isO_app (isO_app (isO_app h))))))))) rfl ?_
  refine E_aload_n d_X10_init_15 rfl (by decide) ?_
  refine E_aload_n d_X10_init_16 rfl (by decide) ?_
  refine E_putD (σ' := I_X10_init_4 σ sh.length a b1) d_X10_init_17 okX10 fc_X10_18 ⟨by decide, rfl⟩ (Or.inr (Or.inr (Or.inr (Or.inl ⟨⟨_, rfl⟩, rfl⟩)))) (Or.inr ⟨rfl, rfl, rfl, fc_X10_18_w⟩) (isO_app (isO_app (isO_app (isO_app (isO_app (isO_app (isO_app (isO_app (isO_app h))))))))) rfl ?_
  exact E_vret d_X10_init_20 rfl
def I_X6_init_1 (σ : Mem) (n : Nat) (a b1 b2 : Int) : Mem := nwm (σ) (n + 0) 5
def I_X6_init_2 (σ : Mem) (n : Nat) (a b1 b2 : Int) : Mem := I_X5_init (I_X6_init_1 σ n a b1 b2) (n + 1) ((n + 0 : Nat) : Int)
def I_X6_init_3 (σ : Mem) (n : Nat) (a b1 b2 : Int) : Mem := upm (I_X6_init_2 σ n a b1 b2) a.toNat 2 ((n + 0 : Nat) : Int)
def I_X6_init_4 (σ : Mem) (n : Nat) (a b1 b2 : Int) : Mem := nwm (I_X6_init_3 σ n a b1 b2) (n + 6) 20
def I_X6_init_5 (σ : Mem) (n : Nat) (a b1 b2 : Int) : Mem := upm (I_X6_init_4 σ n a b1 b2) a.toNat 3 ((n + 6 : Nat) : Int)
def I_X6_init_6 (σ : Mem) (n : Nat) (a b1 b2 : Int) : Mem := upm (I_X6_init_5 σ n a b1 b2) a.toNat 0 b1
def I_X6_init_7 (σ : Mem) (n : Nat) (a b1 b2 : Int) : Mem := upm (I_X6_init_6 σ n a b1 b2) a.toNat 1 b2
abbrev I_X6_init (σ : Mem) (n : Nat) (a b1 b2 : Int) : Mem := I_X6_init_7 σ n a b1 b2
theorem C_X6_init {sh : Shp} {σ : Mem} {n : Nat} {a b1 b2 : Int} (hn : n = sh.length) (h : isO sh 6 a = true) : Cn mt_X6_init 3 [(2, a), (2, b1), (2, b2)] sh σ none (sh ++ [(5, 8)] ++ [(20, 60)] ++ [(20, 60)] ++ [(20, 60)] ++ [(20, 60)] ++ [(20, 60)] ++ [(20, 3)]) (I_X6_init σ n a b1 b2) := by
  subst hn
  refine Cn_of mk_X6_init.1.2.2.1 (Nat.le_of_ble_eq_true rfl) (fun sc => ?_)
  show E sc _ _ _ _ _ 0 [(2, a), (2, b1), (2, b2)] [] sh σ
  refine E_aload_n d_X6_init_0 rfl (by decide) ?_
  refine E_objinit d_X6_init_1 ow_X6 ⟨isO_nn h, by decide, Nat.le_of_ble_eq_true rfl⟩ ?_
  refine E_aload_n d_X6_init_4 rfl (by decide) ?_
  refine E_newD (n := sh.length + 0) (sh' := sh ++ [(5, 8)]) (σ' := I_X6_init_1 σ sh.length a b1 b2) d_X6_init_5 okX5 okD5 nw_X6_9 (by simp) rfl rfl ⟨by simp only [List.length_append, List.length_cons, List.length_nil]; omega, by simp only [tot_new]; omega⟩ ?_
  refine E_dupT d_X6_init_8 (by decide) ?_
  refine E_iI (as := []) (st := [(2, ((sh.length + 0 : Nat) : Int)), (2, a)]) (a := ((sh.length + 0 : Nat) : Int)) (sh' := sh ++ [(5, 8)] ++ [(20, 60)] ++ [(20, 60)] ++ [(20, 60)] ++ [(20, 60)] ++ [(20, 60)]) (σ' := I_X6_init_2 σ sh.length a b1 b2) d_X6_init_9 mk_X5_init nl_X6_11 (by decide) ⟨rfl, rfl, Nat.le_of_ble_eq_true rfl⟩ (by omega) (C_X5_init (n := sh.length + 1) (by simp) (isO_last (by simp) rfl)) ⟨by simp only [List.length_append, List.length_cons, List.length_nil]; omega, by simp only [tot_new]; omega, by simp only [List.length_append, List.length_cons, List.length_nil]; omega, by simp only [tot_new]; omega⟩ ?_
  refine E_putD (σ' := I_X6_init_3 σ sh.length a b1 b2) d_X6_init_12 okX6 fc_X6_12 ⟨by decide, rfl⟩ (Or.inr (Or.inr (Or.inr (Or.inl ⟨⟨_, rfl⟩, rfl⟩)))) (Or.inr ⟨rfl, rfl, rfl, fc_X6_12_w⟩) (isO_app (isO_app (isO_app (isO_app (isO_app (isO_app h)))))) rfl ?_
  refine E_aload_n d_X6_init_15 rfl (by decide) ?_
  refine E_iconst d_X6_init_16 (c32 rfl) ?_
  refine E_newarrD (n := sh.length + 6) (N := 3) (sh' := sh ++ [(5, 8)] ++ [(20, 60)] ++ [(20, 60)] ++ [(20, 60)] ++ [(20, 60)] ++ [(20, 60)] ++ [(20, 3)]) (σ' := I_X6_init_4 σ sh.length a b1 b2) d_X6_init_17 rfl aw_int (Or.inl ⟨rfl, rfl, rfl⟩) ⟨rfl, by decide⟩ (by simp) rfl rfl ⟨by simp only [List.length_append, List.length_cons, List.length_nil]; omega, by simp only [tot_new]; omega⟩ ?_
  refine E_putD (σ' := I_X6_init_5 σ sh.length a b1 b2) d_X6_init_19 okX6 fc_X6_18 ⟨by decide, rfl⟩ (Or.inr (Or.inr (Or.inr (Or.inr ⟨⟨_, rfl⟩, rfl⟩)))) (Or.inr ⟨rfl, rfl, rfl, fc_X6_18_w⟩) (isO_app (isO_app (isO_app (isO_app (isO_app (isO_app (isO_app h))))))) rfl ?_
  refine E_aload_n d_X6_init_22 rfl (by decide) ?_
  refine E_aload_n d_X6_init_23 rfl (by decide) ?_
  refine E_putD (σ' := I_X6_init_6 σ sh.length a b1 b2) d_X6_init_24 okX6 fc_X6_22 ⟨by decide, rfl⟩ (Or.inr (Or.inr (Or.inr (Or.inl ⟨⟨_, rfl⟩, rfl⟩)))) (Or.inr ⟨rfl, rfl, rfl, fc_X6_22_w⟩) (isO_app (isO_app (isO_app (isO_app (isO_app (isO_app (isO_app h))))))) rfl ?_
  refine E_aload_n d_X6_init_27 rfl (by decide) ?_
  refine E_aload_n d_X6_init_28 rfl (by decide) ?_
  refine E_putD (σ' := I_X6_init_7 σ sh.length a b1 b2) d_X6_init_29 okX6 fc_X6_26 ⟨by decide, rfl⟩ (Or.inr (Or.inr (Or.inr (Or.inl ⟨⟨_, rfl⟩, rfl⟩)))) (Or.inr ⟨rfl, rfl, rfl, fc_X6_26_w⟩) (isO_app (isO_app (isO_app (isO_app (isO_app (isO_app (isO_app h))))))) rfl ?_
  exact E_vret d_X6_init_32 rfl
