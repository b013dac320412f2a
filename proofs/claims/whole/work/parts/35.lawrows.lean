set_option maxRecDepth 20000 in
theorem nl_L_100 : NL "ParapetCourtLaw" 100 mt_X12_clear.1 := Or.inl (tb_8 _ (List.mem_of_getElem? (i := 149) rfl))
set_option maxRecDepth 20000 in
theorem nl_L_101 : NL "ParapetCourtLaw" 101 mt_X11_open.1 := Or.inl (tb_4 _ (List.mem_of_getElem? (i := 219) rfl))
set_option maxRecDepth 20000 in
theorem nl_L_105 : NL "ParapetCourtLaw" 105 mt_X12_open.1 := Or.inl (tb_8 _ (List.mem_of_getElem? (i := 157) rfl))
set_option maxRecDepth 20000 in
theorem nl_L_106 : NL "ParapetCourtLaw" 106 mt_X11_mend.1 := Or.inl (tb_4 _ (List.mem_of_getElem? (i := 224) rfl))
set_option maxRecDepth 20000 in
theorem nl_L_109 : NL "ParapetCourtLaw" 109 mt_X12_mend.1 := Or.inl (tb_8 _ (List.mem_of_getElem? (i := 161) rfl))
set_option maxRecDepth 20000 in
theorem nl_L_110 : NL "ParapetCourtLaw" 110 mt_X11_fly.1 := Or.inl (tb_4 _ (List.mem_of_getElem? (i := 229) rfl))
set_option maxRecDepth 20000 in
theorem nl_L_113 : NL "ParapetCourtLaw" 113 mt_X12_fly.1 := Or.inl (tb_8 _ (List.mem_of_getElem? (i := 165) rfl))
set_option maxRecDepth 20000 in
theorem nl_L_114 : NL "ParapetCourtLaw" 114 mt_X11_hatch.1 := Or.inl (tb_4 _ (List.mem_of_getElem? (i := 234) rfl))
set_option maxRecDepth 20000 in
theorem nl_L_118 : NL "ParapetCourtLaw" 118 mt_X12_hatch.1 := Or.inl (tb_8 _ (List.mem_of_getElem? (i := 173) rfl))
set_option maxRecDepth 20000 in
theorem nl_L_119 : NL "ParapetCourtLaw" 119 mt_X11_rule.1 := Or.inl (tb_4 _ (List.mem_of_getElem? (i := 239) rfl))
set_option maxRecDepth 20000 in
theorem nl_L_122 : NL "ParapetCourtLaw" 122 mt_X12_rule.1 := Or.inl (tb_8 _ (List.mem_of_getElem? (i := 177) rfl))
set_option maxRecDepth 20000 in
theorem nl_L_123 : NL "ParapetCourtLaw" 123 mt_X11_far.1 := Or.inl (tb_5 _ (List.mem_of_getElem? (i := 3) rfl))
set_option maxRecDepth 20000 in
theorem nl_L_126 : NL "ParapetCourtLaw" 126 mt_X12_far.1 := Or.inl (tb_8 _ (List.mem_of_getElem? (i := 182) rfl))
set_option maxRecDepth 20000 in
theorem nl_L_127 : NL "ParapetCourtLaw" 127 mt_X11_mercy.1 := Or.inl (tb_5 _ (List.mem_of_getElem? (i := 13) rfl))
set_option maxRecDepth 20000 in
theorem nl_L_13 : NL "ParapetCourtLaw" 13 mt_X11_status.1 := Or.inl (tb_3 _ (List.mem_of_getElem? (i := 48) rfl))
set_option maxRecDepth 20000 in
theorem nl_L_130 : NL "ParapetCourtLaw" 130 mt_X12_mercy.1 := Or.inl (tb_8 _ (List.mem_of_getElem? (i := 186) rfl))
set_option maxRecDepth 20000 in
theorem nl_L_131 : NL "ParapetCourtLaw" 131 mt_X11_turned.1 := Or.inl (tb_5 _ (List.mem_of_getElem? (i := 17) rfl))
set_option maxRecDepth 20000 in
theorem nl_L_134 : NL "ParapetCourtLaw" 134 mt_X12_turned.1 := Or.inl (tb_8 _ (List.mem_of_getElem? (i := 190) rfl))
set_option maxRecDepth 20000 in
theorem nl_L_135 : NL "ParapetCourtLaw" 135 mt_X11_verdict.1 := Or.inl (tb_5 _ (List.mem_of_getElem? (i := 22) rfl))
set_option maxRecDepth 20000 in
theorem nl_L_138 : NL "ParapetCourtLaw" 138 mt_X12_verdict.1 := Or.inl (tb_8 _ (List.mem_of_getElem? (i := 194) rfl))
set_option maxRecDepth 20000 in
theorem nl_L_139 : NL "ParapetCourtLaw" 139 mt_X11_stand.1 := Or.inl (tb_5 _ (List.mem_of_getElem? (i := 30) rfl))
set_option maxRecDepth 20000 in
theorem nl_L_142 : NL "ParapetCourtLaw" 142 mt_X12_stand.1 := Or.inl (tb_8 _ (List.mem_of_getElem? (i := 198) rfl))
set_option maxRecDepth 20000 in
theorem nl_L_143 : NL "ParapetCourtLaw" 143 mt_X11_fall.1 := Or.inl (tb_5 _ (List.mem_of_getElem? (i := 46) rfl))
set_option maxRecDepth 20000 in
theorem nl_L_146 : NL "ParapetCourtLaw" 146 mt_X12_fall.1 := Or.inl (tb_8 _ (List.mem_of_getElem? (i := 206) rfl))
set_option maxRecDepth 20000 in
theorem nl_L_147 : NL "ParapetCourtLaw" 147 mt_X11_least.1 := Or.inl (tb_5 _ (List.mem_of_getElem? (i := 50) rfl))
set_option maxRecDepth 20000 in
theorem nl_L_150 : NL "ParapetCourtLaw" 150 mt_X12_least.1 := Or.inl (tb_8 _ (List.mem_of_getElem? (i := 210) rfl))
set_option maxRecDepth 20000 in
theorem nl_L_151 : NL "ParapetCourtLaw" 151 mt_X11_freeIn.1 := Or.inl (tb_5 _ (List.mem_of_getElem? (i := 59) rfl))
set_option maxRecDepth 20000 in
theorem nl_L_154 : NL "ParapetCourtLaw" 154 mt_X12_freeIn.1 := Or.inl (tb_8 _ (List.mem_of_getElem? (i := 214) rfl))
set_option maxRecDepth 20000 in
theorem nl_L_155 : NL "ParapetCourtLaw" 155 mt_X11_fits.1 := Or.inl (tb_5 _ (List.mem_of_getElem? (i := 67) rfl))
set_option maxRecDepth 20000 in
theorem nl_L_158 : NL "ParapetCourtLaw" 158 mt_X12_fits.1 := Or.inl (tb_8 _ (List.mem_of_getElem? (i := 218) rfl))
set_option maxRecDepth 20000 in
theorem nl_L_159 : NL "ParapetCourtLaw" 159 mt_X11_fitsBy.1 := Or.inl (tb_5 _ (List.mem_of_getElem? (i := 96) rfl))
set_option maxRecDepth 20000 in
theorem nl_L_163 : NL "ParapetCourtLaw" 163 mt_X12_fitsBy.1 := Or.inl (tb_8 _ (List.mem_of_getElem? (i := 239) rfl))
set_option maxRecDepth 20000 in
theorem nl_L_164 : NL "ParapetCourtLaw" 164 mt_X11_ask.1 := Or.inl (tb_5 _ (List.mem_of_getElem? (i := 100) rfl))
set_option maxRecDepth 20000 in
theorem nl_L_167 : NL "ParapetCourtLaw" 167 mt_X12_ask.1 := Or.inl (tb_9 _ (List.mem_of_getElem? (i := 3) rfl))
set_option maxRecDepth 20000 in
theorem nl_L_168 : NL "ParapetCourtLaw" 168 mt_X11_cuts.1 := Or.inl (tb_5 _ (List.mem_of_getElem? (i := 115) rfl))
set_option maxRecDepth 20000 in
theorem nl_L_17 : NL "ParapetCourtLaw" 17 mt_X12_status.1 := Or.inl (tb_7 _ (List.mem_of_getElem? (i := 31) rfl))
set_option maxRecDepth 20000 in
theorem nl_L_171 : NL "ParapetCourtLaw" 171 mt_X12_cuts.1 := Or.inl (tb_9 _ (List.mem_of_getElem? (i := 7) rfl))
set_option maxRecDepth 20000 in
theorem nl_L_172 : NL "ParapetCourtLaw" 172 mt_X11_cutOf.1 := Or.inl (tb_5 _ (List.mem_of_getElem? (i := 149) rfl))
set_option maxRecDepth 20000 in
theorem nl_L_175 : NL "ParapetCourtLaw" 175 mt_X12_cutOf.1 := Or.inl (tb_9 _ (List.mem_of_getElem? (i := 28) rfl))
set_option maxRecDepth 20000 in
theorem nl_L_176 : NL "ParapetCourtLaw" 176 mt_X11_windows.1 := Or.inl (tb_5 _ (List.mem_of_getElem? (i := 157) rfl))
set_option maxRecDepth 20000 in
theorem nl_L_179 : NL "ParapetCourtLaw" 179 mt_X12_windows.1 := Or.inl (tb_9 _ (List.mem_of_getElem? (i := 32) rfl))
set_option maxRecDepth 20000 in
theorem nl_L_18 : NL "ParapetCourtLaw" 18 mt_X11_top.1 := Or.inl (tb_3 _ (List.mem_of_getElem? (i := 52) rfl))
set_option maxRecDepth 20000 in
theorem nl_L_180 : NL "ParapetCourtLaw" 180 mt_X11_windowSet.1 := Or.inl (tb_5 _ (List.mem_of_getElem? (i := 171) rfl))
set_option maxRecDepth 20000 in
theorem nl_L_183 : NL "ParapetCourtLaw" 183 mt_X12_windowSet.1 := Or.inl (tb_9 _ (List.mem_of_getElem? (i := 44) rfl))
set_option maxRecDepth 20000 in
theorem nl_L_184 : NL "ParapetCourtLaw" 184 mt_X11_walk.1 := Or.inl (tb_5 _ (List.mem_of_getElem? (i := 175) rfl))
set_option maxRecDepth 20000 in
theorem nl_L_187 : NL "ParapetCourtLaw" 187 mt_X12_walk.1 := Or.inl (tb_9 _ (List.mem_of_getElem? (i := 48) rfl))
set_option maxRecDepth 20000 in
theorem nl_L_188 : NL "ParapetCourtLaw" 188 mt_X11_walkAt.1 := Or.inl (tb_5 _ (List.mem_of_getElem? (i := 198) rfl))
set_option maxRecDepth 20000 in
theorem nl_L_191 : NL "ParapetCourtLaw" 191 mt_X12_walkAt.1 := Or.inl (tb_9 _ (List.mem_of_getElem? (i := 60) rfl))
set_option maxRecDepth 20000 in
theorem nl_L_192 : NL "ParapetCourtLaw" 192 mt_X11_longest.1 := Or.inl (tb_5 _ (List.mem_of_getElem? (i := 203) rfl))
set_option maxRecDepth 20000 in
theorem nl_L_195 : NL "ParapetCourtLaw" 195 mt_X12_longest.1 := Or.inl (tb_9 _ (List.mem_of_getElem? (i := 64) rfl))
set_option maxRecDepth 20000 in
theorem nl_L_196 : NL "ParapetCourtLaw" 196 mt_X11_game.1 := Or.inl (tb_5 _ (List.mem_of_getElem? (i := 212) rfl))
set_option maxRecDepth 20000 in
theorem nl_L_199 : NL "ParapetCourtLaw" 199 mt_X12_game.1 := Or.inl (tb_9 _ (List.mem_of_getElem? (i := 68) rfl))
set_option maxRecDepth 20000 in
theorem nl_L_200 : NL "ParapetCourtLaw" 200 mt_X11_moveOf.1 := Or.inl (tb_6 _ (List.mem_of_getElem? (i := 8) rfl))
set_option maxRecDepth 20000 in
theorem nl_L_203 : NL "ParapetCourtLaw" 203 mt_X12_moveOf.1 := Or.inl (tb_9 _ (List.mem_of_getElem? (i := 84) rfl))
set_option maxRecDepth 20000 in
theorem nl_L_204 : NL "ParapetCourtLaw" 204 mt_X11_lot.1 := Or.inl (tb_6 _ (List.mem_of_getElem? (i := 20) rfl))
set_option maxRecDepth 20000 in
theorem nl_L_208 : NL "ParapetCourtLaw" 208 mt_X12_lot.1 := Or.inl (tb_9 _ (List.mem_of_getElem? (i := 88) rfl))
set_option maxRecDepth 20000 in
theorem nl_L_209 : NL "ParapetCourtLaw" 209 mt_X11_couples.1 := Or.inl (tb_6 _ (List.mem_of_getElem? (i := 32) rfl))
set_option maxRecDepth 20000 in
theorem nl_L_212 : NL "ParapetCourtLaw" 212 mt_X12_couples.1 := Or.inl (tb_9 _ (List.mem_of_getElem? (i := 99) rfl))
set_option maxRecDepth 20000 in
theorem nl_L_213 : NL "ParapetCourtLaw" 213 mt_X11_live.1 := Or.inl (tb_6 _ (List.mem_of_getElem? (i := 45) rfl))
set_option maxRecDepth 20000 in
theorem nl_L_216 : NL "ParapetCourtLaw" 216 mt_X12_live.1 := Or.inl (tb_9 _ (List.mem_of_getElem? (i := 104) rfl))
set_option maxRecDepth 20000 in
theorem nl_L_217 : NL "ParapetCourtLaw" 217 mt_X11_lived.1 := Or.inl (tb_6 _ (List.mem_of_getElem? (i := 109) rfl))
set_option maxRecDepth 20000 in
theorem nl_L_22 : NL "ParapetCourtLaw" 22 mt_X12_top.1 := Or.inl (tb_7 _ (List.mem_of_getElem? (i := 35) rfl))
set_option maxRecDepth 20000 in
theorem nl_L_220 : NL "ParapetCourtLaw" 220 mt_X12_lived.1 := Or.inl (tb_9 _ (List.mem_of_getElem? (i := 146) rfl))
set_option maxRecDepth 20000 in
theorem nl_L_221 : NL "ParapetCourtLaw" 221 mt_X11_mean.1 := Or.inl (tb_6 _ (List.mem_of_getElem? (i := 113) rfl))
set_option maxRecDepth 20000 in
theorem nl_L_224 : NL "ParapetCourtLaw" 224 mt_X12_mean.1 := Or.inl (tb_9 _ (List.mem_of_getElem? (i := 150) rfl))
set_option maxRecDepth 20000 in
theorem nl_L_225 : NL "ParapetCourtLaw" 225 mt_X11_mark.1 := Or.inl (tb_6 _ (List.mem_of_getElem? (i := 117) rfl))
set_option maxRecDepth 20000 in
theorem nl_L_228 : NL "ParapetCourtLaw" 228 mt_X12_mark.1 := Or.inl (tb_9 _ (List.mem_of_getElem? (i := 154) rfl))
set_option maxRecDepth 20000 in
theorem nl_L_229 : NL "ParapetCourtLaw" 229 mt_X11_back.1 := Or.inl (tb_6 _ (List.mem_of_getElem? (i := 121) rfl))
set_option maxRecDepth 20000 in
theorem nl_L_23 : NL "ParapetCourtLaw" 23 mt_X11_bottom.1 := Or.inl (tb_3 _ (List.mem_of_getElem? (i := 56) rfl))
set_option maxRecDepth 20000 in
theorem nl_L_232 : NL "ParapetCourtLaw" 232 mt_X12_back.1 := Or.inl (tb_9 _ (List.mem_of_getElem? (i := 158) rfl))
set_option maxRecDepth 20000 in
theorem nl_L_26 : NL "ParapetCourtLaw" 26 mt_X12_bottom.1 := Or.inl (tb_7 _ (List.mem_of_getElem? (i := 39) rfl))
set_option maxRecDepth 20000 in
theorem nl_L_27 : NL "ParapetCourtLaw" 27 mt_X11_tray.1 := Or.inl (tb_3 _ (List.mem_of_getElem? (i := 60) rfl))
set_option maxRecDepth 20000 in
theorem nl_L_31 : NL "ParapetCourtLaw" 31 mt_X12_tray.1 := Or.inl (tb_7 _ (List.mem_of_getElem? (i := 43) rfl))
set_option maxRecDepth 20000 in
theorem nl_L_34 : NL "ParapetCourtLaw" 34 mt_X11_write.1 := Or.inl (tb_3 _ (List.mem_of_getElem? (i := 78) rfl))
set_option maxRecDepth 20000 in
theorem nl_L_38 : NL "ParapetCourtLaw" 38 mt_X12_write.1 := Or.inl (tb_7 _ (List.mem_of_getElem? (i := 51) rfl))
set_option maxRecDepth 20000 in
theorem nl_L_39 : NL "ParapetCourtLaw" 39 mt_X11_read.1 := Or.inl (tb_3 _ (List.mem_of_getElem? (i := 98) rfl))
set_option maxRecDepth 20000 in
theorem nl_L_43 : NL "ParapetCourtLaw" 43 mt_X12_read.1 := Or.inl (tb_7 _ (List.mem_of_getElem? (i := 66) rfl))
set_option maxRecDepth 20000 in
theorem nl_L_44 : NL "ParapetCourtLaw" 44 mt_X11_pour.1 := Or.inl (tb_3 _ (List.mem_of_getElem? (i := 103) rfl))
set_option maxRecDepth 20000 in
theorem nl_L_48 : NL "ParapetCourtLaw" 48 mt_X12_pour.1 := Or.inl (tb_7 _ (List.mem_of_getElem? (i := 71) rfl))
set_option maxRecDepth 20000 in
theorem nl_L_49 : NL "ParapetCourtLaw" 49 mt_X11_feed.1 := Or.inl (tb_3 _ (List.mem_of_getElem? (i := 114) rfl))
set_option maxRecDepth 20000 in
theorem nl_L_53 : NL "ParapetCourtLaw" 53 mt_X12_feed.1 := Or.inl (tb_7 _ (List.mem_of_getElem? (i := 75) rfl))
set_option maxRecDepth 20000 in
theorem nl_L_54 : NL "ParapetCourtLaw" 54 mt_X11_wall.1 := Or.inl (tb_3 _ (List.mem_of_getElem? (i := 122) rfl))
set_option maxRecDepth 20000 in
theorem nl_L_58 : NL "ParapetCourtLaw" 58 mt_X12_wall.1 := Or.inl (tb_7 _ (List.mem_of_getElem? (i := 87) rfl))
set_option maxRecDepth 20000 in
theorem nl_L_59 : NL "ParapetCourtLaw" 59 mt_X11_terms.1 := Or.inl (tb_4 _ (List.mem_of_getElem? (i := 33) rfl))
set_option maxRecDepth 20000 in
theorem nl_L_62 : NL "ParapetCourtLaw" 62 mt_X12_terms.1 := Or.inl (tb_8 _ (List.mem_of_getElem? (i := 19) rfl))
set_option maxRecDepth 20000 in
theorem nl_L_63 : NL "ParapetCourtLaw" 63 mt_X11_fault.1 := Or.inl (tb_4 _ (List.mem_of_getElem? (i := 108) rfl))
set_option maxRecDepth 20000 in
theorem nl_L_66 : NL "ParapetCourtLaw" 66 mt_X12_fault.1 := Or.inl (tb_7 _ (List.mem_of_getElem? (i := 83) rfl))
set_option maxRecDepth 20000 in
theorem nl_L_67 : NL "ParapetCourtLaw" 67 mt_X11_many.1 := Or.inl (tb_4 _ (List.mem_of_getElem? (i := 112) rfl))
set_option maxRecDepth 20000 in
theorem nl_L_70 : NL "ParapetCourtLaw" 70 mt_X12_many.1 := Or.inl (tb_8 _ (List.mem_of_getElem? (i := 39) rfl))
set_option maxRecDepth 20000 in
theorem nl_L_71 : NL "ParapetCourtLaw" 71 mt_X11_stone.1 := Or.inl (tb_4 _ (List.mem_of_getElem? (i := 130) rfl))
set_option maxRecDepth 20000 in
theorem nl_L_75 : NL "ParapetCourtLaw" 75 mt_X12_stone.1 := Or.inl (tb_8 _ (List.mem_of_getElem? (i := 66) rfl))
set_option maxRecDepth 20000 in
theorem nl_L_76 : NL "ParapetCourtLaw" 76 mt_X11_crow.1 := Or.inl (tb_4 _ (List.mem_of_getElem? (i := 158) rfl))
set_option maxRecDepth 20000 in
theorem nl_L_79 : NL "ParapetCourtLaw" 79 mt_X12_crow.1 := Or.inl (tb_8 _ (List.mem_of_getElem? (i := 89) rfl))
set_option maxRecDepth 20000 in
theorem nl_L_80 : NL "ParapetCourtLaw" 80 mt_X11_copyMoss.1 := Or.inl (tb_4 _ (List.mem_of_getElem? (i := 166) rfl))
set_option maxRecDepth 20000 in
theorem nl_L_83 : NL "ParapetCourtLaw" 83 mt_X12_copyMoss.1 := Or.inl (tb_8 _ (List.mem_of_getElem? (i := 97) rfl))
set_option maxRecDepth 20000 in
theorem nl_L_84 : NL "ParapetCourtLaw" 84 mt_X11_judge.1 := Or.inl (tb_4 _ (List.mem_of_getElem? (i := 170) rfl))
set_option maxRecDepth 20000 in
theorem nl_L_88 : NL "ParapetCourtLaw" 88 mt_X12_judge.1 := Or.inl (tb_8 _ (List.mem_of_getElem? (i := 107) rfl))
set_option maxRecDepth 20000 in
theorem nl_L_89 : NL "ParapetCourtLaw" 89 mt_X11_year.1 := Or.inl (tb_4 _ (List.mem_of_getElem? (i := 200) rfl))
set_option maxRecDepth 20000 in
theorem nl_L_92 : NL "ParapetCourtLaw" 92 mt_X12_year.1 := Or.inl (tb_8 _ (List.mem_of_getElem? (i := 136) rfl))
set_option maxRecDepth 20000 in
theorem nl_L_93 : NL "ParapetCourtLaw" 93 mt_X11_carve.1 := Or.inl (tb_4 _ (List.mem_of_getElem? (i := 208) rfl))
set_option maxRecDepth 20000 in
theorem nl_L_96 : NL "ParapetCourtLaw" 96 mt_X12_carve.1 := Or.inl (tb_8 _ (List.mem_of_getElem? (i := 144) rfl))
set_option maxRecDepth 20000 in
theorem nl_L_97 : NL "ParapetCourtLaw" 97 mt_X11_clear.1 := Or.inl (tb_4 _ (List.mem_of_getElem? (i := 215) rfl))
theorem kw_L_32 : Cond.constantLong "ParapetCourtLaw" 32 (Int64.ofInt 4294967295) ∈ lw_tbl ∧ R64 4294967295 := ⟨tb_9 _ (List.mem_of_getElem? (i := 162) (by decide +kernel)), ⟨by decide, by decide⟩⟩
theorem d_L_law_0 : decode mt_L_law.2.1 0 = .ok (.new 7, 3) := by decide +kernel
theorem d_L_law_3 : decode mt_L_law.2.1 3 = .ok (.dup, 1) := by decide +kernel
theorem d_L_law_4 : decode mt_L_law.2.1 4 = .ok (.invokespecial 9, 3) := by decide +kernel
theorem d_L_law_7 : decode mt_L_law.2.1 7 = .ok (.astore_n 1, 1) := by decide +kernel
theorem d_L_law_8 : decode mt_L_law.2.1 8 = .ok (.new 10, 3) := by decide +kernel
theorem d_L_law_11 : decode mt_L_law.2.1 11 = .ok (.dup, 1) := by decide +kernel
theorem d_L_law_12 : decode mt_L_law.2.1 12 = .ok (.invokespecial 12, 3) := by decide +kernel
theorem d_L_law_15 : decode mt_L_law.2.1 15 = .ok (.astore_n 2, 1) := by decide +kernel
theorem d_L_law_16 : decode mt_L_law.2.1 16 = .ok (.iconst 0, 1) := by decide +kernel
theorem d_L_law_17 : decode mt_L_law.2.1 17 = .ok (.istore_n 3, 1) := by decide +kernel
theorem d_L_law_18 : decode mt_L_law.2.1 18 = .ok (.iload_n 3, 1) := by decide +kernel
theorem d_L_law_19 : decode mt_L_law.2.1 19 = .ok (.aload_n 0, 1) := by decide +kernel
theorem d_L_law_20 : decode mt_L_law.2.1 20 = .ok (.arraylength, 1) := by decide +kernel
theorem d_L_law_21 : decode mt_L_law.2.1 21 = .ok (.bipush 6, 2) := by decide +kernel
theorem d_L_law_23 : decode mt_L_law.2.1 23 = .ok (.isub, 1) := by decide +kernel
theorem d_L_law_24 : decode mt_L_law.2.1 24 = .ok (.if_icmp .gt 1872, 3) := by decide +kernel
theorem d_L_law_27 : decode mt_L_law.2.1 27 = .ok (.aload_n 0, 1) := by decide +kernel
theorem d_L_law_28 : decode mt_L_law.2.1 28 = .ok (.iload_n 3, 1) := by decide +kernel
theorem d_L_law_29 : decode mt_L_law.2.1 29 = .ok (.iaload, 1) := by decide +kernel
theorem d_L_law_30 : decode mt_L_law.2.1 30 = .ok (.bipush 63, 2) := by decide +kernel
theorem d_L_law_32 : decode mt_L_law.2.1 32 = .ok (.iand, 1) := by decide +kernel
theorem d_L_law_33 : decode mt_L_law.2.1 33 = .ok (.tableswitch 1857 0 50 #[219, 232, 246, 260, 303, 376, 410, 473, 536, 559, 582, 605, 628, 661, 694, 717, 776, 799, 832, 855, 878, 921, 954, 1003, 1026, 1059, 1092, 1125, 1158, 1181, 1204, 1227, 1260, 1293, 1336, 1379, 1412, 1455, 1488, 1521, 1554, 1597, 1610, 1653, 1696, 1729, 1752, 1775, 1798, 1831, 1844], 219) := by decide +kernel
theorem d_L_law_252 : decode mt_L_law.2.1 252 = .ok (.aload_n 1, 1) := by decide +kernel
theorem d_L_law_253 : decode mt_L_law.2.1 253 = .ok (.invokevirtual 13, 3) := by decide +kernel
theorem d_L_law_256 : decode mt_L_law.2.1 256 = .ok (.aload_n 2, 1) := by decide +kernel
theorem d_L_law_257 : decode mt_L_law.2.1 257 = .ok (.invokevirtual 17, 3) := by decide +kernel
theorem d_L_law_260 : decode mt_L_law.2.1 260 = .ok (.if_icmp .eq 1630, 3) := by decide +kernel
theorem d_L_law_263 : decode mt_L_law.2.1 263 = .ok (.iconst 0, 1) := by decide +kernel
theorem d_L_law_264 : decode mt_L_law.2.1 264 = .ok (.ireturn, 1) := by decide +kernel
theorem d_L_law_265 : decode mt_L_law.2.1 265 = .ok (.aload_n 1, 1) := by decide +kernel
theorem d_L_law_266 : decode mt_L_law.2.1 266 = .ok (.invokevirtual 18, 3) := by decide +kernel
theorem d_L_law_269 : decode mt_L_law.2.1 269 = .ok (.aload_n 2, 1) := by decide +kernel
theorem d_L_law_270 : decode mt_L_law.2.1 270 = .ok (.invokevirtual 22, 3) := by decide +kernel
theorem d_L_law_273 : decode mt_L_law.2.1 273 = .ok (.lcmp, 1) := by decide +kernel
theorem d_L_law_274 : decode mt_L_law.2.1 274 = .ok (.ifCond .eq 1616, 3) := by decide +kernel
theorem d_L_law_277 : decode mt_L_law.2.1 277 = .ok (.iconst 0, 1) := by decide +kernel
theorem d_L_law_278 : decode mt_L_law.2.1 278 = .ok (.ireturn, 1) := by decide +kernel
theorem d_L_law_279 : decode mt_L_law.2.1 279 = .ok (.aload_n 1, 1) := by decide +kernel
theorem d_L_law_280 : decode mt_L_law.2.1 280 = .ok (.invokevirtual 23, 3) := by decide +kernel
theorem d_L_law_283 : decode mt_L_law.2.1 283 = .ok (.aload_n 2, 1) := by decide +kernel
theorem d_L_law_284 : decode mt_L_law.2.1 284 = .ok (.invokevirtual 26, 3) := by decide +kernel
theorem d_L_law_287 : decode mt_L_law.2.1 287 = .ok (.lcmp, 1) := by decide +kernel
theorem d_L_law_288 : decode mt_L_law.2.1 288 = .ok (.ifCond .eq 1602, 3) := by decide +kernel
theorem d_L_law_291 : decode mt_L_law.2.1 291 = .ok (.iconst 0, 1) := by decide +kernel
theorem d_L_law_292 : decode mt_L_law.2.1 292 = .ok (.ireturn, 1) := by decide +kernel
theorem d_L_law_293 : decode mt_L_law.2.1 293 = .ok (.aload_n 1, 1) := by decide +kernel
theorem d_L_law_294 : decode mt_L_law.2.1 294 = .ok (.aload_n 0, 1) := by decide +kernel
theorem d_L_law_295 : decode mt_L_law.2.1 295 = .ok (.iload_n 3, 1) := by decide +kernel
theorem d_L_law_296 : decode mt_L_law.2.1 296 = .ok (.iconst 1, 1) := by decide +kernel
theorem d_L_law_297 : decode mt_L_law.2.1 297 = .ok (.iadd, 1) := by decide +kernel
theorem d_L_law_298 : decode mt_L_law.2.1 298 = .ok (.iaload, 1) := by decide +kernel
theorem d_L_law_299 : decode mt_L_law.2.1 299 = .ok (.aload_n 0, 1) := by decide +kernel
theorem d_L_law_300 : decode mt_L_law.2.1 300 = .ok (.iload_n 3, 1) := by decide +kernel
theorem d_L_law_301 : decode mt_L_law.2.1 301 = .ok (.iconst 2, 1) := by decide +kernel
theorem d_L_law_302 : decode mt_L_law.2.1 302 = .ok (.iadd, 1) := by decide +kernel
theorem d_L_law_303 : decode mt_L_law.2.1 303 = .ok (.iaload, 1) := by decide +kernel
theorem d_L_law_304 : decode mt_L_law.2.1 304 = .ok (.aload_n 0, 1) := by decide +kernel
theorem d_L_law_305 : decode mt_L_law.2.1 305 = .ok (.iload_n 3, 1) := by decide +kernel
theorem d_L_law_306 : decode mt_L_law.2.1 306 = .ok (.iconst 3, 1) := by decide +kernel
theorem d_L_law_307 : decode mt_L_law.2.1 307 = .ok (.iadd, 1) := by decide +kernel
theorem d_L_law_308 : decode mt_L_law.2.1 308 = .ok (.iaload, 1) := by decide +kernel
theorem d_L_law_309 : decode mt_L_law.2.1 309 = .ok (.invokevirtual 27, 3) := by decide +kernel
theorem d_L_law_312 : decode mt_L_law.2.1 312 = .ok (.aload_n 2, 1) := by decide +kernel
theorem d_L_law_313 : decode mt_L_law.2.1 313 = .ok (.aload_n 0, 1) := by decide +kernel
theorem d_L_law_314 : decode mt_L_law.2.1 314 = .ok (.iload_n 3, 1) := by decide +kernel
theorem d_L_law_315 : decode mt_L_law.2.1 315 = .ok (.iconst 1, 1) := by decide +kernel
theorem d_L_law_316 : decode mt_L_law.2.1 316 = .ok (.iadd, 1) := by decide +kernel
theorem d_L_law_317 : decode mt_L_law.2.1 317 = .ok (.iaload, 1) := by decide +kernel
theorem d_L_law_318 : decode mt_L_law.2.1 318 = .ok (.aload_n 0, 1) := by decide +kernel
theorem d_L_law_319 : decode mt_L_law.2.1 319 = .ok (.iload_n 3, 1) := by decide +kernel
theorem d_L_law_320 : decode mt_L_law.2.1 320 = .ok (.iconst 2, 1) := by decide +kernel
theorem d_L_law_321 : decode mt_L_law.2.1 321 = .ok (.iadd, 1) := by decide +kernel
theorem d_L_law_322 : decode mt_L_law.2.1 322 = .ok (.iaload, 1) := by decide +kernel
theorem d_L_law_323 : decode mt_L_law.2.1 323 = .ok (.aload_n 0, 1) := by decide +kernel
theorem d_L_law_324 : decode mt_L_law.2.1 324 = .ok (.iload_n 3, 1) := by decide +kernel
theorem d_L_law_325 : decode mt_L_law.2.1 325 = .ok (.iconst 3, 1) := by decide +kernel
theorem d_L_law_326 : decode mt_L_law.2.1 326 = .ok (.iadd, 1) := by decide +kernel
theorem d_L_law_327 : decode mt_L_law.2.1 327 = .ok (.iaload, 1) := by decide +kernel
theorem d_L_law_328 : decode mt_L_law.2.1 328 = .ok (.invokevirtual 31, 3) := by decide +kernel
theorem d_L_law_331 : decode mt_L_law.2.1 331 = .ok (.if_icmp .eq 1559, 3) := by decide +kernel
theorem d_L_law_334 : decode mt_L_law.2.1 334 = .ok (.iconst 0, 1) := by decide +kernel
theorem d_L_law_335 : decode mt_L_law.2.1 335 = .ok (.ireturn, 1) := by decide +kernel
theorem d_L_law_336 : decode mt_L_law.2.1 336 = .ok (.aload_n 1, 1) := by decide +kernel
theorem d_L_law_337 : decode mt_L_law.2.1 337 = .ok (.aload_n 0, 1) := by decide +kernel
theorem d_L_law_338 : decode mt_L_law.2.1 338 = .ok (.iload_n 3, 1) := by decide +kernel
theorem d_L_law_339 : decode mt_L_law.2.1 339 = .ok (.iconst 1, 1) := by decide +kernel
theorem d_L_law_340 : decode mt_L_law.2.1 340 = .ok (.iadd, 1) := by decide +kernel
theorem d_L_law_341 : decode mt_L_law.2.1 341 = .ok (.iaload, 1) := by decide +kernel
theorem d_L_law_342 : decode mt_L_law.2.1 342 = .ok (.aload_n 0, 1) := by decide +kernel
theorem d_L_law_343 : decode mt_L_law.2.1 343 = .ok (.iload_n 3, 1) := by decide +kernel
theorem d_L_law_344 : decode mt_L_law.2.1 344 = .ok (.iconst 2, 1) := by decide +kernel
theorem d_L_law_345 : decode mt_L_law.2.1 345 = .ok (.iadd, 1) := by decide +kernel
theorem d_L_law_346 : decode mt_L_law.2.1 346 = .ok (.iaload, 1) := by decide +kernel
theorem d_L_law_347 : decode mt_L_law.2.1 347 = .ok (.aload_n 0, 1) := by decide +kernel
theorem d_L_law_348 : decode mt_L_law.2.1 348 = .ok (.iload_n 3, 1) := by decide +kernel
theorem d_L_law_349 : decode mt_L_law.2.1 349 = .ok (.iconst 3, 1) := by decide +kernel
theorem d_L_law_350 : decode mt_L_law.2.1 350 = .ok (.iadd, 1) := by decide +kernel
theorem d_L_law_351 : decode mt_L_law.2.1 351 = .ok (.iaload, 1) := by decide +kernel
theorem d_L_law_352 : decode mt_L_law.2.1 352 = .ok (.i2l, 1) := by decide +kernel
theorem d_L_law_353 : decode mt_L_law.2.1 353 = .ok (.bipush 32, 2) := by decide +kernel
theorem d_L_law_355 : decode mt_L_law.2.1 355 = .ok (.lshl, 1) := by decide +kernel
theorem d_L_law_356 : decode mt_L_law.2.1 356 = .ok (.aload_n 0, 1) := by decide +kernel
theorem d_L_law_357 : decode mt_L_law.2.1 357 = .ok (.iload_n 3, 1) := by decide +kernel
theorem d_L_law_358 : decode mt_L_law.2.1 358 = .ok (.iconst 4, 1) := by decide +kernel
theorem d_L_law_359 : decode mt_L_law.2.1 359 = .ok (.iadd, 1) := by decide +kernel
theorem d_L_law_360 : decode mt_L_law.2.1 360 = .ok (.iaload, 1) := by decide +kernel
theorem d_L_law_361 : decode mt_L_law.2.1 361 = .ok (.i2l, 1) := by decide +kernel
theorem d_L_law_362 : decode mt_L_law.2.1 362 = .ok (.ldc2_w 32, 3) := by decide +kernel
theorem d_L_law_365 : decode mt_L_law.2.1 365 = .ok (.land, 1) := by decide +kernel
theorem d_L_law_366 : decode mt_L_law.2.1 366 = .ok (.lor, 1) := by decide +kernel
theorem d_L_law_367 : decode mt_L_law.2.1 367 = .ok (.invokevirtual 34, 3) := by decide +kernel
theorem d_L_law_370 : decode mt_L_law.2.1 370 = .ok (.aload_n 2, 1) := by decide +kernel
theorem d_L_law_371 : decode mt_L_law.2.1 371 = .ok (.aload_n 0, 1) := by decide +kernel
theorem d_L_law_372 : decode mt_L_law.2.1 372 = .ok (.iload_n 3, 1) := by decide +kernel
theorem d_L_law_373 : decode mt_L_law.2.1 373 = .ok (.iconst 1, 1) := by decide +kernel
theorem d_L_law_374 : decode mt_L_law.2.1 374 = .ok (.iadd, 1) := by decide +kernel
theorem d_L_law_375 : decode mt_L_law.2.1 375 = .ok (.iaload, 1) := by decide +kernel
theorem d_L_law_376 : decode mt_L_law.2.1 376 = .ok (.aload_n 0, 1) := by decide +kernel
theorem d_L_law_377 : decode mt_L_law.2.1 377 = .ok (.iload_n 3, 1) := by decide +kernel
theorem d_L_law_378 : decode mt_L_law.2.1 378 = .ok (.iconst 2, 1) := by decide +kernel
theorem d_L_law_379 : decode mt_L_law.2.1 379 = .ok (.iadd, 1) := by decide +kernel
theorem d_L_law_380 : decode mt_L_law.2.1 380 = .ok (.iaload, 1) := by decide +kernel
theorem d_L_law_381 : decode mt_L_law.2.1 381 = .ok (.aload_n 0, 1) := by decide +kernel
theorem d_L_law_382 : decode mt_L_law.2.1 382 = .ok (.iload_n 3, 1) := by decide +kernel
theorem d_L_law_383 : decode mt_L_law.2.1 383 = .ok (.iconst 3, 1) := by decide +kernel
theorem d_L_law_384 : decode mt_L_law.2.1 384 = .ok (.iadd, 1) := by decide +kernel
theorem d_L_law_385 : decode mt_L_law.2.1 385 = .ok (.iaload, 1) := by decide +kernel
theorem d_L_law_386 : decode mt_L_law.2.1 386 = .ok (.i2l, 1) := by decide +kernel
theorem d_L_law_387 : decode mt_L_law.2.1 387 = .ok (.bipush 32, 2) := by decide +kernel
theorem d_L_law_389 : decode mt_L_law.2.1 389 = .ok (.lshl, 1) := by decide +kernel
theorem d_L_law_390 : decode mt_L_law.2.1 390 = .ok (.aload_n 0, 1) := by decide +kernel
theorem d_L_law_391 : decode mt_L_law.2.1 391 = .ok (.iload_n 3, 1) := by decide +kernel
theorem d_L_law_392 : decode mt_L_law.2.1 392 = .ok (.iconst 4, 1) := by decide +kernel
theorem d_L_law_393 : decode mt_L_law.2.1 393 = .ok (.iadd, 1) := by decide +kernel
theorem d_L_law_394 : decode mt_L_law.2.1 394 = .ok (.iaload, 1) := by decide +kernel
theorem d_L_law_395 : decode mt_L_law.2.1 395 = .ok (.i2l, 1) := by decide +kernel
theorem d_L_law_396 : decode mt_L_law.2.1 396 = .ok (.ldc2_w 32, 3) := by decide +kernel
theorem d_L_law_399 : decode mt_L_law.2.1 399 = .ok (.land, 1) := by decide +kernel
theorem d_L_law_400 : decode mt_L_law.2.1 400 = .ok (.lor, 1) := by decide +kernel
theorem d_L_law_401 : decode mt_L_law.2.1 401 = .ok (.invokevirtual 38, 3) := by decide +kernel
theorem d_L_law_404 : decode mt_L_law.2.1 404 = .ok (.if_icmp .eq 1486, 3) := by decide +kernel
theorem d_L_law_407 : decode mt_L_law.2.1 407 = .ok (.iconst 0, 1) := by decide +kernel
theorem d_L_law_408 : decode mt_L_law.2.1 408 = .ok (.ireturn, 1) := by decide +kernel
theorem d_L_law_409 : decode mt_L_law.2.1 409 = .ok (.aload_n 1, 1) := by decide +kernel
theorem d_L_law_410 : decode mt_L_law.2.1 410 = .ok (.aload_n 0, 1) := by decide +kernel
theorem d_L_law_411 : decode mt_L_law.2.1 411 = .ok (.iload_n 3, 1) := by decide +kernel
theorem d_L_law_412 : decode mt_L_law.2.1 412 = .ok (.iconst 1, 1) := by decide +kernel
theorem d_L_law_413 : decode mt_L_law.2.1 413 = .ok (.iadd, 1) := by decide +kernel
theorem d_L_law_414 : decode mt_L_law.2.1 414 = .ok (.iaload, 1) := by decide +kernel
theorem d_L_law_415 : decode mt_L_law.2.1 415 = .ok (.aload_n 0, 1) := by decide +kernel
theorem d_L_law_416 : decode mt_L_law.2.1 416 = .ok (.iload_n 3, 1) := by decide +kernel
theorem d_L_law_417 : decode mt_L_law.2.1 417 = .ok (.iconst 2, 1) := by decide +kernel
theorem d_L_law_418 : decode mt_L_law.2.1 418 = .ok (.iadd, 1) := by decide +kernel
theorem d_L_law_419 : decode mt_L_law.2.1 419 = .ok (.iaload, 1) := by decide +kernel
theorem d_L_law_420 : decode mt_L_law.2.1 420 = .ok (.invokevirtual 39, 3) := by decide +kernel
theorem d_L_law_423 : decode mt_L_law.2.1 423 = .ok (.aload_n 2, 1) := by decide +kernel
theorem d_L_law_424 : decode mt_L_law.2.1 424 = .ok (.aload_n 0, 1) := by decide +kernel
theorem d_L_law_425 : decode mt_L_law.2.1 425 = .ok (.iload_n 3, 1) := by decide +kernel
theorem d_L_law_426 : decode mt_L_law.2.1 426 = .ok (.iconst 1, 1) := by decide +kernel
theorem d_L_law_427 : decode mt_L_law.2.1 427 = .ok (.iadd, 1) := by decide +kernel
theorem d_L_law_428 : decode mt_L_law.2.1 428 = .ok (.iaload, 1) := by decide +kernel
theorem d_L_law_429 : decode mt_L_law.2.1 429 = .ok (.aload_n 0, 1) := by decide +kernel
theorem d_L_law_430 : decode mt_L_law.2.1 430 = .ok (.iload_n 3, 1) := by decide +kernel
theorem d_L_law_431 : decode mt_L_law.2.1 431 = .ok (.iconst 2, 1) := by decide +kernel
theorem d_L_law_432 : decode mt_L_law.2.1 432 = .ok (.iadd, 1) := by decide +kernel
theorem d_L_law_433 : decode mt_L_law.2.1 433 = .ok (.iaload, 1) := by decide +kernel
theorem d_L_law_434 : decode mt_L_law.2.1 434 = .ok (.invokevirtual 43, 3) := by decide +kernel
theorem d_L_law_437 : decode mt_L_law.2.1 437 = .ok (.lcmp, 1) := by decide +kernel
theorem d_L_law_438 : decode mt_L_law.2.1 438 = .ok (.ifCond .eq 1452, 3) := by decide +kernel
theorem d_L_law_441 : decode mt_L_law.2.1 441 = .ok (.iconst 0, 1) := by decide +kernel
theorem d_L_law_442 : decode mt_L_law.2.1 442 = .ok (.ireturn, 1) := by decide +kernel
theorem d_L_law_443 : decode mt_L_law.2.1 443 = .ok (.aload_n 1, 1) := by decide +kernel
theorem d_L_law_444 : decode mt_L_law.2.1 444 = .ok (.aload_n 0, 1) := by decide +kernel
theorem d_L_law_445 : decode mt_L_law.2.1 445 = .ok (.iload_n 3, 1) := by decide +kernel
theorem d_L_law_446 : decode mt_L_law.2.1 446 = .ok (.iconst 1, 1) := by decide +kernel
theorem d_L_law_447 : decode mt_L_law.2.1 447 = .ok (.iadd, 1) := by decide +kernel
theorem d_L_law_448 : decode mt_L_law.2.1 448 = .ok (.iaload, 1) := by decide +kernel
theorem d_L_law_449 : decode mt_L_law.2.1 449 = .ok (.aload_n 0, 1) := by decide +kernel
theorem d_L_law_450 : decode mt_L_law.2.1 450 = .ok (.iload_n 3, 1) := by decide +kernel
theorem d_L_law_451 : decode mt_L_law.2.1 451 = .ok (.iconst 2, 1) := by decide +kernel
theorem d_L_law_452 : decode mt_L_law.2.1 452 = .ok (.iadd, 1) := by decide +kernel
theorem d_L_law_453 : decode mt_L_law.2.1 453 = .ok (.iaload, 1) := by decide +kernel
theorem d_L_law_454 : decode mt_L_law.2.1 454 = .ok (.aload_n 0, 1) := by decide +kernel
theorem d_L_law_455 : decode mt_L_law.2.1 455 = .ok (.iload_n 3, 1) := by decide +kernel
theorem d_L_law_456 : decode mt_L_law.2.1 456 = .ok (.iconst 3, 1) := by decide +kernel
theorem d_L_law_457 : decode mt_L_law.2.1 457 = .ok (.iadd, 1) := by decide +kernel
theorem d_L_law_458 : decode mt_L_law.2.1 458 = .ok (.iaload, 1) := by decide +kernel
theorem d_L_law_459 : decode mt_L_law.2.1 459 = .ok (.aload_n 0, 1) := by decide +kernel
theorem d_L_law_460 : decode mt_L_law.2.1 460 = .ok (.iload_n 3, 1) := by decide +kernel
theorem d_L_law_461 : decode mt_L_law.2.1 461 = .ok (.iconst 4, 1) := by decide +kernel
theorem d_L_law_462 : decode mt_L_law.2.1 462 = .ok (.iadd, 1) := by decide +kernel
theorem d_L_law_463 : decode mt_L_law.2.1 463 = .ok (.iaload, 1) := by decide +kernel
theorem d_L_law_464 : decode mt_L_law.2.1 464 = .ok (.aload_n 0, 1) := by decide +kernel
theorem d_L_law_465 : decode mt_L_law.2.1 465 = .ok (.iload_n 3, 1) := by decide +kernel
theorem d_L_law_466 : decode mt_L_law.2.1 466 = .ok (.iconst 5, 1) := by decide +kernel
theorem d_L_law_467 : decode mt_L_law.2.1 467 = .ok (.iadd, 1) := by decide +kernel
theorem d_L_law_468 : decode mt_L_law.2.1 468 = .ok (.iaload, 1) := by decide +kernel
theorem d_L_law_469 : decode mt_L_law.2.1 469 = .ok (.invokevirtual 44, 3) := by decide +kernel
theorem d_L_law_472 : decode mt_L_law.2.1 472 = .ok (.aload_n 2, 1) := by decide +kernel
theorem d_L_law_473 : decode mt_L_law.2.1 473 = .ok (.aload_n 0, 1) := by decide +kernel
theorem d_L_law_474 : decode mt_L_law.2.1 474 = .ok (.iload_n 3, 1) := by decide +kernel
theorem d_L_law_475 : decode mt_L_law.2.1 475 = .ok (.iconst 1, 1) := by decide +kernel
theorem d_L_law_476 : decode mt_L_law.2.1 476 = .ok (.iadd, 1) := by decide +kernel
theorem d_L_law_477 : decode mt_L_law.2.1 477 = .ok (.iaload, 1) := by decide +kernel
theorem d_L_law_478 : decode mt_L_law.2.1 478 = .ok (.aload_n 0, 1) := by decide +kernel
theorem d_L_law_479 : decode mt_L_law.2.1 479 = .ok (.iload_n 3, 1) := by decide +kernel
theorem d_L_law_480 : decode mt_L_law.2.1 480 = .ok (.iconst 2, 1) := by decide +kernel
theorem d_L_law_481 : decode mt_L_law.2.1 481 = .ok (.iadd, 1) := by decide +kernel
theorem d_L_law_482 : decode mt_L_law.2.1 482 = .ok (.iaload, 1) := by decide +kernel
theorem d_L_law_483 : decode mt_L_law.2.1 483 = .ok (.aload_n 0, 1) := by decide +kernel
theorem d_L_law_484 : decode mt_L_law.2.1 484 = .ok (.iload_n 3, 1) := by decide +kernel
theorem d_L_law_485 : decode mt_L_law.2.1 485 = .ok (.iconst 3, 1) := by decide +kernel
theorem d_L_law_486 : decode mt_L_law.2.1 486 = .ok (.iadd, 1) := by decide +kernel
theorem d_L_law_487 : decode mt_L_law.2.1 487 = .ok (.iaload, 1) := by decide +kernel
theorem d_L_law_488 : decode mt_L_law.2.1 488 = .ok (.aload_n 0, 1) := by decide +kernel
theorem d_L_law_489 : decode mt_L_law.2.1 489 = .ok (.iload_n 3, 1) := by decide +kernel
theorem d_L_law_490 : decode mt_L_law.2.1 490 = .ok (.iconst 4, 1) := by decide +kernel
theorem d_L_law_491 : decode mt_L_law.2.1 491 = .ok (.iadd, 1) := by decide +kernel
theorem d_L_law_492 : decode mt_L_law.2.1 492 = .ok (.iaload, 1) := by decide +kernel
theorem d_L_law_493 : decode mt_L_law.2.1 493 = .ok (.aload_n 0, 1) := by decide +kernel
theorem d_L_law_494 : decode mt_L_law.2.1 494 = .ok (.iload_n 3, 1) := by decide +kernel
theorem d_L_law_495 : decode mt_L_law.2.1 495 = .ok (.iconst 5, 1) := by decide +kernel
theorem d_L_law_496 : decode mt_L_law.2.1 496 = .ok (.iadd, 1) := by decide +kernel
theorem d_L_law_497 : decode mt_L_law.2.1 497 = .ok (.iaload, 1) := by decide +kernel
theorem d_L_law_498 : decode mt_L_law.2.1 498 = .ok (.invokevirtual 48, 3) := by decide +kernel
theorem d_L_law_501 : decode mt_L_law.2.1 501 = .ok (.if_icmp .eq 1389, 3) := by decide +kernel
theorem d_L_law_504 : decode mt_L_law.2.1 504 = .ok (.iconst 0, 1) := by decide +kernel
theorem d_L_law_505 : decode mt_L_law.2.1 505 = .ok (.ireturn, 1) := by decide +kernel
theorem d_L_law_506 : decode mt_L_law.2.1 506 = .ok (.aload_n 1, 1) := by decide +kernel
theorem d_L_law_507 : decode mt_L_law.2.1 507 = .ok (.aload_n 0, 1) := by decide +kernel
theorem d_L_law_508 : decode mt_L_law.2.1 508 = .ok (.iload_n 3, 1) := by decide +kernel
theorem d_L_law_509 : decode mt_L_law.2.1 509 = .ok (.iconst 1, 1) := by decide +kernel
theorem d_L_law_510 : decode mt_L_law.2.1 510 = .ok (.iadd, 1) := by decide +kernel
theorem d_L_law_511 : decode mt_L_law.2.1 511 = .ok (.iaload, 1) := by decide +kernel
theorem d_L_law_512 : decode mt_L_law.2.1 512 = .ok (.aload_n 0, 1) := by decide +kernel
theorem d_L_law_513 : decode mt_L_law.2.1 513 = .ok (.iload_n 3, 1) := by decide +kernel
theorem d_L_law_514 : decode mt_L_law.2.1 514 = .ok (.iconst 2, 1) := by decide +kernel
theorem d_L_law_515 : decode mt_L_law.2.1 515 = .ok (.iadd, 1) := by decide +kernel
theorem d_L_law_516 : decode mt_L_law.2.1 516 = .ok (.iaload, 1) := by decide +kernel
theorem d_L_law_517 : decode mt_L_law.2.1 517 = .ok (.aload_n 0, 1) := by decide +kernel
theorem d_L_law_518 : decode mt_L_law.2.1 518 = .ok (.iload_n 3, 1) := by decide +kernel
theorem d_L_law_519 : decode mt_L_law.2.1 519 = .ok (.iconst 3, 1) := by decide +kernel
theorem d_L_law_520 : decode mt_L_law.2.1 520 = .ok (.iadd, 1) := by decide +kernel
theorem d_L_law_521 : decode mt_L_law.2.1 521 = .ok (.iaload, 1) := by decide +kernel
theorem d_L_law_522 : decode mt_L_law.2.1 522 = .ok (.aload_n 0, 1) := by decide +kernel
theorem d_L_law_523 : decode mt_L_law.2.1 523 = .ok (.iload_n 3, 1) := by decide +kernel
theorem d_L_law_524 : decode mt_L_law.2.1 524 = .ok (.iconst 4, 1) := by decide +kernel
theorem d_L_law_525 : decode mt_L_law.2.1 525 = .ok (.iadd, 1) := by decide +kernel
theorem d_L_law_526 : decode mt_L_law.2.1 526 = .ok (.iaload, 1) := by decide +kernel
theorem d_L_law_527 : decode mt_L_law.2.1 527 = .ok (.aload_n 0, 1) := by decide +kernel
theorem d_L_law_528 : decode mt_L_law.2.1 528 = .ok (.iload_n 3, 1) := by decide +kernel
theorem d_L_law_529 : decode mt_L_law.2.1 529 = .ok (.iconst 5, 1) := by decide +kernel
theorem d_L_law_530 : decode mt_L_law.2.1 530 = .ok (.iadd, 1) := by decide +kernel
theorem d_L_law_531 : decode mt_L_law.2.1 531 = .ok (.iaload, 1) := by decide +kernel
theorem d_L_law_532 : decode mt_L_law.2.1 532 = .ok (.invokevirtual 49, 3) := by decide +kernel
theorem d_L_law_535 : decode mt_L_law.2.1 535 = .ok (.aload_n 2, 1) := by decide +kernel
theorem d_L_law_536 : decode mt_L_law.2.1 536 = .ok (.aload_n 0, 1) := by decide +kernel
theorem d_L_law_537 : decode mt_L_law.2.1 537 = .ok (.iload_n 3, 1) := by decide +kernel
theorem d_L_law_538 : decode mt_L_law.2.1 538 = .ok (.iconst 1, 1) := by decide +kernel
theorem d_L_law_539 : decode mt_L_law.2.1 539 = .ok (.iadd, 1) := by decide +kernel
theorem d_L_law_540 : decode mt_L_law.2.1 540 = .ok (.iaload, 1) := by decide +kernel
theorem d_L_law_541 : decode mt_L_law.2.1 541 = .ok (.aload_n 0, 1) := by decide +kernel
theorem d_L_law_542 : decode mt_L_law.2.1 542 = .ok (.iload_n 3, 1) := by decide +kernel
theorem d_L_law_543 : decode mt_L_law.2.1 543 = .ok (.iconst 2, 1) := by decide +kernel
theorem d_L_law_544 : decode mt_L_law.2.1 544 = .ok (.iadd, 1) := by decide +kernel
theorem d_L_law_545 : decode mt_L_law.2.1 545 = .ok (.iaload, 1) := by decide +kernel
theorem d_L_law_546 : decode mt_L_law.2.1 546 = .ok (.aload_n 0, 1) := by decide +kernel
theorem d_L_law_547 : decode mt_L_law.2.1 547 = .ok (.iload_n 3, 1) := by decide +kernel
theorem d_L_law_548 : decode mt_L_law.2.1 548 = .ok (.iconst 3, 1) := by decide +kernel
theorem d_L_law_549 : decode mt_L_law.2.1 549 = .ok (.iadd, 1) := by decide +kernel
theorem d_L_law_550 : decode mt_L_law.2.1 550 = .ok (.iaload, 1) := by decide +kernel
theorem d_L_law_551 : decode mt_L_law.2.1 551 = .ok (.aload_n 0, 1) := by decide +kernel
theorem d_L_law_552 : decode mt_L_law.2.1 552 = .ok (.iload_n 3, 1) := by decide +kernel
theorem d_L_law_553 : decode mt_L_law.2.1 553 = .ok (.iconst 4, 1) := by decide +kernel
theorem d_L_law_554 : decode mt_L_law.2.1 554 = .ok (.iadd, 1) := by decide +kernel
theorem d_L_law_555 : decode mt_L_law.2.1 555 = .ok (.iaload, 1) := by decide +kernel
theorem d_L_law_556 : decode mt_L_law.2.1 556 = .ok (.aload_n 0, 1) := by decide +kernel
theorem d_L_law_557 : decode mt_L_law.2.1 557 = .ok (.iload_n 3, 1) := by decide +kernel
theorem d_L_law_558 : decode mt_L_law.2.1 558 = .ok (.iconst 5, 1) := by decide +kernel
theorem d_L_law_559 : decode mt_L_law.2.1 559 = .ok (.iadd, 1) := by decide +kernel
theorem d_L_law_560 : decode mt_L_law.2.1 560 = .ok (.iaload, 1) := by decide +kernel
theorem d_L_law_561 : decode mt_L_law.2.1 561 = .ok (.invokevirtual 53, 3) := by decide +kernel
theorem d_L_law_564 : decode mt_L_law.2.1 564 = .ok (.if_icmp .eq 1326, 3) := by decide +kernel
theorem d_L_law_567 : decode mt_L_law.2.1 567 = .ok (.iconst 0, 1) := by decide +kernel
theorem d_L_law_568 : decode mt_L_law.2.1 568 = .ok (.ireturn, 1) := by decide +kernel
theorem d_L_law_569 : decode mt_L_law.2.1 569 = .ok (.aload_n 1, 1) := by decide +kernel
theorem d_L_law_570 : decode mt_L_law.2.1 570 = .ok (.aload_n 0, 1) := by decide +kernel
theorem d_L_law_571 : decode mt_L_law.2.1 571 = .ok (.iload_n 3, 1) := by decide +kernel
theorem d_L_law_572 : decode mt_L_law.2.1 572 = .ok (.iconst 1, 1) := by decide +kernel
theorem d_L_law_573 : decode mt_L_law.2.1 573 = .ok (.iadd, 1) := by decide +kernel
theorem d_L_law_574 : decode mt_L_law.2.1 574 = .ok (.iaload, 1) := by decide +kernel
theorem d_L_law_575 : decode mt_L_law.2.1 575 = .ok (.invokevirtual 54, 3) := by decide +kernel
theorem d_L_law_578 : decode mt_L_law.2.1 578 = .ok (.aload_n 2, 1) := by decide +kernel
theorem d_L_law_579 : decode mt_L_law.2.1 579 = .ok (.aload_n 0, 1) := by decide +kernel
theorem d_L_law_580 : decode mt_L_law.2.1 580 = .ok (.iload_n 3, 1) := by decide +kernel
theorem d_L_law_581 : decode mt_L_law.2.1 581 = .ok (.iconst 1, 1) := by decide +kernel
theorem d_L_law_582 : decode mt_L_law.2.1 582 = .ok (.iadd, 1) := by decide +kernel
theorem d_L_law_583 : decode mt_L_law.2.1 583 = .ok (.iaload, 1) := by decide +kernel
theorem d_L_law_584 : decode mt_L_law.2.1 584 = .ok (.invokevirtual 58, 3) := by decide +kernel
theorem d_L_law_587 : decode mt_L_law.2.1 587 = .ok (.if_icmp .eq 1303, 3) := by decide +kernel
theorem d_L_law_590 : decode mt_L_law.2.1 590 = .ok (.iconst 0, 1) := by decide +kernel
theorem d_L_law_591 : decode mt_L_law.2.1 591 = .ok (.ireturn, 1) := by decide +kernel
theorem d_L_law_592 : decode mt_L_law.2.1 592 = .ok (.aload_n 1, 1) := by decide +kernel
theorem d_L_law_593 : decode mt_L_law.2.1 593 = .ok (.aload_n 0, 1) := by decide +kernel
theorem d_L_law_594 : decode mt_L_law.2.1 594 = .ok (.iload_n 3, 1) := by decide +kernel
theorem d_L_law_595 : decode mt_L_law.2.1 595 = .ok (.iconst 1, 1) := by decide +kernel
theorem d_L_law_596 : decode mt_L_law.2.1 596 = .ok (.iadd, 1) := by decide +kernel
theorem d_L_law_597 : decode mt_L_law.2.1 597 = .ok (.iaload, 1) := by decide +kernel
theorem d_L_law_598 : decode mt_L_law.2.1 598 = .ok (.invokevirtual 59, 3) := by decide +kernel
theorem d_L_law_601 : decode mt_L_law.2.1 601 = .ok (.aload_n 2, 1) := by decide +kernel
theorem d_L_law_602 : decode mt_L_law.2.1 602 = .ok (.aload_n 0, 1) := by decide +kernel
theorem d_L_law_603 : decode mt_L_law.2.1 603 = .ok (.iload_n 3, 1) := by decide +kernel
theorem d_L_law_604 : decode mt_L_law.2.1 604 = .ok (.iconst 1, 1) := by decide +kernel
theorem d_L_law_605 : decode mt_L_law.2.1 605 = .ok (.iadd, 1) := by decide +kernel
theorem d_L_law_606 : decode mt_L_law.2.1 606 = .ok (.iaload, 1) := by decide +kernel
theorem d_L_law_607 : decode mt_L_law.2.1 607 = .ok (.invokevirtual 62, 3) := by decide +kernel
theorem d_L_law_610 : decode mt_L_law.2.1 610 = .ok (.if_icmp .eq 1280, 3) := by decide +kernel
theorem d_L_law_613 : decode mt_L_law.2.1 613 = .ok (.iconst 0, 1) := by decide +kernel
theorem d_L_law_614 : decode mt_L_law.2.1 614 = .ok (.ireturn, 1) := by decide +kernel
theorem d_L_law_615 : decode mt_L_law.2.1 615 = .ok (.aload_n 1, 1) := by decide +kernel
theorem d_L_law_616 : decode mt_L_law.2.1 616 = .ok (.aload_n 0, 1) := by decide +kernel
theorem d_L_law_617 : decode mt_L_law.2.1 617 = .ok (.iload_n 3, 1) := by decide +kernel
theorem d_L_law_618 : decode mt_L_law.2.1 618 = .ok (.iconst 1, 1) := by decide +kernel
theorem d_L_law_619 : decode mt_L_law.2.1 619 = .ok (.iadd, 1) := by decide +kernel
theorem d_L_law_620 : decode mt_L_law.2.1 620 = .ok (.iaload, 1) := by decide +kernel
theorem d_L_law_621 : decode mt_L_law.2.1 621 = .ok (.invokevirtual 63, 3) := by decide +kernel
theorem d_L_law_624 : decode mt_L_law.2.1 624 = .ok (.aload_n 2, 1) := by decide +kernel
theorem d_L_law_625 : decode mt_L_law.2.1 625 = .ok (.aload_n 0, 1) := by decide +kernel
theorem d_L_law_626 : decode mt_L_law.2.1 626 = .ok (.iload_n 3, 1) := by decide +kernel
theorem d_L_law_627 : decode mt_L_law.2.1 627 = .ok (.iconst 1, 1) := by decide +kernel
theorem d_L_law_628 : decode mt_L_law.2.1 628 = .ok (.iadd, 1) := by decide +kernel
theorem d_L_law_629 : decode mt_L_law.2.1 629 = .ok (.iaload, 1) := by decide +kernel
theorem d_L_law_630 : decode mt_L_law.2.1 630 = .ok (.invokevirtual 66, 3) := by decide +kernel
theorem d_L_law_633 : decode mt_L_law.2.1 633 = .ok (.if_icmp .eq 1257, 3) := by decide +kernel
theorem d_L_law_636 : decode mt_L_law.2.1 636 = .ok (.iconst 0, 1) := by decide +kernel
theorem d_L_law_637 : decode mt_L_law.2.1 637 = .ok (.ireturn, 1) := by decide +kernel
theorem d_L_law_638 : decode mt_L_law.2.1 638 = .ok (.aload_n 1, 1) := by decide +kernel
theorem d_L_law_639 : decode mt_L_law.2.1 639 = .ok (.aload_n 0, 1) := by decide +kernel
theorem d_L_law_640 : decode mt_L_law.2.1 640 = .ok (.iload_n 3, 1) := by decide +kernel
theorem d_L_law_641 : decode mt_L_law.2.1 641 = .ok (.iconst 1, 1) := by decide +kernel
theorem d_L_law_642 : decode mt_L_law.2.1 642 = .ok (.iadd, 1) := by decide +kernel
theorem d_L_law_643 : decode mt_L_law.2.1 643 = .ok (.iaload, 1) := by decide +kernel
theorem d_L_law_644 : decode mt_L_law.2.1 644 = .ok (.invokevirtual 67, 3) := by decide +kernel
theorem d_L_law_647 : decode mt_L_law.2.1 647 = .ok (.aload_n 2, 1) := by decide +kernel
theorem d_L_law_648 : decode mt_L_law.2.1 648 = .ok (.aload_n 0, 1) := by decide +kernel
theorem d_L_law_649 : decode mt_L_law.2.1 649 = .ok (.iload_n 3, 1) := by decide +kernel
theorem d_L_law_650 : decode mt_L_law.2.1 650 = .ok (.iconst 1, 1) := by decide +kernel
theorem d_L_law_651 : decode mt_L_law.2.1 651 = .ok (.iadd, 1) := by decide +kernel
theorem d_L_law_652 : decode mt_L_law.2.1 652 = .ok (.iaload, 1) := by decide +kernel
theorem d_L_law_653 : decode mt_L_law.2.1 653 = .ok (.invokevirtual 70, 3) := by decide +kernel
theorem d_L_law_656 : decode mt_L_law.2.1 656 = .ok (.if_icmp .eq 1234, 3) := by decide +kernel
theorem d_L_law_659 : decode mt_L_law.2.1 659 = .ok (.iconst 0, 1) := by decide +kernel
theorem d_L_law_660 : decode mt_L_law.2.1 660 = .ok (.ireturn, 1) := by decide +kernel
theorem d_L_law_661 : decode mt_L_law.2.1 661 = .ok (.aload_n 1, 1) := by decide +kernel
theorem d_L_law_662 : decode mt_L_law.2.1 662 = .ok (.aload_n 0, 1) := by decide +kernel
theorem d_L_law_663 : decode mt_L_law.2.1 663 = .ok (.iload_n 3, 1) := by decide +kernel
theorem d_L_law_664 : decode mt_L_law.2.1 664 = .ok (.iconst 1, 1) := by decide +kernel
theorem d_L_law_665 : decode mt_L_law.2.1 665 = .ok (.iadd, 1) := by decide +kernel
theorem d_L_law_666 : decode mt_L_law.2.1 666 = .ok (.iaload, 1) := by decide +kernel
theorem d_L_law_667 : decode mt_L_law.2.1 667 = .ok (.aload_n 0, 1) := by decide +kernel
theorem d_L_law_668 : decode mt_L_law.2.1 668 = .ok (.iload_n 3, 1) := by decide +kernel
theorem d_L_law_669 : decode mt_L_law.2.1 669 = .ok (.iconst 2, 1) := by decide +kernel
theorem d_L_law_670 : decode mt_L_law.2.1 670 = .ok (.iadd, 1) := by decide +kernel
theorem d_L_law_671 : decode mt_L_law.2.1 671 = .ok (.iaload, 1) := by decide +kernel
theorem d_L_law_672 : decode mt_L_law.2.1 672 = .ok (.invokevirtual 71, 3) := by decide +kernel
theorem d_L_law_675 : decode mt_L_law.2.1 675 = .ok (.aload_n 2, 1) := by decide +kernel
theorem d_L_law_676 : decode mt_L_law.2.1 676 = .ok (.aload_n 0, 1) := by decide +kernel
theorem d_L_law_677 : decode mt_L_law.2.1 677 = .ok (.iload_n 3, 1) := by decide +kernel
theorem d_L_law_678 : decode mt_L_law.2.1 678 = .ok (.iconst 1, 1) := by decide +kernel
theorem d_L_law_679 : decode mt_L_law.2.1 679 = .ok (.iadd, 1) := by decide +kernel
theorem d_L_law_680 : decode mt_L_law.2.1 680 = .ok (.iaload, 1) := by decide +kernel
theorem d_L_law_681 : decode mt_L_law.2.1 681 = .ok (.aload_n 0, 1) := by decide +kernel
theorem d_L_law_682 : decode mt_L_law.2.1 682 = .ok (.iload_n 3, 1) := by decide +kernel
theorem d_L_law_683 : decode mt_L_law.2.1 683 = .ok (.iconst 2, 1) := by decide +kernel
theorem d_L_law_684 : decode mt_L_law.2.1 684 = .ok (.iadd, 1) := by decide +kernel
theorem d_L_law_685 : decode mt_L_law.2.1 685 = .ok (.iaload, 1) := by decide +kernel
theorem d_L_law_686 : decode mt_L_law.2.1 686 = .ok (.invokevirtual 75, 3) := by decide +kernel
theorem d_L_law_689 : decode mt_L_law.2.1 689 = .ok (.if_icmp .eq 1201, 3) := by decide +kernel
theorem d_L_law_692 : decode mt_L_law.2.1 692 = .ok (.iconst 0, 1) := by decide +kernel
theorem d_L_law_693 : decode mt_L_law.2.1 693 = .ok (.ireturn, 1) := by decide +kernel
theorem d_L_law_694 : decode mt_L_law.2.1 694 = .ok (.aload_n 1, 1) := by decide +kernel
theorem d_L_law_695 : decode mt_L_law.2.1 695 = .ok (.aload_n 0, 1) := by decide +kernel
theorem d_L_law_696 : decode mt_L_law.2.1 696 = .ok (.iload_n 3, 1) := by decide +kernel
theorem d_L_law_697 : decode mt_L_law.2.1 697 = .ok (.iconst 1, 1) := by decide +kernel
theorem d_L_law_698 : decode mt_L_law.2.1 698 = .ok (.iadd, 1) := by decide +kernel
theorem d_L_law_699 : decode mt_L_law.2.1 699 = .ok (.iaload, 1) := by decide +kernel
theorem d_L_law_700 : decode mt_L_law.2.1 700 = .ok (.aload_n 0, 1) := by decide +kernel
theorem d_L_law_701 : decode mt_L_law.2.1 701 = .ok (.iload_n 3, 1) := by decide +kernel
theorem d_L_law_702 : decode mt_L_law.2.1 702 = .ok (.iconst 2, 1) := by decide +kernel
theorem d_L_law_703 : decode mt_L_law.2.1 703 = .ok (.iadd, 1) := by decide +kernel
theorem d_L_law_704 : decode mt_L_law.2.1 704 = .ok (.iaload, 1) := by decide +kernel
theorem d_L_law_705 : decode mt_L_law.2.1 705 = .ok (.invokevirtual 76, 3) := by decide +kernel
theorem d_L_law_708 : decode mt_L_law.2.1 708 = .ok (.aload_n 2, 1) := by decide +kernel
theorem d_L_law_709 : decode mt_L_law.2.1 709 = .ok (.aload_n 0, 1) := by decide +kernel
theorem d_L_law_710 : decode mt_L_law.2.1 710 = .ok (.iload_n 3, 1) := by decide +kernel
theorem d_L_law_711 : decode mt_L_law.2.1 711 = .ok (.iconst 1, 1) := by decide +kernel
theorem d_L_law_712 : decode mt_L_law.2.1 712 = .ok (.iadd, 1) := by decide +kernel
theorem d_L_law_713 : decode mt_L_law.2.1 713 = .ok (.iaload, 1) := by decide +kernel
theorem d_L_law_714 : decode mt_L_law.2.1 714 = .ok (.aload_n 0, 1) := by decide +kernel
theorem d_L_law_715 : decode mt_L_law.2.1 715 = .ok (.iload_n 3, 1) := by decide +kernel
theorem d_L_law_716 : decode mt_L_law.2.1 716 = .ok (.iconst 2, 1) := by decide +kernel
theorem d_L_law_717 : decode mt_L_law.2.1 717 = .ok (.iadd, 1) := by decide +kernel
theorem d_L_law_718 : decode mt_L_law.2.1 718 = .ok (.iaload, 1) := by decide +kernel
theorem d_L_law_719 : decode mt_L_law.2.1 719 = .ok (.invokevirtual 79, 3) := by decide +kernel
theorem d_L_law_722 : decode mt_L_law.2.1 722 = .ok (.if_icmp .eq 1168, 3) := by decide +kernel
theorem d_L_law_725 : decode mt_L_law.2.1 725 = .ok (.iconst 0, 1) := by decide +kernel
theorem d_L_law_726 : decode mt_L_law.2.1 726 = .ok (.ireturn, 1) := by decide +kernel
theorem d_L_law_727 : decode mt_L_law.2.1 727 = .ok (.aload_n 1, 1) := by decide +kernel
theorem d_L_law_728 : decode mt_L_law.2.1 728 = .ok (.aload_n 0, 1) := by decide +kernel
theorem d_L_law_729 : decode mt_L_law.2.1 729 = .ok (.iload_n 3, 1) := by decide +kernel
theorem d_L_law_730 : decode mt_L_law.2.1 730 = .ok (.iconst 1, 1) := by decide +kernel
theorem d_L_law_731 : decode mt_L_law.2.1 731 = .ok (.iadd, 1) := by decide +kernel
theorem d_L_law_732 : decode mt_L_law.2.1 732 = .ok (.iaload, 1) := by decide +kernel
theorem d_L_law_733 : decode mt_L_law.2.1 733 = .ok (.invokevirtual 80, 3) := by decide +kernel
theorem d_L_law_736 : decode mt_L_law.2.1 736 = .ok (.aload_n 2, 1) := by decide +kernel
theorem d_L_law_737 : decode mt_L_law.2.1 737 = .ok (.aload_n 0, 1) := by decide +kernel
theorem d_L_law_738 : decode mt_L_law.2.1 738 = .ok (.iload_n 3, 1) := by decide +kernel
theorem d_L_law_739 : decode mt_L_law.2.1 739 = .ok (.iconst 1, 1) := by decide +kernel
theorem d_L_law_740 : decode mt_L_law.2.1 740 = .ok (.iadd, 1) := by decide +kernel
theorem d_L_law_741 : decode mt_L_law.2.1 741 = .ok (.iaload, 1) := by decide +kernel
theorem d_L_law_742 : decode mt_L_law.2.1 742 = .ok (.invokevirtual 83, 3) := by decide +kernel
theorem d_L_law_745 : decode mt_L_law.2.1 745 = .ok (.if_icmp .eq 1145, 3) := by decide +kernel
theorem d_L_law_748 : decode mt_L_law.2.1 748 = .ok (.iconst 0, 1) := by decide +kernel
theorem d_L_law_749 : decode mt_L_law.2.1 749 = .ok (.ireturn, 1) := by decide +kernel
theorem d_L_law_750 : decode mt_L_law.2.1 750 = .ok (.aload_n 1, 1) := by decide +kernel
theorem d_L_law_751 : decode mt_L_law.2.1 751 = .ok (.aload_n 0, 1) := by decide +kernel
theorem d_L_law_752 : decode mt_L_law.2.1 752 = .ok (.iload_n 3, 1) := by decide +kernel
theorem d_L_law_753 : decode mt_L_law.2.1 753 = .ok (.iconst 1, 1) := by decide +kernel
theorem d_L_law_754 : decode mt_L_law.2.1 754 = .ok (.iadd, 1) := by decide +kernel
theorem d_L_law_755 : decode mt_L_law.2.1 755 = .ok (.iaload, 1) := by decide +kernel
theorem d_L_law_756 : decode mt_L_law.2.1 756 = .ok (.aload_n 0, 1) := by decide +kernel
theorem d_L_law_757 : decode mt_L_law.2.1 757 = .ok (.iload_n 3, 1) := by decide +kernel
theorem d_L_law_758 : decode mt_L_law.2.1 758 = .ok (.iconst 2, 1) := by decide +kernel
theorem d_L_law_759 : decode mt_L_law.2.1 759 = .ok (.iadd, 1) := by decide +kernel
theorem d_L_law_760 : decode mt_L_law.2.1 760 = .ok (.iaload, 1) := by decide +kernel
theorem d_L_law_761 : decode mt_L_law.2.1 761 = .ok (.aload_n 0, 1) := by decide +kernel
theorem d_L_law_762 : decode mt_L_law.2.1 762 = .ok (.iload_n 3, 1) := by decide +kernel
theorem d_L_law_763 : decode mt_L_law.2.1 763 = .ok (.iconst 3, 1) := by decide +kernel
theorem d_L_law_764 : decode mt_L_law.2.1 764 = .ok (.iadd, 1) := by decide +kernel
theorem d_L_law_765 : decode mt_L_law.2.1 765 = .ok (.iaload, 1) := by decide +kernel
theorem d_L_law_766 : decode mt_L_law.2.1 766 = .ok (.ifCond .eq 7, 3) := by decide +kernel
theorem d_L_law_769 : decode mt_L_law.2.1 769 = .ok (.iconst 1, 1) := by decide +kernel
theorem d_L_law_770 : decode mt_L_law.2.1 770 = .ok (.goto 4, 3) := by decide +kernel
theorem d_L_law_773 : decode mt_L_law.2.1 773 = .ok (.iconst 0, 1) := by decide +kernel
theorem d_L_law_774 : decode mt_L_law.2.1 774 = .ok (.invokevirtual 84, 3) := by decide +kernel
theorem d_L_law_777 : decode mt_L_law.2.1 777 = .ok (.aload_n 2, 1) := by decide +kernel
theorem d_L_law_778 : decode mt_L_law.2.1 778 = .ok (.aload_n 0, 1) := by decide +kernel
theorem d_L_law_779 : decode mt_L_law.2.1 779 = .ok (.iload_n 3, 1) := by decide +kernel
theorem d_L_law_780 : decode mt_L_law.2.1 780 = .ok (.iconst 1, 1) := by decide +kernel
theorem d_L_law_781 : decode mt_L_law.2.1 781 = .ok (.iadd, 1) := by decide +kernel
theorem d_L_law_782 : decode mt_L_law.2.1 782 = .ok (.iaload, 1) := by decide +kernel
theorem d_L_law_783 : decode mt_L_law.2.1 783 = .ok (.aload_n 0, 1) := by decide +kernel
theorem d_L_law_784 : decode mt_L_law.2.1 784 = .ok (.iload_n 3, 1) := by decide +kernel
theorem d_L_law_785 : decode mt_L_law.2.1 785 = .ok (.iconst 2, 1) := by decide +kernel
theorem d_L_law_786 : decode mt_L_law.2.1 786 = .ok (.iadd, 1) := by decide +kernel
theorem d_L_law_787 : decode mt_L_law.2.1 787 = .ok (.iaload, 1) := by decide +kernel
theorem d_L_law_788 : decode mt_L_law.2.1 788 = .ok (.aload_n 0, 1) := by decide +kernel
theorem d_L_law_789 : decode mt_L_law.2.1 789 = .ok (.iload_n 3, 1) := by decide +kernel
theorem d_L_law_790 : decode mt_L_law.2.1 790 = .ok (.iconst 3, 1) := by decide +kernel
theorem d_L_law_791 : decode mt_L_law.2.1 791 = .ok (.iadd, 1) := by decide +kernel
theorem d_L_law_792 : decode mt_L_law.2.1 792 = .ok (.iaload, 1) := by decide +kernel
theorem d_L_law_793 : decode mt_L_law.2.1 793 = .ok (.ifCond .eq 7, 3) := by decide +kernel
theorem d_L_law_796 : decode mt_L_law.2.1 796 = .ok (.iconst 1, 1) := by decide +kernel
theorem d_L_law_797 : decode mt_L_law.2.1 797 = .ok (.goto 4, 3) := by decide +kernel
theorem d_L_law_800 : decode mt_L_law.2.1 800 = .ok (.iconst 0, 1) := by decide +kernel
theorem d_L_law_801 : decode mt_L_law.2.1 801 = .ok (.invokevirtual 88, 3) := by decide +kernel
theorem d_L_law_804 : decode mt_L_law.2.1 804 = .ok (.if_icmp .eq 1086, 3) := by decide +kernel
theorem d_L_law_807 : decode mt_L_law.2.1 807 = .ok (.iconst 0, 1) := by decide +kernel
theorem d_L_law_808 : decode mt_L_law.2.1 808 = .ok (.ireturn, 1) := by decide +kernel
theorem d_L_law_809 : decode mt_L_law.2.1 809 = .ok (.aload_n 1, 1) := by decide +kernel
theorem d_L_law_810 : decode mt_L_law.2.1 810 = .ok (.aload_n 0, 1) := by decide +kernel
theorem d_L_law_811 : decode mt_L_law.2.1 811 = .ok (.iload_n 3, 1) := by decide +kernel
theorem d_L_law_812 : decode mt_L_law.2.1 812 = .ok (.iconst 1, 1) := by decide +kernel
theorem d_L_law_813 : decode mt_L_law.2.1 813 = .ok (.iadd, 1) := by decide +kernel
theorem d_L_law_814 : decode mt_L_law.2.1 814 = .ok (.iaload, 1) := by decide +kernel
theorem d_L_law_815 : decode mt_L_law.2.1 815 = .ok (.invokevirtual 89, 3) := by decide +kernel
theorem d_L_law_818 : decode mt_L_law.2.1 818 = .ok (.aload_n 2, 1) := by decide +kernel
theorem d_L_law_819 : decode mt_L_law.2.1 819 = .ok (.aload_n 0, 1) := by decide +kernel
theorem d_L_law_820 : decode mt_L_law.2.1 820 = .ok (.iload_n 3, 1) := by decide +kernel
theorem d_L_law_821 : decode mt_L_law.2.1 821 = .ok (.iconst 1, 1) := by decide +kernel
theorem d_L_law_822 : decode mt_L_law.2.1 822 = .ok (.iadd, 1) := by decide +kernel
theorem d_L_law_823 : decode mt_L_law.2.1 823 = .ok (.iaload, 1) := by decide +kernel
theorem d_L_law_824 : decode mt_L_law.2.1 824 = .ok (.invokevirtual 92, 3) := by decide +kernel
theorem d_L_law_827 : decode mt_L_law.2.1 827 = .ok (.if_icmp .eq 1063, 3) := by decide +kernel
theorem d_L_law_830 : decode mt_L_law.2.1 830 = .ok (.iconst 0, 1) := by decide +kernel
theorem d_L_law_831 : decode mt_L_law.2.1 831 = .ok (.ireturn, 1) := by decide +kernel
theorem d_L_law_832 : decode mt_L_law.2.1 832 = .ok (.aload_n 1, 1) := by decide +kernel
theorem d_L_law_833 : decode mt_L_law.2.1 833 = .ok (.aload_n 0, 1) := by decide +kernel
theorem d_L_law_834 : decode mt_L_law.2.1 834 = .ok (.iload_n 3, 1) := by decide +kernel
theorem d_L_law_835 : decode mt_L_law.2.1 835 = .ok (.iconst 1, 1) := by decide +kernel
theorem d_L_law_836 : decode mt_L_law.2.1 836 = .ok (.iadd, 1) := by decide +kernel
theorem d_L_law_837 : decode mt_L_law.2.1 837 = .ok (.iaload, 1) := by decide +kernel
theorem d_L_law_838 : decode mt_L_law.2.1 838 = .ok (.aload_n 0, 1) := by decide +kernel
theorem d_L_law_839 : decode mt_L_law.2.1 839 = .ok (.iload_n 3, 1) := by decide +kernel
theorem d_L_law_840 : decode mt_L_law.2.1 840 = .ok (.iconst 2, 1) := by decide +kernel
theorem d_L_law_841 : decode mt_L_law.2.1 841 = .ok (.iadd, 1) := by decide +kernel
theorem d_L_law_842 : decode mt_L_law.2.1 842 = .ok (.iaload, 1) := by decide +kernel
theorem d_L_law_843 : decode mt_L_law.2.1 843 = .ok (.invokevirtual 93, 3) := by decide +kernel
theorem d_L_law_846 : decode mt_L_law.2.1 846 = .ok (.aload_n 2, 1) := by decide +kernel
theorem d_L_law_847 : decode mt_L_law.2.1 847 = .ok (.aload_n 0, 1) := by decide +kernel
theorem d_L_law_848 : decode mt_L_law.2.1 848 = .ok (.iload_n 3, 1) := by decide +kernel
theorem d_L_law_849 : decode mt_L_law.2.1 849 = .ok (.iconst 1, 1) := by decide +kernel
theorem d_L_law_850 : decode mt_L_law.2.1 850 = .ok (.iadd, 1) := by decide +kernel
theorem d_L_law_851 : decode mt_L_law.2.1 851 = .ok (.iaload, 1) := by decide +kernel
theorem d_L_law_852 : decode mt_L_law.2.1 852 = .ok (.aload_n 0, 1) := by decide +kernel
theorem d_L_law_853 : decode mt_L_law.2.1 853 = .ok (.iload_n 3, 1) := by decide +kernel
theorem d_L_law_854 : decode mt_L_law.2.1 854 = .ok (.iconst 2, 1) := by decide +kernel
theorem d_L_law_855 : decode mt_L_law.2.1 855 = .ok (.iadd, 1) := by decide +kernel
theorem d_L_law_856 : decode mt_L_law.2.1 856 = .ok (.iaload, 1) := by decide +kernel
theorem d_L_law_857 : decode mt_L_law.2.1 857 = .ok (.invokevirtual 96, 3) := by decide +kernel
theorem d_L_law_860 : decode mt_L_law.2.1 860 = .ok (.if_icmp .eq 1030, 3) := by decide +kernel
theorem d_L_law_863 : decode mt_L_law.2.1 863 = .ok (.iconst 0, 1) := by decide +kernel
theorem d_L_law_864 : decode mt_L_law.2.1 864 = .ok (.ireturn, 1) := by decide +kernel
theorem d_L_law_865 : decode mt_L_law.2.1 865 = .ok (.aload_n 1, 1) := by decide +kernel
theorem d_L_law_866 : decode mt_L_law.2.1 866 = .ok (.aload_n 0, 1) := by decide +kernel
theorem d_L_law_867 : decode mt_L_law.2.1 867 = .ok (.iload_n 3, 1) := by decide +kernel
theorem d_L_law_868 : decode mt_L_law.2.1 868 = .ok (.iconst 1, 1) := by decide +kernel
theorem d_L_law_869 : decode mt_L_law.2.1 869 = .ok (.iadd, 1) := by decide +kernel
theorem d_L_law_870 : decode mt_L_law.2.1 870 = .ok (.iaload, 1) := by decide +kernel
theorem d_L_law_871 : decode mt_L_law.2.1 871 = .ok (.invokevirtual 97, 3) := by decide +kernel
theorem d_L_law_874 : decode mt_L_law.2.1 874 = .ok (.aload_n 2, 1) := by decide +kernel
theorem d_L_law_875 : decode mt_L_law.2.1 875 = .ok (.aload_n 0, 1) := by decide +kernel
theorem d_L_law_876 : decode mt_L_law.2.1 876 = .ok (.iload_n 3, 1) := by decide +kernel
theorem d_L_law_877 : decode mt_L_law.2.1 877 = .ok (.iconst 1, 1) := by decide +kernel
theorem d_L_law_878 : decode mt_L_law.2.1 878 = .ok (.iadd, 1) := by decide +kernel
theorem d_L_law_879 : decode mt_L_law.2.1 879 = .ok (.iaload, 1) := by decide +kernel
theorem d_L_law_880 : decode mt_L_law.2.1 880 = .ok (.invokevirtual 100, 3) := by decide +kernel
theorem d_L_law_883 : decode mt_L_law.2.1 883 = .ok (.if_icmp .eq 1007, 3) := by decide +kernel
theorem d_L_law_886 : decode mt_L_law.2.1 886 = .ok (.iconst 0, 1) := by decide +kernel
theorem d_L_law_887 : decode mt_L_law.2.1 887 = .ok (.ireturn, 1) := by decide +kernel
theorem d_L_law_888 : decode mt_L_law.2.1 888 = .ok (.aload_n 1, 1) := by decide +kernel
theorem d_L_law_889 : decode mt_L_law.2.1 889 = .ok (.aload_n 0, 1) := by decide +kernel
theorem d_L_law_890 : decode mt_L_law.2.1 890 = .ok (.iload_n 3, 1) := by decide +kernel
theorem d_L_law_891 : decode mt_L_law.2.1 891 = .ok (.iconst 1, 1) := by decide +kernel
theorem d_L_law_892 : decode mt_L_law.2.1 892 = .ok (.iadd, 1) := by decide +kernel
theorem d_L_law_893 : decode mt_L_law.2.1 893 = .ok (.iaload, 1) := by decide +kernel
theorem d_L_law_894 : decode mt_L_law.2.1 894 = .ok (.invokevirtual 101, 3) := by decide +kernel
theorem d_L_law_897 : decode mt_L_law.2.1 897 = .ok (.aload_n 2, 1) := by decide +kernel
theorem d_L_law_898 : decode mt_L_law.2.1 898 = .ok (.aload_n 0, 1) := by decide +kernel
theorem d_L_law_899 : decode mt_L_law.2.1 899 = .ok (.iload_n 3, 1) := by decide +kernel
theorem d_L_law_900 : decode mt_L_law.2.1 900 = .ok (.iconst 1, 1) := by decide +kernel
theorem d_L_law_901 : decode mt_L_law.2.1 901 = .ok (.iadd, 1) := by decide +kernel
theorem d_L_law_902 : decode mt_L_law.2.1 902 = .ok (.iaload, 1) := by decide +kernel
theorem d_L_law_903 : decode mt_L_law.2.1 903 = .ok (.invokevirtual 105, 3) := by decide +kernel
theorem d_L_law_906 : decode mt_L_law.2.1 906 = .ok (.if_icmp .eq 984, 3) := by decide +kernel
theorem d_L_law_909 : decode mt_L_law.2.1 909 = .ok (.iconst 0, 1) := by decide +kernel
theorem d_L_law_910 : decode mt_L_law.2.1 910 = .ok (.ireturn, 1) := by decide +kernel
theorem d_L_law_911 : decode mt_L_law.2.1 911 = .ok (.aload_n 1, 1) := by decide +kernel
theorem d_L_law_912 : decode mt_L_law.2.1 912 = .ok (.aload_n 0, 1) := by decide +kernel
theorem d_L_law_913 : decode mt_L_law.2.1 913 = .ok (.iload_n 3, 1) := by decide +kernel
theorem d_L_law_914 : decode mt_L_law.2.1 914 = .ok (.iconst 1, 1) := by decide +kernel
theorem d_L_law_915 : decode mt_L_law.2.1 915 = .ok (.iadd, 1) := by decide +kernel
theorem d_L_law_916 : decode mt_L_law.2.1 916 = .ok (.iaload, 1) := by decide +kernel
theorem d_L_law_917 : decode mt_L_law.2.1 917 = .ok (.aload_n 0, 1) := by decide +kernel
theorem d_L_law_918 : decode mt_L_law.2.1 918 = .ok (.iload_n 3, 1) := by decide +kernel
theorem d_L_law_919 : decode mt_L_law.2.1 919 = .ok (.iconst 2, 1) := by decide +kernel
theorem d_L_law_920 : decode mt_L_law.2.1 920 = .ok (.iadd, 1) := by decide +kernel
theorem d_L_law_921 : decode mt_L_law.2.1 921 = .ok (.iaload, 1) := by decide +kernel
theorem d_L_law_922 : decode mt_L_law.2.1 922 = .ok (.aload_n 0, 1) := by decide +kernel
theorem d_L_law_923 : decode mt_L_law.2.1 923 = .ok (.iload_n 3, 1) := by decide +kernel
theorem d_L_law_924 : decode mt_L_law.2.1 924 = .ok (.iconst 3, 1) := by decide +kernel
theorem d_L_law_925 : decode mt_L_law.2.1 925 = .ok (.iadd, 1) := by decide +kernel
theorem d_L_law_926 : decode mt_L_law.2.1 926 = .ok (.iaload, 1) := by decide +kernel
theorem d_L_law_927 : decode mt_L_law.2.1 927 = .ok (.invokevirtual 106, 3) := by decide +kernel
theorem d_L_law_930 : decode mt_L_law.2.1 930 = .ok (.aload_n 2, 1) := by decide +kernel
theorem d_L_law_931 : decode mt_L_law.2.1 931 = .ok (.aload_n 0, 1) := by decide +kernel
theorem d_L_law_932 : decode mt_L_law.2.1 932 = .ok (.iload_n 3, 1) := by decide +kernel
theorem d_L_law_933 : decode mt_L_law.2.1 933 = .ok (.iconst 1, 1) := by decide +kernel
theorem d_L_law_934 : decode mt_L_law.2.1 934 = .ok (.iadd, 1) := by decide +kernel
theorem d_L_law_935 : decode mt_L_law.2.1 935 = .ok (.iaload, 1) := by decide +kernel
theorem d_L_law_936 : decode mt_L_law.2.1 936 = .ok (.aload_n 0, 1) := by decide +kernel
theorem d_L_law_937 : decode mt_L_law.2.1 937 = .ok (.iload_n 3, 1) := by decide +kernel
theorem d_L_law_938 : decode mt_L_law.2.1 938 = .ok (.iconst 2, 1) := by decide +kernel
theorem d_L_law_939 : decode mt_L_law.2.1 939 = .ok (.iadd, 1) := by decide +kernel
theorem d_L_law_940 : decode mt_L_law.2.1 940 = .ok (.iaload, 1) := by decide +kernel
theorem d_L_law_941 : decode mt_L_law.2.1 941 = .ok (.aload_n 0, 1) := by decide +kernel
theorem d_L_law_942 : decode mt_L_law.2.1 942 = .ok (.iload_n 3, 1) := by decide +kernel
theorem d_L_law_943 : decode mt_L_law.2.1 943 = .ok (.iconst 3, 1) := by decide +kernel
theorem d_L_law_944 : decode mt_L_law.2.1 944 = .ok (.iadd, 1) := by decide +kernel
theorem d_L_law_945 : decode mt_L_law.2.1 945 = .ok (.iaload, 1) := by decide +kernel
theorem d_L_law_946 : decode mt_L_law.2.1 946 = .ok (.invokevirtual 109, 3) := by decide +kernel
theorem d_L_law_949 : decode mt_L_law.2.1 949 = .ok (.if_icmp .eq 941, 3) := by decide +kernel
theorem d_L_law_952 : decode mt_L_law.2.1 952 = .ok (.iconst 0, 1) := by decide +kernel
theorem d_L_law_953 : decode mt_L_law.2.1 953 = .ok (.ireturn, 1) := by decide +kernel
theorem d_L_law_954 : decode mt_L_law.2.1 954 = .ok (.aload_n 1, 1) := by decide +kernel
theorem d_L_law_955 : decode mt_L_law.2.1 955 = .ok (.aload_n 0, 1) := by decide +kernel
theorem d_L_law_956 : decode mt_L_law.2.1 956 = .ok (.iload_n 3, 1) := by decide +kernel
theorem d_L_law_957 : decode mt_L_law.2.1 957 = .ok (.iconst 1, 1) := by decide +kernel
theorem d_L_law_958 : decode mt_L_law.2.1 958 = .ok (.iadd, 1) := by decide +kernel
theorem d_L_law_959 : decode mt_L_law.2.1 959 = .ok (.iaload, 1) := by decide +kernel
theorem d_L_law_960 : decode mt_L_law.2.1 960 = .ok (.aload_n 0, 1) := by decide +kernel
theorem d_L_law_961 : decode mt_L_law.2.1 961 = .ok (.iload_n 3, 1) := by decide +kernel
theorem d_L_law_962 : decode mt_L_law.2.1 962 = .ok (.iconst 2, 1) := by decide +kernel
theorem d_L_law_963 : decode mt_L_law.2.1 963 = .ok (.iadd, 1) := by decide +kernel
theorem d_L_law_964 : decode mt_L_law.2.1 964 = .ok (.iaload, 1) := by decide +kernel
theorem d_L_law_965 : decode mt_L_law.2.1 965 = .ok (.invokevirtual 110, 3) := by decide +kernel
theorem d_L_law_968 : decode mt_L_law.2.1 968 = .ok (.aload_n 2, 1) := by decide +kernel
theorem d_L_law_969 : decode mt_L_law.2.1 969 = .ok (.aload_n 0, 1) := by decide +kernel
theorem d_L_law_970 : decode mt_L_law.2.1 970 = .ok (.iload_n 3, 1) := by decide +kernel
theorem d_L_law_971 : decode mt_L_law.2.1 971 = .ok (.iconst 1, 1) := by decide +kernel
theorem d_L_law_972 : decode mt_L_law.2.1 972 = .ok (.iadd, 1) := by decide +kernel
theorem d_L_law_973 : decode mt_L_law.2.1 973 = .ok (.iaload, 1) := by decide +kernel
theorem d_L_law_974 : decode mt_L_law.2.1 974 = .ok (.aload_n 0, 1) := by decide +kernel
theorem d_L_law_975 : decode mt_L_law.2.1 975 = .ok (.iload_n 3, 1) := by decide +kernel
theorem d_L_law_976 : decode mt_L_law.2.1 976 = .ok (.iconst 2, 1) := by decide +kernel
theorem d_L_law_977 : decode mt_L_law.2.1 977 = .ok (.iadd, 1) := by decide +kernel
theorem d_L_law_978 : decode mt_L_law.2.1 978 = .ok (.iaload, 1) := by decide +kernel
theorem d_L_law_979 : decode mt_L_law.2.1 979 = .ok (.invokevirtual 113, 3) := by decide +kernel
theorem d_L_law_982 : decode mt_L_law.2.1 982 = .ok (.if_icmp .eq 908, 3) := by decide +kernel
theorem d_L_law_985 : decode mt_L_law.2.1 985 = .ok (.iconst 0, 1) := by decide +kernel
theorem d_L_law_986 : decode mt_L_law.2.1 986 = .ok (.ireturn, 1) := by decide +kernel
theorem d_L_law_987 : decode mt_L_law.2.1 987 = .ok (.aload_n 1, 1) := by decide +kernel
theorem d_L_law_988 : decode mt_L_law.2.1 988 = .ok (.aload_n 0, 1) := by decide +kernel
theorem d_L_law_989 : decode mt_L_law.2.1 989 = .ok (.iload_n 3, 1) := by decide +kernel
theorem d_L_law_990 : decode mt_L_law.2.1 990 = .ok (.iconst 1, 1) := by decide +kernel
theorem d_L_law_991 : decode mt_L_law.2.1 991 = .ok (.iadd, 1) := by decide +kernel
theorem d_L_law_992 : decode mt_L_law.2.1 992 = .ok (.iaload, 1) := by decide +kernel
theorem d_L_law_993 : decode mt_L_law.2.1 993 = .ok (.aload_n 0, 1) := by decide +kernel
theorem d_L_law_994 : decode mt_L_law.2.1 994 = .ok (.iload_n 3, 1) := by decide +kernel
theorem d_L_law_995 : decode mt_L_law.2.1 995 = .ok (.iconst 2, 1) := by decide +kernel
theorem d_L_law_996 : decode mt_L_law.2.1 996 = .ok (.iadd, 1) := by decide +kernel
theorem d_L_law_997 : decode mt_L_law.2.1 997 = .ok (.iaload, 1) := by decide +kernel
theorem d_L_law_998 : decode mt_L_law.2.1 998 = .ok (.ifCond .eq 7, 3) := by decide +kernel
theorem d_L_law_1001 : decode mt_L_law.2.1 1001 = .ok (.iconst 1, 1) := by decide +kernel
theorem d_L_law_1002 : decode mt_L_law.2.1 1002 = .ok (.goto 4, 3) := by decide +kernel
theorem d_L_law_1005 : decode mt_L_law.2.1 1005 = .ok (.iconst 0, 1) := by decide +kernel
theorem d_L_law_1006 : decode mt_L_law.2.1 1006 = .ok (.invokevirtual 114, 3) := by decide +kernel
theorem d_L_law_1009 : decode mt_L_law.2.1 1009 = .ok (.aload_n 2, 1) := by decide +kernel
theorem d_L_law_1010 : decode mt_L_law.2.1 1010 = .ok (.aload_n 0, 1) := by decide +kernel
theorem d_L_law_1011 : decode mt_L_law.2.1 1011 = .ok (.iload_n 3, 1) := by decide +kernel
theorem d_L_law_1012 : decode mt_L_law.2.1 1012 = .ok (.iconst 1, 1) := by decide +kernel
theorem d_L_law_1013 : decode mt_L_law.2.1 1013 = .ok (.iadd, 1) := by decide +kernel
theorem d_L_law_1014 : decode mt_L_law.2.1 1014 = .ok (.iaload, 1) := by decide +kernel
theorem d_L_law_1015 : decode mt_L_law.2.1 1015 = .ok (.aload_n 0, 1) := by decide +kernel
theorem d_L_law_1016 : decode mt_L_law.2.1 1016 = .ok (.iload_n 3, 1) := by decide +kernel
theorem d_L_law_1017 : decode mt_L_law.2.1 1017 = .ok (.iconst 2, 1) := by decide +kernel
theorem d_L_law_1018 : decode mt_L_law.2.1 1018 = .ok (.iadd, 1) := by decide +kernel
theorem d_L_law_1019 : decode mt_L_law.2.1 1019 = .ok (.iaload, 1) := by decide +kernel
theorem d_L_law_1020 : decode mt_L_law.2.1 1020 = .ok (.ifCond .eq 7, 3) := by decide +kernel
theorem d_L_law_1023 : decode mt_L_law.2.1 1023 = .ok (.iconst 1, 1) := by decide +kernel
theorem d_L_law_1024 : decode mt_L_law.2.1 1024 = .ok (.goto 4, 3) := by decide +kernel
theorem d_L_law_1027 : decode mt_L_law.2.1 1027 = .ok (.iconst 0, 1) := by decide +kernel
theorem d_L_law_1028 : decode mt_L_law.2.1 1028 = .ok (.invokevirtual 118, 3) := by decide +kernel
theorem d_L_law_1031 : decode mt_L_law.2.1 1031 = .ok (.if_icmp .eq 859, 3) := by decide +kernel
theorem d_L_law_1034 : decode mt_L_law.2.1 1034 = .ok (.iconst 0, 1) := by decide +kernel
theorem d_L_law_1035 : decode mt_L_law.2.1 1035 = .ok (.ireturn, 1) := by decide +kernel
theorem d_L_law_1036 : decode mt_L_law.2.1 1036 = .ok (.aload_n 1, 1) := by decide +kernel
theorem d_L_law_1037 : decode mt_L_law.2.1 1037 = .ok (.aload_n 0, 1) := by decide +kernel
theorem d_L_law_1038 : decode mt_L_law.2.1 1038 = .ok (.iload_n 3, 1) := by decide +kernel
theorem d_L_law_1039 : decode mt_L_law.2.1 1039 = .ok (.iconst 1, 1) := by decide +kernel
theorem d_L_law_1040 : decode mt_L_law.2.1 1040 = .ok (.iadd, 1) := by decide +kernel
theorem d_L_law_1041 : decode mt_L_law.2.1 1041 = .ok (.iaload, 1) := by decide +kernel
theorem d_L_law_1042 : decode mt_L_law.2.1 1042 = .ok (.invokevirtual 119, 3) := by decide +kernel
theorem d_L_law_1045 : decode mt_L_law.2.1 1045 = .ok (.aload_n 2, 1) := by decide +kernel
theorem d_L_law_1046 : decode mt_L_law.2.1 1046 = .ok (.aload_n 0, 1) := by decide +kernel
theorem d_L_law_1047 : decode mt_L_law.2.1 1047 = .ok (.iload_n 3, 1) := by decide +kernel
theorem d_L_law_1048 : decode mt_L_law.2.1 1048 = .ok (.iconst 1, 1) := by decide +kernel
theorem d_L_law_1049 : decode mt_L_law.2.1 1049 = .ok (.iadd, 1) := by decide +kernel
theorem d_L_law_1050 : decode mt_L_law.2.1 1050 = .ok (.iaload, 1) := by decide +kernel
theorem d_L_law_1051 : decode mt_L_law.2.1 1051 = .ok (.invokevirtual 122, 3) := by decide +kernel
theorem d_L_law_1054 : decode mt_L_law.2.1 1054 = .ok (.if_icmp .eq 836, 3) := by decide +kernel
theorem d_L_law_1057 : decode mt_L_law.2.1 1057 = .ok (.iconst 0, 1) := by decide +kernel
theorem d_L_law_1058 : decode mt_L_law.2.1 1058 = .ok (.ireturn, 1) := by decide +kernel
theorem d_L_law_1059 : decode mt_L_law.2.1 1059 = .ok (.aload_n 1, 1) := by decide +kernel
theorem d_L_law_1060 : decode mt_L_law.2.1 1060 = .ok (.aload_n 0, 1) := by decide +kernel
theorem d_L_law_1061 : decode mt_L_law.2.1 1061 = .ok (.iload_n 3, 1) := by decide +kernel
theorem d_L_law_1062 : decode mt_L_law.2.1 1062 = .ok (.iconst 1, 1) := by decide +kernel
theorem d_L_law_1063 : decode mt_L_law.2.1 1063 = .ok (.iadd, 1) := by decide +kernel
theorem d_L_law_1064 : decode mt_L_law.2.1 1064 = .ok (.iaload, 1) := by decide +kernel
theorem d_L_law_1065 : decode mt_L_law.2.1 1065 = .ok (.aload_n 0, 1) := by decide +kernel
theorem d_L_law_1066 : decode mt_L_law.2.1 1066 = .ok (.iload_n 3, 1) := by decide +kernel
theorem d_L_law_1067 : decode mt_L_law.2.1 1067 = .ok (.iconst 2, 1) := by decide +kernel
theorem d_L_law_1068 : decode mt_L_law.2.1 1068 = .ok (.iadd, 1) := by decide +kernel
theorem d_L_law_1069 : decode mt_L_law.2.1 1069 = .ok (.iaload, 1) := by decide +kernel
theorem d_L_law_1070 : decode mt_L_law.2.1 1070 = .ok (.invokevirtual 123, 3) := by decide +kernel
theorem d_L_law_1073 : decode mt_L_law.2.1 1073 = .ok (.aload_n 2, 1) := by decide +kernel
theorem d_L_law_1074 : decode mt_L_law.2.1 1074 = .ok (.aload_n 0, 1) := by decide +kernel
theorem d_L_law_1075 : decode mt_L_law.2.1 1075 = .ok (.iload_n 3, 1) := by decide +kernel
theorem d_L_law_1076 : decode mt_L_law.2.1 1076 = .ok (.iconst 1, 1) := by decide +kernel
theorem d_L_law_1077 : decode mt_L_law.2.1 1077 = .ok (.iadd, 1) := by decide +kernel
theorem d_L_law_1078 : decode mt_L_law.2.1 1078 = .ok (.iaload, 1) := by decide +kernel
theorem d_L_law_1079 : decode mt_L_law.2.1 1079 = .ok (.aload_n 0, 1) := by decide +kernel
theorem d_L_law_1080 : decode mt_L_law.2.1 1080 = .ok (.iload_n 3, 1) := by decide +kernel
theorem d_L_law_1081 : decode mt_L_law.2.1 1081 = .ok (.iconst 2, 1) := by decide +kernel
theorem d_L_law_1082 : decode mt_L_law.2.1 1082 = .ok (.iadd, 1) := by decide +kernel
theorem d_L_law_1083 : decode mt_L_law.2.1 1083 = .ok (.iaload, 1) := by decide +kernel
theorem d_L_law_1084 : decode mt_L_law.2.1 1084 = .ok (.invokevirtual 126, 3) := by decide +kernel
theorem d_L_law_1087 : decode mt_L_law.2.1 1087 = .ok (.if_icmp .eq 803, 3) := by decide +kernel
theorem d_L_law_1090 : decode mt_L_law.2.1 1090 = .ok (.iconst 0, 1) := by decide +kernel
theorem d_L_law_1091 : decode mt_L_law.2.1 1091 = .ok (.ireturn, 1) := by decide +kernel
theorem d_L_law_1092 : decode mt_L_law.2.1 1092 = .ok (.aload_n 1, 1) := by decide +kernel
theorem d_L_law_1093 : decode mt_L_law.2.1 1093 = .ok (.aload_n 0, 1) := by decide +kernel
theorem d_L_law_1094 : decode mt_L_law.2.1 1094 = .ok (.iload_n 3, 1) := by decide +kernel
theorem d_L_law_1095 : decode mt_L_law.2.1 1095 = .ok (.iconst 1, 1) := by decide +kernel
theorem d_L_law_1096 : decode mt_L_law.2.1 1096 = .ok (.iadd, 1) := by decide +kernel
theorem d_L_law_1097 : decode mt_L_law.2.1 1097 = .ok (.iaload, 1) := by decide +kernel
theorem d_L_law_1098 : decode mt_L_law.2.1 1098 = .ok (.aload_n 0, 1) := by decide +kernel
theorem d_L_law_1099 : decode mt_L_law.2.1 1099 = .ok (.iload_n 3, 1) := by decide +kernel
theorem d_L_law_1100 : decode mt_L_law.2.1 1100 = .ok (.iconst 2, 1) := by decide +kernel
theorem d_L_law_1101 : decode mt_L_law.2.1 1101 = .ok (.iadd, 1) := by decide +kernel
theorem d_L_law_1102 : decode mt_L_law.2.1 1102 = .ok (.iaload, 1) := by decide +kernel
theorem d_L_law_1103 : decode mt_L_law.2.1 1103 = .ok (.invokevirtual 127, 3) := by decide +kernel
theorem d_L_law_1106 : decode mt_L_law.2.1 1106 = .ok (.aload_n 2, 1) := by decide +kernel
theorem d_L_law_1107 : decode mt_L_law.2.1 1107 = .ok (.aload_n 0, 1) := by decide +kernel
theorem d_L_law_1108 : decode mt_L_law.2.1 1108 = .ok (.iload_n 3, 1) := by decide +kernel
theorem d_L_law_1109 : decode mt_L_law.2.1 1109 = .ok (.iconst 1, 1) := by decide +kernel
theorem d_L_law_1110 : decode mt_L_law.2.1 1110 = .ok (.iadd, 1) := by decide +kernel
theorem d_L_law_1111 : decode mt_L_law.2.1 1111 = .ok (.iaload, 1) := by decide +kernel
theorem d_L_law_1112 : decode mt_L_law.2.1 1112 = .ok (.aload_n 0, 1) := by decide +kernel
theorem d_L_law_1113 : decode mt_L_law.2.1 1113 = .ok (.iload_n 3, 1) := by decide +kernel
theorem d_L_law_1114 : decode mt_L_law.2.1 1114 = .ok (.iconst 2, 1) := by decide +kernel
theorem d_L_law_1115 : decode mt_L_law.2.1 1115 = .ok (.iadd, 1) := by decide +kernel
theorem d_L_law_1116 : decode mt_L_law.2.1 1116 = .ok (.iaload, 1) := by decide +kernel
theorem d_L_law_1117 : decode mt_L_law.2.1 1117 = .ok (.invokevirtual 130, 3) := by decide +kernel
theorem d_L_law_1120 : decode mt_L_law.2.1 1120 = .ok (.if_icmp .eq 770, 3) := by decide +kernel
theorem d_L_law_1123 : decode mt_L_law.2.1 1123 = .ok (.iconst 0, 1) := by decide +kernel
theorem d_L_law_1124 : decode mt_L_law.2.1 1124 = .ok (.ireturn, 1) := by decide +kernel
theorem d_L_law_1125 : decode mt_L_law.2.1 1125 = .ok (.aload_n 1, 1) := by decide +kernel
theorem d_L_law_1126 : decode mt_L_law.2.1 1126 = .ok (.aload_n 0, 1) := by decide +kernel
theorem d_L_law_1127 : decode mt_L_law.2.1 1127 = .ok (.iload_n 3, 1) := by decide +kernel
theorem d_L_law_1128 : decode mt_L_law.2.1 1128 = .ok (.iconst 1, 1) := by decide +kernel
theorem d_L_law_1129 : decode mt_L_law.2.1 1129 = .ok (.iadd, 1) := by decide +kernel
theorem d_L_law_1130 : decode mt_L_law.2.1 1130 = .ok (.iaload, 1) := by decide +kernel
theorem d_L_law_1131 : decode mt_L_law.2.1 1131 = .ok (.aload_n 0, 1) := by decide +kernel
theorem d_L_law_1132 : decode mt_L_law.2.1 1132 = .ok (.iload_n 3, 1) := by decide +kernel
theorem d_L_law_1133 : decode mt_L_law.2.1 1133 = .ok (.iconst 2, 1) := by decide +kernel
theorem d_L_law_1134 : decode mt_L_law.2.1 1134 = .ok (.iadd, 1) := by decide +kernel
theorem d_L_law_1135 : decode mt_L_law.2.1 1135 = .ok (.iaload, 1) := by decide +kernel
theorem d_L_law_1136 : decode mt_L_law.2.1 1136 = .ok (.invokevirtual 131, 3) := by decide +kernel
theorem d_L_law_1139 : decode mt_L_law.2.1 1139 = .ok (.aload_n 2, 1) := by decide +kernel
theorem d_L_law_1140 : decode mt_L_law.2.1 1140 = .ok (.aload_n 0, 1) := by decide +kernel
theorem d_L_law_1141 : decode mt_L_law.2.1 1141 = .ok (.iload_n 3, 1) := by decide +kernel
theorem d_L_law_1142 : decode mt_L_law.2.1 1142 = .ok (.iconst 1, 1) := by decide +kernel
theorem d_L_law_1143 : decode mt_L_law.2.1 1143 = .ok (.iadd, 1) := by decide +kernel
theorem d_L_law_1144 : decode mt_L_law.2.1 1144 = .ok (.iaload, 1) := by decide +kernel
theorem d_L_law_1145 : decode mt_L_law.2.1 1145 = .ok (.aload_n 0, 1) := by decide +kernel
theorem d_L_law_1146 : decode mt_L_law.2.1 1146 = .ok (.iload_n 3, 1) := by decide +kernel
theorem d_L_law_1147 : decode mt_L_law.2.1 1147 = .ok (.iconst 2, 1) := by decide +kernel
theorem d_L_law_1148 : decode mt_L_law.2.1 1148 = .ok (.iadd, 1) := by decide +kernel
theorem d_L_law_1149 : decode mt_L_law.2.1 1149 = .ok (.iaload, 1) := by decide +kernel
theorem d_L_law_1150 : decode mt_L_law.2.1 1150 = .ok (.invokevirtual 134, 3) := by decide +kernel
theorem d_L_law_1153 : decode mt_L_law.2.1 1153 = .ok (.if_icmp .eq 737, 3) := by decide +kernel
theorem d_L_law_1156 : decode mt_L_law.2.1 1156 = .ok (.iconst 0, 1) := by decide +kernel
theorem d_L_law_1157 : decode mt_L_law.2.1 1157 = .ok (.ireturn, 1) := by decide +kernel
theorem d_L_law_1158 : decode mt_L_law.2.1 1158 = .ok (.aload_n 1, 1) := by decide +kernel
theorem d_L_law_1159 : decode mt_L_law.2.1 1159 = .ok (.aload_n 0, 1) := by decide +kernel
theorem d_L_law_1160 : decode mt_L_law.2.1 1160 = .ok (.iload_n 3, 1) := by decide +kernel
theorem d_L_law_1161 : decode mt_L_law.2.1 1161 = .ok (.iconst 1, 1) := by decide +kernel
theorem d_L_law_1162 : decode mt_L_law.2.1 1162 = .ok (.iadd, 1) := by decide +kernel
theorem d_L_law_1163 : decode mt_L_law.2.1 1163 = .ok (.iaload, 1) := by decide +kernel
theorem d_L_law_1164 : decode mt_L_law.2.1 1164 = .ok (.aload_n 0, 1) := by decide +kernel
theorem d_L_law_1165 : decode mt_L_law.2.1 1165 = .ok (.iload_n 3, 1) := by decide +kernel
theorem d_L_law_1166 : decode mt_L_law.2.1 1166 = .ok (.iconst 2, 1) := by decide +kernel
theorem d_L_law_1167 : decode mt_L_law.2.1 1167 = .ok (.iadd, 1) := by decide +kernel
theorem d_L_law_1168 : decode mt_L_law.2.1 1168 = .ok (.iaload, 1) := by decide +kernel
theorem d_L_law_1169 : decode mt_L_law.2.1 1169 = .ok (.invokevirtual 135, 3) := by decide +kernel
theorem d_L_law_1172 : decode mt_L_law.2.1 1172 = .ok (.aload_n 2, 1) := by decide +kernel
theorem d_L_law_1173 : decode mt_L_law.2.1 1173 = .ok (.aload_n 0, 1) := by decide +kernel
theorem d_L_law_1174 : decode mt_L_law.2.1 1174 = .ok (.iload_n 3, 1) := by decide +kernel
theorem d_L_law_1175 : decode mt_L_law.2.1 1175 = .ok (.iconst 1, 1) := by decide +kernel
theorem d_L_law_1176 : decode mt_L_law.2.1 1176 = .ok (.iadd, 1) := by decide +kernel
theorem d_L_law_1177 : decode mt_L_law.2.1 1177 = .ok (.iaload, 1) := by decide +kernel
theorem d_L_law_1178 : decode mt_L_law.2.1 1178 = .ok (.aload_n 0, 1) := by decide +kernel
theorem d_L_law_1179 : decode mt_L_law.2.1 1179 = .ok (.iload_n 3, 1) := by decide +kernel
theorem d_L_law_1180 : decode mt_L_law.2.1 1180 = .ok (.iconst 2, 1) := by decide +kernel
theorem d_L_law_1181 : decode mt_L_law.2.1 1181 = .ok (.iadd, 1) := by decide +kernel
theorem d_L_law_1182 : decode mt_L_law.2.1 1182 = .ok (.iaload, 1) := by decide +kernel
theorem d_L_law_1183 : decode mt_L_law.2.1 1183 = .ok (.invokevirtual 138, 3) := by decide +kernel
theorem d_L_law_1186 : decode mt_L_law.2.1 1186 = .ok (.if_icmp .eq 704, 3) := by decide +kernel
theorem d_L_law_1189 : decode mt_L_law.2.1 1189 = .ok (.iconst 0, 1) := by decide +kernel
theorem d_L_law_1190 : decode mt_L_law.2.1 1190 = .ok (.ireturn, 1) := by decide +kernel
theorem d_L_law_1191 : decode mt_L_law.2.1 1191 = .ok (.aload_n 1, 1) := by decide +kernel
theorem d_L_law_1192 : decode mt_L_law.2.1 1192 = .ok (.aload_n 0, 1) := by decide +kernel
theorem d_L_law_1193 : decode mt_L_law.2.1 1193 = .ok (.iload_n 3, 1) := by decide +kernel
theorem d_L_law_1194 : decode mt_L_law.2.1 1194 = .ok (.iconst 1, 1) := by decide +kernel
theorem d_L_law_1195 : decode mt_L_law.2.1 1195 = .ok (.iadd, 1) := by decide +kernel
theorem d_L_law_1196 : decode mt_L_law.2.1 1196 = .ok (.iaload, 1) := by decide +kernel
theorem d_L_law_1197 : decode mt_L_law.2.1 1197 = .ok (.invokevirtual 139, 3) := by decide +kernel
theorem d_L_law_1200 : decode mt_L_law.2.1 1200 = .ok (.aload_n 2, 1) := by decide +kernel
theorem d_L_law_1201 : decode mt_L_law.2.1 1201 = .ok (.aload_n 0, 1) := by decide +kernel
theorem d_L_law_1202 : decode mt_L_law.2.1 1202 = .ok (.iload_n 3, 1) := by decide +kernel
theorem d_L_law_1203 : decode mt_L_law.2.1 1203 = .ok (.iconst 1, 1) := by decide +kernel
theorem d_L_law_1204 : decode mt_L_law.2.1 1204 = .ok (.iadd, 1) := by decide +kernel
theorem d_L_law_1205 : decode mt_L_law.2.1 1205 = .ok (.iaload, 1) := by decide +kernel
theorem d_L_law_1206 : decode mt_L_law.2.1 1206 = .ok (.invokevirtual 142, 3) := by decide +kernel
theorem d_L_law_1209 : decode mt_L_law.2.1 1209 = .ok (.if_icmp .eq 681, 3) := by decide +kernel
theorem d_L_law_1212 : decode mt_L_law.2.1 1212 = .ok (.iconst 0, 1) := by decide +kernel
theorem d_L_law_1213 : decode mt_L_law.2.1 1213 = .ok (.ireturn, 1) := by decide +kernel
theorem d_L_law_1214 : decode mt_L_law.2.1 1214 = .ok (.aload_n 1, 1) := by decide +kernel
theorem d_L_law_1215 : decode mt_L_law.2.1 1215 = .ok (.aload_n 0, 1) := by decide +kernel
theorem d_L_law_1216 : decode mt_L_law.2.1 1216 = .ok (.iload_n 3, 1) := by decide +kernel
theorem d_L_law_1217 : decode mt_L_law.2.1 1217 = .ok (.iconst 1, 1) := by decide +kernel
theorem d_L_law_1218 : decode mt_L_law.2.1 1218 = .ok (.iadd, 1) := by decide +kernel
theorem d_L_law_1219 : decode mt_L_law.2.1 1219 = .ok (.iaload, 1) := by decide +kernel
theorem d_L_law_1220 : decode mt_L_law.2.1 1220 = .ok (.invokevirtual 143, 3) := by decide +kernel
theorem d_L_law_1223 : decode mt_L_law.2.1 1223 = .ok (.aload_n 2, 1) := by decide +kernel
theorem d_L_law_1224 : decode mt_L_law.2.1 1224 = .ok (.aload_n 0, 1) := by decide +kernel
theorem d_L_law_1225 : decode mt_L_law.2.1 1225 = .ok (.iload_n 3, 1) := by decide +kernel
theorem d_L_law_1226 : decode mt_L_law.2.1 1226 = .ok (.iconst 1, 1) := by decide +kernel
theorem d_L_law_1227 : decode mt_L_law.2.1 1227 = .ok (.iadd, 1) := by decide +kernel
theorem d_L_law_1228 : decode mt_L_law.2.1 1228 = .ok (.iaload, 1) := by decide +kernel
theorem d_L_law_1229 : decode mt_L_law.2.1 1229 = .ok (.invokevirtual 146, 3) := by decide +kernel
theorem d_L_law_1232 : decode mt_L_law.2.1 1232 = .ok (.if_icmp .eq 658, 3) := by decide +kernel
theorem d_L_law_1235 : decode mt_L_law.2.1 1235 = .ok (.iconst 0, 1) := by decide +kernel
theorem d_L_law_1236 : decode mt_L_law.2.1 1236 = .ok (.ireturn, 1) := by decide +kernel
theorem d_L_law_1237 : decode mt_L_law.2.1 1237 = .ok (.aload_n 1, 1) := by decide +kernel
theorem d_L_law_1238 : decode mt_L_law.2.1 1238 = .ok (.aload_n 0, 1) := by decide +kernel
theorem d_L_law_1239 : decode mt_L_law.2.1 1239 = .ok (.iload_n 3, 1) := by decide +kernel
theorem d_L_law_1240 : decode mt_L_law.2.1 1240 = .ok (.iconst 1, 1) := by decide +kernel
theorem d_L_law_1241 : decode mt_L_law.2.1 1241 = .ok (.iadd, 1) := by decide +kernel
theorem d_L_law_1242 : decode mt_L_law.2.1 1242 = .ok (.iaload, 1) := by decide +kernel
theorem d_L_law_1243 : decode mt_L_law.2.1 1243 = .ok (.invokevirtual 147, 3) := by decide +kernel
theorem d_L_law_1246 : decode mt_L_law.2.1 1246 = .ok (.aload_n 2, 1) := by decide +kernel
theorem d_L_law_1247 : decode mt_L_law.2.1 1247 = .ok (.aload_n 0, 1) := by decide +kernel
theorem d_L_law_1248 : decode mt_L_law.2.1 1248 = .ok (.iload_n 3, 1) := by decide +kernel
theorem d_L_law_1249 : decode mt_L_law.2.1 1249 = .ok (.iconst 1, 1) := by decide +kernel
theorem d_L_law_1250 : decode mt_L_law.2.1 1250 = .ok (.iadd, 1) := by decide +kernel
theorem d_L_law_1251 : decode mt_L_law.2.1 1251 = .ok (.iaload, 1) := by decide +kernel
theorem d_L_law_1252 : decode mt_L_law.2.1 1252 = .ok (.invokevirtual 150, 3) := by decide +kernel
theorem d_L_law_1255 : decode mt_L_law.2.1 1255 = .ok (.if_icmp .eq 635, 3) := by decide +kernel
theorem d_L_law_1258 : decode mt_L_law.2.1 1258 = .ok (.iconst 0, 1) := by decide +kernel
theorem d_L_law_1259 : decode mt_L_law.2.1 1259 = .ok (.ireturn, 1) := by decide +kernel
theorem d_L_law_1260 : decode mt_L_law.2.1 1260 = .ok (.aload_n 1, 1) := by decide +kernel
theorem d_L_law_1261 : decode mt_L_law.2.1 1261 = .ok (.aload_n 0, 1) := by decide +kernel
theorem d_L_law_1262 : decode mt_L_law.2.1 1262 = .ok (.iload_n 3, 1) := by decide +kernel
theorem d_L_law_1263 : decode mt_L_law.2.1 1263 = .ok (.iconst 1, 1) := by decide +kernel
theorem d_L_law_1264 : decode mt_L_law.2.1 1264 = .ok (.iadd, 1) := by decide +kernel
theorem d_L_law_1265 : decode mt_L_law.2.1 1265 = .ok (.iaload, 1) := by decide +kernel
theorem d_L_law_1266 : decode mt_L_law.2.1 1266 = .ok (.aload_n 0, 1) := by decide +kernel
theorem d_L_law_1267 : decode mt_L_law.2.1 1267 = .ok (.iload_n 3, 1) := by decide +kernel
theorem d_L_law_1268 : decode mt_L_law.2.1 1268 = .ok (.iconst 2, 1) := by decide +kernel
theorem d_L_law_1269 : decode mt_L_law.2.1 1269 = .ok (.iadd, 1) := by decide +kernel
theorem d_L_law_1270 : decode mt_L_law.2.1 1270 = .ok (.iaload, 1) := by decide +kernel
theorem d_L_law_1271 : decode mt_L_law.2.1 1271 = .ok (.invokevirtual 151, 3) := by decide +kernel
theorem d_L_law_1274 : decode mt_L_law.2.1 1274 = .ok (.aload_n 2, 1) := by decide +kernel
theorem d_L_law_1275 : decode mt_L_law.2.1 1275 = .ok (.aload_n 0, 1) := by decide +kernel
theorem d_L_law_1276 : decode mt_L_law.2.1 1276 = .ok (.iload_n 3, 1) := by decide +kernel
theorem d_L_law_1277 : decode mt_L_law.2.1 1277 = .ok (.iconst 1, 1) := by decide +kernel
theorem d_L_law_1278 : decode mt_L_law.2.1 1278 = .ok (.iadd, 1) := by decide +kernel
theorem d_L_law_1279 : decode mt_L_law.2.1 1279 = .ok (.iaload, 1) := by decide +kernel
theorem d_L_law_1280 : decode mt_L_law.2.1 1280 = .ok (.aload_n 0, 1) := by decide +kernel
theorem d_L_law_1281 : decode mt_L_law.2.1 1281 = .ok (.iload_n 3, 1) := by decide +kernel
theorem d_L_law_1282 : decode mt_L_law.2.1 1282 = .ok (.iconst 2, 1) := by decide +kernel
theorem d_L_law_1283 : decode mt_L_law.2.1 1283 = .ok (.iadd, 1) := by decide +kernel
theorem d_L_law_1284 : decode mt_L_law.2.1 1284 = .ok (.iaload, 1) := by decide +kernel
theorem d_L_law_1285 : decode mt_L_law.2.1 1285 = .ok (.invokevirtual 154, 3) := by decide +kernel
theorem d_L_law_1288 : decode mt_L_law.2.1 1288 = .ok (.if_icmp .eq 602, 3) := by decide +kernel
theorem d_L_law_1291 : decode mt_L_law.2.1 1291 = .ok (.iconst 0, 1) := by decide +kernel
theorem d_L_law_1292 : decode mt_L_law.2.1 1292 = .ok (.ireturn, 1) := by decide +kernel
theorem d_L_law_1293 : decode mt_L_law.2.1 1293 = .ok (.aload_n 1, 1) := by decide +kernel
theorem d_L_law_1294 : decode mt_L_law.2.1 1294 = .ok (.aload_n 0, 1) := by decide +kernel
theorem d_L_law_1295 : decode mt_L_law.2.1 1295 = .ok (.iload_n 3, 1) := by decide +kernel
theorem d_L_law_1296 : decode mt_L_law.2.1 1296 = .ok (.iconst 1, 1) := by decide +kernel
theorem d_L_law_1297 : decode mt_L_law.2.1 1297 = .ok (.iadd, 1) := by decide +kernel
theorem d_L_law_1298 : decode mt_L_law.2.1 1298 = .ok (.iaload, 1) := by decide +kernel
theorem d_L_law_1299 : decode mt_L_law.2.1 1299 = .ok (.aload_n 0, 1) := by decide +kernel
theorem d_L_law_1300 : decode mt_L_law.2.1 1300 = .ok (.iload_n 3, 1) := by decide +kernel
theorem d_L_law_1301 : decode mt_L_law.2.1 1301 = .ok (.iconst 2, 1) := by decide +kernel
theorem d_L_law_1302 : decode mt_L_law.2.1 1302 = .ok (.iadd, 1) := by decide +kernel
theorem d_L_law_1303 : decode mt_L_law.2.1 1303 = .ok (.iaload, 1) := by decide +kernel
theorem d_L_law_1304 : decode mt_L_law.2.1 1304 = .ok (.invokevirtual 155, 3) := by decide +kernel
theorem d_L_law_1307 : decode mt_L_law.2.1 1307 = .ok (.aload_n 2, 1) := by decide +kernel
theorem d_L_law_1308 : decode mt_L_law.2.1 1308 = .ok (.aload_n 0, 1) := by decide +kernel
theorem d_L_law_1309 : decode mt_L_law.2.1 1309 = .ok (.iload_n 3, 1) := by decide +kernel
theorem d_L_law_1310 : decode mt_L_law.2.1 1310 = .ok (.iconst 1, 1) := by decide +kernel
theorem d_L_law_1311 : decode mt_L_law.2.1 1311 = .ok (.iadd, 1) := by decide +kernel
theorem d_L_law_1312 : decode mt_L_law.2.1 1312 = .ok (.iaload, 1) := by decide +kernel
theorem d_L_law_1313 : decode mt_L_law.2.1 1313 = .ok (.aload_n 0, 1) := by decide +kernel
theorem d_L_law_1314 : decode mt_L_law.2.1 1314 = .ok (.iload_n 3, 1) := by decide +kernel
theorem d_L_law_1315 : decode mt_L_law.2.1 1315 = .ok (.iconst 2, 1) := by decide +kernel
theorem d_L_law_1316 : decode mt_L_law.2.1 1316 = .ok (.iadd, 1) := by decide +kernel
theorem d_L_law_1317 : decode mt_L_law.2.1 1317 = .ok (.iaload, 1) := by decide +kernel
theorem d_L_law_1318 : decode mt_L_law.2.1 1318 = .ok (.invokevirtual 158, 3) := by decide +kernel
theorem d_L_law_1321 : decode mt_L_law.2.1 1321 = .ok (.if_icmp .eq 569, 3) := by decide +kernel
theorem d_L_law_1324 : decode mt_L_law.2.1 1324 = .ok (.iconst 0, 1) := by decide +kernel
theorem d_L_law_1325 : decode mt_L_law.2.1 1325 = .ok (.ireturn, 1) := by decide +kernel
theorem d_L_law_1326 : decode mt_L_law.2.1 1326 = .ok (.aload_n 1, 1) := by decide +kernel
theorem d_L_law_1327 : decode mt_L_law.2.1 1327 = .ok (.aload_n 0, 1) := by decide +kernel
theorem d_L_law_1328 : decode mt_L_law.2.1 1328 = .ok (.iload_n 3, 1) := by decide +kernel
theorem d_L_law_1329 : decode mt_L_law.2.1 1329 = .ok (.iconst 1, 1) := by decide +kernel
theorem d_L_law_1330 : decode mt_L_law.2.1 1330 = .ok (.iadd, 1) := by decide +kernel
theorem d_L_law_1331 : decode mt_L_law.2.1 1331 = .ok (.iaload, 1) := by decide +kernel
theorem d_L_law_1332 : decode mt_L_law.2.1 1332 = .ok (.aload_n 0, 1) := by decide +kernel
theorem d_L_law_1333 : decode mt_L_law.2.1 1333 = .ok (.iload_n 3, 1) := by decide +kernel
theorem d_L_law_1334 : decode mt_L_law.2.1 1334 = .ok (.iconst 2, 1) := by decide +kernel
theorem d_L_law_1335 : decode mt_L_law.2.1 1335 = .ok (.iadd, 1) := by decide +kernel
theorem d_L_law_1336 : decode mt_L_law.2.1 1336 = .ok (.iaload, 1) := by decide +kernel
theorem d_L_law_1337 : decode mt_L_law.2.1 1337 = .ok (.aload_n 0, 1) := by decide +kernel
theorem d_L_law_1338 : decode mt_L_law.2.1 1338 = .ok (.iload_n 3, 1) := by decide +kernel
theorem d_L_law_1339 : decode mt_L_law.2.1 1339 = .ok (.iconst 3, 1) := by decide +kernel
theorem d_L_law_1340 : decode mt_L_law.2.1 1340 = .ok (.iadd, 1) := by decide +kernel
theorem d_L_law_1341 : decode mt_L_law.2.1 1341 = .ok (.iaload, 1) := by decide +kernel
theorem d_L_law_1342 : decode mt_L_law.2.1 1342 = .ok (.invokevirtual 159, 3) := by decide +kernel
theorem d_L_law_1345 : decode mt_L_law.2.1 1345 = .ok (.aload_n 2, 1) := by decide +kernel
theorem d_L_law_1346 : decode mt_L_law.2.1 1346 = .ok (.aload_n 0, 1) := by decide +kernel
theorem d_L_law_1347 : decode mt_L_law.2.1 1347 = .ok (.iload_n 3, 1) := by decide +kernel
theorem d_L_law_1348 : decode mt_L_law.2.1 1348 = .ok (.iconst 1, 1) := by decide +kernel
theorem d_L_law_1349 : decode mt_L_law.2.1 1349 = .ok (.iadd, 1) := by decide +kernel
theorem d_L_law_1350 : decode mt_L_law.2.1 1350 = .ok (.iaload, 1) := by decide +kernel
theorem d_L_law_1351 : decode mt_L_law.2.1 1351 = .ok (.aload_n 0, 1) := by decide +kernel
theorem d_L_law_1352 : decode mt_L_law.2.1 1352 = .ok (.iload_n 3, 1) := by decide +kernel
theorem d_L_law_1353 : decode mt_L_law.2.1 1353 = .ok (.iconst 2, 1) := by decide +kernel
theorem d_L_law_1354 : decode mt_L_law.2.1 1354 = .ok (.iadd, 1) := by decide +kernel
theorem d_L_law_1355 : decode mt_L_law.2.1 1355 = .ok (.iaload, 1) := by decide +kernel
theorem d_L_law_1356 : decode mt_L_law.2.1 1356 = .ok (.aload_n 0, 1) := by decide +kernel
theorem d_L_law_1357 : decode mt_L_law.2.1 1357 = .ok (.iload_n 3, 1) := by decide +kernel
theorem d_L_law_1358 : decode mt_L_law.2.1 1358 = .ok (.iconst 3, 1) := by decide +kernel
theorem d_L_law_1359 : decode mt_L_law.2.1 1359 = .ok (.iadd, 1) := by decide +kernel
theorem d_L_law_1360 : decode mt_L_law.2.1 1360 = .ok (.iaload, 1) := by decide +kernel
theorem d_L_law_1361 : decode mt_L_law.2.1 1361 = .ok (.invokevirtual 163, 3) := by decide +kernel
theorem d_L_law_1364 : decode mt_L_law.2.1 1364 = .ok (.if_icmp .eq 526, 3) := by decide +kernel
theorem d_L_law_1367 : decode mt_L_law.2.1 1367 = .ok (.iconst 0, 1) := by decide +kernel
theorem d_L_law_1368 : decode mt_L_law.2.1 1368 = .ok (.ireturn, 1) := by decide +kernel
theorem d_L_law_1369 : decode mt_L_law.2.1 1369 = .ok (.aload_n 1, 1) := by decide +kernel
theorem d_L_law_1370 : decode mt_L_law.2.1 1370 = .ok (.aload_n 0, 1) := by decide +kernel
theorem d_L_law_1371 : decode mt_L_law.2.1 1371 = .ok (.iload_n 3, 1) := by decide +kernel
theorem d_L_law_1372 : decode mt_L_law.2.1 1372 = .ok (.iconst 1, 1) := by decide +kernel
theorem d_L_law_1373 : decode mt_L_law.2.1 1373 = .ok (.iadd, 1) := by decide +kernel
theorem d_L_law_1374 : decode mt_L_law.2.1 1374 = .ok (.iaload, 1) := by decide +kernel
theorem d_L_law_1375 : decode mt_L_law.2.1 1375 = .ok (.aload_n 0, 1) := by decide +kernel
theorem d_L_law_1376 : decode mt_L_law.2.1 1376 = .ok (.iload_n 3, 1) := by decide +kernel
theorem d_L_law_1377 : decode mt_L_law.2.1 1377 = .ok (.iconst 2, 1) := by decide +kernel
theorem d_L_law_1378 : decode mt_L_law.2.1 1378 = .ok (.iadd, 1) := by decide +kernel
theorem d_L_law_1379 : decode mt_L_law.2.1 1379 = .ok (.iaload, 1) := by decide +kernel
theorem d_L_law_1380 : decode mt_L_law.2.1 1380 = .ok (.aload_n 0, 1) := by decide +kernel
theorem d_L_law_1381 : decode mt_L_law.2.1 1381 = .ok (.iload_n 3, 1) := by decide +kernel
theorem d_L_law_1382 : decode mt_L_law.2.1 1382 = .ok (.iconst 3, 1) := by decide +kernel
theorem d_L_law_1383 : decode mt_L_law.2.1 1383 = .ok (.iadd, 1) := by decide +kernel
theorem d_L_law_1384 : decode mt_L_law.2.1 1384 = .ok (.iaload, 1) := by decide +kernel
theorem d_L_law_1385 : decode mt_L_law.2.1 1385 = .ok (.invokevirtual 164, 3) := by decide +kernel
theorem d_L_law_1388 : decode mt_L_law.2.1 1388 = .ok (.aload_n 2, 1) := by decide +kernel
theorem d_L_law_1389 : decode mt_L_law.2.1 1389 = .ok (.aload_n 0, 1) := by decide +kernel
theorem d_L_law_1390 : decode mt_L_law.2.1 1390 = .ok (.iload_n 3, 1) := by decide +kernel
theorem d_L_law_1391 : decode mt_L_law.2.1 1391 = .ok (.iconst 1, 1) := by decide +kernel
theorem d_L_law_1392 : decode mt_L_law.2.1 1392 = .ok (.iadd, 1) := by decide +kernel
theorem d_L_law_1393 : decode mt_L_law.2.1 1393 = .ok (.iaload, 1) := by decide +kernel
theorem d_L_law_1394 : decode mt_L_law.2.1 1394 = .ok (.aload_n 0, 1) := by decide +kernel
theorem d_L_law_1395 : decode mt_L_law.2.1 1395 = .ok (.iload_n 3, 1) := by decide +kernel
theorem d_L_law_1396 : decode mt_L_law.2.1 1396 = .ok (.iconst 2, 1) := by decide +kernel
theorem d_L_law_1397 : decode mt_L_law.2.1 1397 = .ok (.iadd, 1) := by decide +kernel
theorem d_L_law_1398 : decode mt_L_law.2.1 1398 = .ok (.iaload, 1) := by decide +kernel
theorem d_L_law_1399 : decode mt_L_law.2.1 1399 = .ok (.aload_n 0, 1) := by decide +kernel
theorem d_L_law_1400 : decode mt_L_law.2.1 1400 = .ok (.iload_n 3, 1) := by decide +kernel
theorem d_L_law_1401 : decode mt_L_law.2.1 1401 = .ok (.iconst 3, 1) := by decide +kernel
theorem d_L_law_1402 : decode mt_L_law.2.1 1402 = .ok (.iadd, 1) := by decide +kernel
theorem d_L_law_1403 : decode mt_L_law.2.1 1403 = .ok (.iaload, 1) := by decide +kernel
theorem d_L_law_1404 : decode mt_L_law.2.1 1404 = .ok (.invokevirtual 167, 3) := by decide +kernel
theorem d_L_law_1407 : decode mt_L_law.2.1 1407 = .ok (.if_icmp .eq 483, 3) := by decide +kernel
theorem d_L_law_1410 : decode mt_L_law.2.1 1410 = .ok (.iconst 0, 1) := by decide +kernel
theorem d_L_law_1411 : decode mt_L_law.2.1 1411 = .ok (.ireturn, 1) := by decide +kernel
theorem d_L_law_1412 : decode mt_L_law.2.1 1412 = .ok (.aload_n 1, 1) := by decide +kernel
theorem d_L_law_1413 : decode mt_L_law.2.1 1413 = .ok (.aload_n 0, 1) := by decide +kernel
theorem d_L_law_1414 : decode mt_L_law.2.1 1414 = .ok (.iload_n 3, 1) := by decide +kernel
theorem d_L_law_1415 : decode mt_L_law.2.1 1415 = .ok (.iconst 1, 1) := by decide +kernel
theorem d_L_law_1416 : decode mt_L_law.2.1 1416 = .ok (.iadd, 1) := by decide +kernel
theorem d_L_law_1417 : decode mt_L_law.2.1 1417 = .ok (.iaload, 1) := by decide +kernel
theorem d_L_law_1418 : decode mt_L_law.2.1 1418 = .ok (.aload_n 0, 1) := by decide +kernel
theorem d_L_law_1419 : decode mt_L_law.2.1 1419 = .ok (.iload_n 3, 1) := by decide +kernel
theorem d_L_law_1420 : decode mt_L_law.2.1 1420 = .ok (.iconst 2, 1) := by decide +kernel
theorem d_L_law_1421 : decode mt_L_law.2.1 1421 = .ok (.iadd, 1) := by decide +kernel
theorem d_L_law_1422 : decode mt_L_law.2.1 1422 = .ok (.iaload, 1) := by decide +kernel
theorem d_L_law_1423 : decode mt_L_law.2.1 1423 = .ok (.invokevirtual 168, 3) := by decide +kernel
theorem d_L_law_1426 : decode mt_L_law.2.1 1426 = .ok (.aload_n 2, 1) := by decide +kernel
theorem d_L_law_1427 : decode mt_L_law.2.1 1427 = .ok (.aload_n 0, 1) := by decide +kernel
theorem d_L_law_1428 : decode mt_L_law.2.1 1428 = .ok (.iload_n 3, 1) := by decide +kernel
theorem d_L_law_1429 : decode mt_L_law.2.1 1429 = .ok (.iconst 1, 1) := by decide +kernel
theorem d_L_law_1430 : decode mt_L_law.2.1 1430 = .ok (.iadd, 1) := by decide +kernel
theorem d_L_law_1431 : decode mt_L_law.2.1 1431 = .ok (.iaload, 1) := by decide +kernel
theorem d_L_law_1432 : decode mt_L_law.2.1 1432 = .ok (.aload_n 0, 1) := by decide +kernel
theorem d_L_law_1433 : decode mt_L_law.2.1 1433 = .ok (.iload_n 3, 1) := by decide +kernel
theorem d_L_law_1434 : decode mt_L_law.2.1 1434 = .ok (.iconst 2, 1) := by decide +kernel
theorem d_L_law_1435 : decode mt_L_law.2.1 1435 = .ok (.iadd, 1) := by decide +kernel
theorem d_L_law_1436 : decode mt_L_law.2.1 1436 = .ok (.iaload, 1) := by decide +kernel
theorem d_L_law_1437 : decode mt_L_law.2.1 1437 = .ok (.invokevirtual 171, 3) := by decide +kernel
theorem d_L_law_1440 : decode mt_L_law.2.1 1440 = .ok (.if_icmp .eq 450, 3) := by decide +kernel
theorem d_L_law_1443 : decode mt_L_law.2.1 1443 = .ok (.iconst 0, 1) := by decide +kernel
theorem d_L_law_1444 : decode mt_L_law.2.1 1444 = .ok (.ireturn, 1) := by decide +kernel
theorem d_L_law_1445 : decode mt_L_law.2.1 1445 = .ok (.aload_n 1, 1) := by decide +kernel
theorem d_L_law_1446 : decode mt_L_law.2.1 1446 = .ok (.aload_n 0, 1) := by decide +kernel
theorem d_L_law_1447 : decode mt_L_law.2.1 1447 = .ok (.iload_n 3, 1) := by decide +kernel
theorem d_L_law_1448 : decode mt_L_law.2.1 1448 = .ok (.iconst 1, 1) := by decide +kernel
theorem d_L_law_1449 : decode mt_L_law.2.1 1449 = .ok (.iadd, 1) := by decide +kernel
theorem d_L_law_1450 : decode mt_L_law.2.1 1450 = .ok (.iaload, 1) := by decide +kernel
theorem d_L_law_1451 : decode mt_L_law.2.1 1451 = .ok (.aload_n 0, 1) := by decide +kernel
theorem d_L_law_1452 : decode mt_L_law.2.1 1452 = .ok (.iload_n 3, 1) := by decide +kernel
theorem d_L_law_1453 : decode mt_L_law.2.1 1453 = .ok (.iconst 2, 1) := by decide +kernel
theorem d_L_law_1454 : decode mt_L_law.2.1 1454 = .ok (.iadd, 1) := by decide +kernel
theorem d_L_law_1455 : decode mt_L_law.2.1 1455 = .ok (.iaload, 1) := by decide +kernel
theorem d_L_law_1456 : decode mt_L_law.2.1 1456 = .ok (.aload_n 0, 1) := by decide +kernel
theorem d_L_law_1457 : decode mt_L_law.2.1 1457 = .ok (.iload_n 3, 1) := by decide +kernel
theorem d_L_law_1458 : decode mt_L_law.2.1 1458 = .ok (.iconst 3, 1) := by decide +kernel
theorem d_L_law_1459 : decode mt_L_law.2.1 1459 = .ok (.iadd, 1) := by decide +kernel
theorem d_L_law_1460 : decode mt_L_law.2.1 1460 = .ok (.iaload, 1) := by decide +kernel
theorem d_L_law_1461 : decode mt_L_law.2.1 1461 = .ok (.invokevirtual 172, 3) := by decide +kernel
theorem d_L_law_1464 : decode mt_L_law.2.1 1464 = .ok (.aload_n 2, 1) := by decide +kernel
theorem d_L_law_1465 : decode mt_L_law.2.1 1465 = .ok (.aload_n 0, 1) := by decide +kernel
theorem d_L_law_1466 : decode mt_L_law.2.1 1466 = .ok (.iload_n 3, 1) := by decide +kernel
theorem d_L_law_1467 : decode mt_L_law.2.1 1467 = .ok (.iconst 1, 1) := by decide +kernel
theorem d_L_law_1468 : decode mt_L_law.2.1 1468 = .ok (.iadd, 1) := by decide +kernel
theorem d_L_law_1469 : decode mt_L_law.2.1 1469 = .ok (.iaload, 1) := by decide +kernel
theorem d_L_law_1470 : decode mt_L_law.2.1 1470 = .ok (.aload_n 0, 1) := by decide +kernel
theorem d_L_law_1471 : decode mt_L_law.2.1 1471 = .ok (.iload_n 3, 1) := by decide +kernel
theorem d_L_law_1472 : decode mt_L_law.2.1 1472 = .ok (.iconst 2, 1) := by decide +kernel
theorem d_L_law_1473 : decode mt_L_law.2.1 1473 = .ok (.iadd, 1) := by decide +kernel
theorem d_L_law_1474 : decode mt_L_law.2.1 1474 = .ok (.iaload, 1) := by decide +kernel
theorem d_L_law_1475 : decode mt_L_law.2.1 1475 = .ok (.aload_n 0, 1) := by decide +kernel
theorem d_L_law_1476 : decode mt_L_law.2.1 1476 = .ok (.iload_n 3, 1) := by decide +kernel
theorem d_L_law_1477 : decode mt_L_law.2.1 1477 = .ok (.iconst 3, 1) := by decide +kernel
theorem d_L_law_1478 : decode mt_L_law.2.1 1478 = .ok (.iadd, 1) := by decide +kernel
theorem d_L_law_1479 : decode mt_L_law.2.1 1479 = .ok (.iaload, 1) := by decide +kernel
theorem d_L_law_1480 : decode mt_L_law.2.1 1480 = .ok (.invokevirtual 175, 3) := by decide +kernel
theorem d_L_law_1483 : decode mt_L_law.2.1 1483 = .ok (.if_icmp .eq 407, 3) := by decide +kernel
theorem d_L_law_1486 : decode mt_L_law.2.1 1486 = .ok (.iconst 0, 1) := by decide +kernel
theorem d_L_law_1487 : decode mt_L_law.2.1 1487 = .ok (.ireturn, 1) := by decide +kernel
theorem d_L_law_1488 : decode mt_L_law.2.1 1488 = .ok (.aload_n 1, 1) := by decide +kernel
theorem d_L_law_1489 : decode mt_L_law.2.1 1489 = .ok (.aload_n 0, 1) := by decide +kernel
theorem d_L_law_1490 : decode mt_L_law.2.1 1490 = .ok (.iload_n 3, 1) := by decide +kernel
theorem d_L_law_1491 : decode mt_L_law.2.1 1491 = .ok (.iconst 1, 1) := by decide +kernel
theorem d_L_law_1492 : decode mt_L_law.2.1 1492 = .ok (.iadd, 1) := by decide +kernel
theorem d_L_law_1493 : decode mt_L_law.2.1 1493 = .ok (.iaload, 1) := by decide +kernel
theorem d_L_law_1494 : decode mt_L_law.2.1 1494 = .ok (.aload_n 0, 1) := by decide +kernel
theorem d_L_law_1495 : decode mt_L_law.2.1 1495 = .ok (.iload_n 3, 1) := by decide +kernel
theorem d_L_law_1496 : decode mt_L_law.2.1 1496 = .ok (.iconst 2, 1) := by decide +kernel
theorem d_L_law_1497 : decode mt_L_law.2.1 1497 = .ok (.iadd, 1) := by decide +kernel
theorem d_L_law_1498 : decode mt_L_law.2.1 1498 = .ok (.iaload, 1) := by decide +kernel
theorem d_L_law_1499 : decode mt_L_law.2.1 1499 = .ok (.invokevirtual 176, 3) := by decide +kernel
theorem d_L_law_1502 : decode mt_L_law.2.1 1502 = .ok (.aload_n 2, 1) := by decide +kernel
theorem d_L_law_1503 : decode mt_L_law.2.1 1503 = .ok (.aload_n 0, 1) := by decide +kernel
theorem d_L_law_1504 : decode mt_L_law.2.1 1504 = .ok (.iload_n 3, 1) := by decide +kernel
theorem d_L_law_1505 : decode mt_L_law.2.1 1505 = .ok (.iconst 1, 1) := by decide +kernel
theorem d_L_law_1506 : decode mt_L_law.2.1 1506 = .ok (.iadd, 1) := by decide +kernel
theorem d_L_law_1507 : decode mt_L_law.2.1 1507 = .ok (.iaload, 1) := by decide +kernel
theorem d_L_law_1508 : decode mt_L_law.2.1 1508 = .ok (.aload_n 0, 1) := by decide +kernel
theorem d_L_law_1509 : decode mt_L_law.2.1 1509 = .ok (.iload_n 3, 1) := by decide +kernel
theorem d_L_law_1510 : decode mt_L_law.2.1 1510 = .ok (.iconst 2, 1) := by decide +kernel
theorem d_L_law_1511 : decode mt_L_law.2.1 1511 = .ok (.iadd, 1) := by decide +kernel
theorem d_L_law_1512 : decode mt_L_law.2.1 1512 = .ok (.iaload, 1) := by decide +kernel
theorem d_L_law_1513 : decode mt_L_law.2.1 1513 = .ok (.invokevirtual 179, 3) := by decide +kernel
theorem d_L_law_1516 : decode mt_L_law.2.1 1516 = .ok (.if_icmp .eq 374, 3) := by decide +kernel
theorem d_L_law_1519 : decode mt_L_law.2.1 1519 = .ok (.iconst 0, 1) := by decide +kernel
theorem d_L_law_1520 : decode mt_L_law.2.1 1520 = .ok (.ireturn, 1) := by decide +kernel
theorem d_L_law_1521 : decode mt_L_law.2.1 1521 = .ok (.aload_n 1, 1) := by decide +kernel
theorem d_L_law_1522 : decode mt_L_law.2.1 1522 = .ok (.aload_n 0, 1) := by decide +kernel
theorem d_L_law_1523 : decode mt_L_law.2.1 1523 = .ok (.iload_n 3, 1) := by decide +kernel
theorem d_L_law_1524 : decode mt_L_law.2.1 1524 = .ok (.iconst 1, 1) := by decide +kernel
theorem d_L_law_1525 : decode mt_L_law.2.1 1525 = .ok (.iadd, 1) := by decide +kernel
theorem d_L_law_1526 : decode mt_L_law.2.1 1526 = .ok (.iaload, 1) := by decide +kernel
theorem d_L_law_1527 : decode mt_L_law.2.1 1527 = .ok (.aload_n 0, 1) := by decide +kernel
theorem d_L_law_1528 : decode mt_L_law.2.1 1528 = .ok (.iload_n 3, 1) := by decide +kernel
theorem d_L_law_1529 : decode mt_L_law.2.1 1529 = .ok (.iconst 2, 1) := by decide +kernel
theorem d_L_law_1530 : decode mt_L_law.2.1 1530 = .ok (.iadd, 1) := by decide +kernel
theorem d_L_law_1531 : decode mt_L_law.2.1 1531 = .ok (.iaload, 1) := by decide +kernel
theorem d_L_law_1532 : decode mt_L_law.2.1 1532 = .ok (.invokevirtual 180, 3) := by decide +kernel
theorem d_L_law_1535 : decode mt_L_law.2.1 1535 = .ok (.aload_n 2, 1) := by decide +kernel
theorem d_L_law_1536 : decode mt_L_law.2.1 1536 = .ok (.aload_n 0, 1) := by decide +kernel
theorem d_L_law_1537 : decode mt_L_law.2.1 1537 = .ok (.iload_n 3, 1) := by decide +kernel
theorem d_L_law_1538 : decode mt_L_law.2.1 1538 = .ok (.iconst 1, 1) := by decide +kernel
theorem d_L_law_1539 : decode mt_L_law.2.1 1539 = .ok (.iadd, 1) := by decide +kernel
theorem d_L_law_1540 : decode mt_L_law.2.1 1540 = .ok (.iaload, 1) := by decide +kernel
theorem d_L_law_1541 : decode mt_L_law.2.1 1541 = .ok (.aload_n 0, 1) := by decide +kernel
theorem d_L_law_1542 : decode mt_L_law.2.1 1542 = .ok (.iload_n 3, 1) := by decide +kernel
theorem d_L_law_1543 : decode mt_L_law.2.1 1543 = .ok (.iconst 2, 1) := by decide +kernel
theorem d_L_law_1544 : decode mt_L_law.2.1 1544 = .ok (.iadd, 1) := by decide +kernel
theorem d_L_law_1545 : decode mt_L_law.2.1 1545 = .ok (.iaload, 1) := by decide +kernel
theorem d_L_law_1546 : decode mt_L_law.2.1 1546 = .ok (.invokevirtual 183, 3) := by decide +kernel
theorem d_L_law_1549 : decode mt_L_law.2.1 1549 = .ok (.if_icmp .eq 341, 3) := by decide +kernel
theorem d_L_law_1552 : decode mt_L_law.2.1 1552 = .ok (.iconst 0, 1) := by decide +kernel
theorem d_L_law_1553 : decode mt_L_law.2.1 1553 = .ok (.ireturn, 1) := by decide +kernel
theorem d_L_law_1554 : decode mt_L_law.2.1 1554 = .ok (.aload_n 1, 1) := by decide +kernel
theorem d_L_law_1555 : decode mt_L_law.2.1 1555 = .ok (.aload_n 0, 1) := by decide +kernel
theorem d_L_law_1556 : decode mt_L_law.2.1 1556 = .ok (.iload_n 3, 1) := by decide +kernel
theorem d_L_law_1557 : decode mt_L_law.2.1 1557 = .ok (.iconst 1, 1) := by decide +kernel
theorem d_L_law_1558 : decode mt_L_law.2.1 1558 = .ok (.iadd, 1) := by decide +kernel
theorem d_L_law_1559 : decode mt_L_law.2.1 1559 = .ok (.iaload, 1) := by decide +kernel
theorem d_L_law_1560 : decode mt_L_law.2.1 1560 = .ok (.aload_n 0, 1) := by decide +kernel
theorem d_L_law_1561 : decode mt_L_law.2.1 1561 = .ok (.iload_n 3, 1) := by decide +kernel
theorem d_L_law_1562 : decode mt_L_law.2.1 1562 = .ok (.iconst 2, 1) := by decide +kernel
theorem d_L_law_1563 : decode mt_L_law.2.1 1563 = .ok (.iadd, 1) := by decide +kernel
theorem d_L_law_1564 : decode mt_L_law.2.1 1564 = .ok (.iaload, 1) := by decide +kernel
theorem d_L_law_1565 : decode mt_L_law.2.1 1565 = .ok (.invokevirtual 184, 3) := by decide +kernel
theorem d_L_law_1568 : decode mt_L_law.2.1 1568 = .ok (.aload_n 2, 1) := by decide +kernel
theorem d_L_law_1569 : decode mt_L_law.2.1 1569 = .ok (.aload_n 0, 1) := by decide +kernel
theorem d_L_law_1570 : decode mt_L_law.2.1 1570 = .ok (.iload_n 3, 1) := by decide +kernel
theorem d_L_law_1571 : decode mt_L_law.2.1 1571 = .ok (.iconst 1, 1) := by decide +kernel
theorem d_L_law_1572 : decode mt_L_law.2.1 1572 = .ok (.iadd, 1) := by decide +kernel
theorem d_L_law_1573 : decode mt_L_law.2.1 1573 = .ok (.iaload, 1) := by decide +kernel
theorem d_L_law_1574 : decode mt_L_law.2.1 1574 = .ok (.aload_n 0, 1) := by decide +kernel
theorem d_L_law_1575 : decode mt_L_law.2.1 1575 = .ok (.iload_n 3, 1) := by decide +kernel
theorem d_L_law_1576 : decode mt_L_law.2.1 1576 = .ok (.iconst 2, 1) := by decide +kernel
theorem d_L_law_1577 : decode mt_L_law.2.1 1577 = .ok (.iadd, 1) := by decide +kernel
theorem d_L_law_1578 : decode mt_L_law.2.1 1578 = .ok (.iaload, 1) := by decide +kernel
theorem d_L_law_1579 : decode mt_L_law.2.1 1579 = .ok (.invokevirtual 187, 3) := by decide +kernel
theorem d_L_law_1582 : decode mt_L_law.2.1 1582 = .ok (.if_icmp .eq 308, 3) := by decide +kernel
theorem d_L_law_1585 : decode mt_L_law.2.1 1585 = .ok (.iconst 0, 1) := by decide +kernel
theorem d_L_law_1586 : decode mt_L_law.2.1 1586 = .ok (.ireturn, 1) := by decide +kernel
theorem d_L_law_1587 : decode mt_L_law.2.1 1587 = .ok (.aload_n 1, 1) := by decide +kernel
theorem d_L_law_1588 : decode mt_L_law.2.1 1588 = .ok (.aload_n 0, 1) := by decide +kernel
theorem d_L_law_1589 : decode mt_L_law.2.1 1589 = .ok (.iload_n 3, 1) := by decide +kernel
theorem d_L_law_1590 : decode mt_L_law.2.1 1590 = .ok (.iconst 1, 1) := by decide +kernel
theorem d_L_law_1591 : decode mt_L_law.2.1 1591 = .ok (.iadd, 1) := by decide +kernel
theorem d_L_law_1592 : decode mt_L_law.2.1 1592 = .ok (.iaload, 1) := by decide +kernel
theorem d_L_law_1593 : decode mt_L_law.2.1 1593 = .ok (.aload_n 0, 1) := by decide +kernel
theorem d_L_law_1594 : decode mt_L_law.2.1 1594 = .ok (.iload_n 3, 1) := by decide +kernel
theorem d_L_law_1595 : decode mt_L_law.2.1 1595 = .ok (.iconst 2, 1) := by decide +kernel
theorem d_L_law_1596 : decode mt_L_law.2.1 1596 = .ok (.iadd, 1) := by decide +kernel
theorem d_L_law_1597 : decode mt_L_law.2.1 1597 = .ok (.iaload, 1) := by decide +kernel
theorem d_L_law_1598 : decode mt_L_law.2.1 1598 = .ok (.aload_n 0, 1) := by decide +kernel
theorem d_L_law_1599 : decode mt_L_law.2.1 1599 = .ok (.iload_n 3, 1) := by decide +kernel
theorem d_L_law_1600 : decode mt_L_law.2.1 1600 = .ok (.iconst 3, 1) := by decide +kernel
theorem d_L_law_1601 : decode mt_L_law.2.1 1601 = .ok (.iadd, 1) := by decide +kernel
theorem d_L_law_1602 : decode mt_L_law.2.1 1602 = .ok (.iaload, 1) := by decide +kernel
theorem d_L_law_1603 : decode mt_L_law.2.1 1603 = .ok (.invokevirtual 188, 3) := by decide +kernel
theorem d_L_law_1606 : decode mt_L_law.2.1 1606 = .ok (.aload_n 2, 1) := by decide +kernel
theorem d_L_law_1607 : decode mt_L_law.2.1 1607 = .ok (.aload_n 0, 1) := by decide +kernel
theorem d_L_law_1608 : decode mt_L_law.2.1 1608 = .ok (.iload_n 3, 1) := by decide +kernel
theorem d_L_law_1609 : decode mt_L_law.2.1 1609 = .ok (.iconst 1, 1) := by decide +kernel
theorem d_L_law_1610 : decode mt_L_law.2.1 1610 = .ok (.iadd, 1) := by decide +kernel
theorem d_L_law_1611 : decode mt_L_law.2.1 1611 = .ok (.iaload, 1) := by decide +kernel
theorem d_L_law_1612 : decode mt_L_law.2.1 1612 = .ok (.aload_n 0, 1) := by decide +kernel
theorem d_L_law_1613 : decode mt_L_law.2.1 1613 = .ok (.iload_n 3, 1) := by decide +kernel
theorem d_L_law_1614 : decode mt_L_law.2.1 1614 = .ok (.iconst 2, 1) := by decide +kernel
theorem d_L_law_1615 : decode mt_L_law.2.1 1615 = .ok (.iadd, 1) := by decide +kernel
theorem d_L_law_1616 : decode mt_L_law.2.1 1616 = .ok (.iaload, 1) := by decide +kernel
theorem d_L_law_1617 : decode mt_L_law.2.1 1617 = .ok (.aload_n 0, 1) := by decide +kernel
theorem d_L_law_1618 : decode mt_L_law.2.1 1618 = .ok (.iload_n 3, 1) := by decide +kernel
theorem d_L_law_1619 : decode mt_L_law.2.1 1619 = .ok (.iconst 3, 1) := by decide +kernel
theorem d_L_law_1620 : decode mt_L_law.2.1 1620 = .ok (.iadd, 1) := by decide +kernel
theorem d_L_law_1621 : decode mt_L_law.2.1 1621 = .ok (.iaload, 1) := by decide +kernel
theorem d_L_law_1622 : decode mt_L_law.2.1 1622 = .ok (.invokevirtual 191, 3) := by decide +kernel
theorem d_L_law_1625 : decode mt_L_law.2.1 1625 = .ok (.if_icmp .eq 265, 3) := by decide +kernel
theorem d_L_law_1628 : decode mt_L_law.2.1 1628 = .ok (.iconst 0, 1) := by decide +kernel
theorem d_L_law_1629 : decode mt_L_law.2.1 1629 = .ok (.ireturn, 1) := by decide +kernel
theorem d_L_law_1630 : decode mt_L_law.2.1 1630 = .ok (.aload_n 1, 1) := by decide +kernel
theorem d_L_law_1631 : decode mt_L_law.2.1 1631 = .ok (.invokevirtual 192, 3) := by decide +kernel
theorem d_L_law_1634 : decode mt_L_law.2.1 1634 = .ok (.aload_n 2, 1) := by decide +kernel
theorem d_L_law_1635 : decode mt_L_law.2.1 1635 = .ok (.invokevirtual 195, 3) := by decide +kernel
theorem d_L_law_1638 : decode mt_L_law.2.1 1638 = .ok (.if_icmp .eq 252, 3) := by decide +kernel
theorem d_L_law_1641 : decode mt_L_law.2.1 1641 = .ok (.iconst 0, 1) := by decide +kernel
theorem d_L_law_1642 : decode mt_L_law.2.1 1642 = .ok (.ireturn, 1) := by decide +kernel
theorem d_L_law_1643 : decode mt_L_law.2.1 1643 = .ok (.aload_n 1, 1) := by decide +kernel
theorem d_L_law_1644 : decode mt_L_law.2.1 1644 = .ok (.aload_n 0, 1) := by decide +kernel
theorem d_L_law_1645 : decode mt_L_law.2.1 1645 = .ok (.iload_n 3, 1) := by decide +kernel
theorem d_L_law_1646 : decode mt_L_law.2.1 1646 = .ok (.iconst 1, 1) := by decide +kernel
theorem d_L_law_1647 : decode mt_L_law.2.1 1647 = .ok (.iadd, 1) := by decide +kernel
theorem d_L_law_1648 : decode mt_L_law.2.1 1648 = .ok (.iaload, 1) := by decide +kernel
theorem d_L_law_1649 : decode mt_L_law.2.1 1649 = .ok (.aload_n 0, 1) := by decide +kernel
theorem d_L_law_1650 : decode mt_L_law.2.1 1650 = .ok (.iload_n 3, 1) := by decide +kernel
theorem d_L_law_1651 : decode mt_L_law.2.1 1651 = .ok (.iconst 2, 1) := by decide +kernel
theorem d_L_law_1652 : decode mt_L_law.2.1 1652 = .ok (.iadd, 1) := by decide +kernel
theorem d_L_law_1653 : decode mt_L_law.2.1 1653 = .ok (.iaload, 1) := by decide +kernel
theorem d_L_law_1654 : decode mt_L_law.2.1 1654 = .ok (.aload_n 0, 1) := by decide +kernel
theorem d_L_law_1655 : decode mt_L_law.2.1 1655 = .ok (.iload_n 3, 1) := by decide +kernel
theorem d_L_law_1656 : decode mt_L_law.2.1 1656 = .ok (.iconst 3, 1) := by decide +kernel
theorem d_L_law_1657 : decode mt_L_law.2.1 1657 = .ok (.iadd, 1) := by decide +kernel
theorem d_L_law_1658 : decode mt_L_law.2.1 1658 = .ok (.iaload, 1) := by decide +kernel
theorem d_L_law_1659 : decode mt_L_law.2.1 1659 = .ok (.invokevirtual 196, 3) := by decide +kernel
theorem d_L_law_1662 : decode mt_L_law.2.1 1662 = .ok (.aload_n 2, 1) := by decide +kernel
theorem d_L_law_1663 : decode mt_L_law.2.1 1663 = .ok (.aload_n 0, 1) := by decide +kernel
theorem d_L_law_1664 : decode mt_L_law.2.1 1664 = .ok (.iload_n 3, 1) := by decide +kernel
theorem d_L_law_1665 : decode mt_L_law.2.1 1665 = .ok (.iconst 1, 1) := by decide +kernel
theorem d_L_law_1666 : decode mt_L_law.2.1 1666 = .ok (.iadd, 1) := by decide +kernel
theorem d_L_law_1667 : decode mt_L_law.2.1 1667 = .ok (.iaload, 1) := by decide +kernel
theorem d_L_law_1668 : decode mt_L_law.2.1 1668 = .ok (.aload_n 0, 1) := by decide +kernel
theorem d_L_law_1669 : decode mt_L_law.2.1 1669 = .ok (.iload_n 3, 1) := by decide +kernel
theorem d_L_law_1670 : decode mt_L_law.2.1 1670 = .ok (.iconst 2, 1) := by decide +kernel
theorem d_L_law_1671 : decode mt_L_law.2.1 1671 = .ok (.iadd, 1) := by decide +kernel
theorem d_L_law_1672 : decode mt_L_law.2.1 1672 = .ok (.iaload, 1) := by decide +kernel
theorem d_L_law_1673 : decode mt_L_law.2.1 1673 = .ok (.aload_n 0, 1) := by decide +kernel
theorem d_L_law_1674 : decode mt_L_law.2.1 1674 = .ok (.iload_n 3, 1) := by decide +kernel
theorem d_L_law_1675 : decode mt_L_law.2.1 1675 = .ok (.iconst 3, 1) := by decide +kernel
theorem d_L_law_1676 : decode mt_L_law.2.1 1676 = .ok (.iadd, 1) := by decide +kernel
theorem d_L_law_1677 : decode mt_L_law.2.1 1677 = .ok (.iaload, 1) := by decide +kernel
theorem d_L_law_1678 : decode mt_L_law.2.1 1678 = .ok (.invokevirtual 199, 3) := by decide +kernel
theorem d_L_law_1681 : decode mt_L_law.2.1 1681 = .ok (.if_icmp .eq 209, 3) := by decide +kernel
theorem d_L_law_1684 : decode mt_L_law.2.1 1684 = .ok (.iconst 0, 1) := by decide +kernel
theorem d_L_law_1685 : decode mt_L_law.2.1 1685 = .ok (.ireturn, 1) := by decide +kernel
theorem d_L_law_1686 : decode mt_L_law.2.1 1686 = .ok (.aload_n 1, 1) := by decide +kernel
theorem d_L_law_1687 : decode mt_L_law.2.1 1687 = .ok (.aload_n 0, 1) := by decide +kernel
theorem d_L_law_1688 : decode mt_L_law.2.1 1688 = .ok (.iload_n 3, 1) := by decide +kernel
theorem d_L_law_1689 : decode mt_L_law.2.1 1689 = .ok (.iconst 1, 1) := by decide +kernel
theorem d_L_law_1690 : decode mt_L_law.2.1 1690 = .ok (.iadd, 1) := by decide +kernel
theorem d_L_law_1691 : decode mt_L_law.2.1 1691 = .ok (.iaload, 1) := by decide +kernel
theorem d_L_law_1692 : decode mt_L_law.2.1 1692 = .ok (.aload_n 0, 1) := by decide +kernel
theorem d_L_law_1693 : decode mt_L_law.2.1 1693 = .ok (.iload_n 3, 1) := by decide +kernel
theorem d_L_law_1694 : decode mt_L_law.2.1 1694 = .ok (.iconst 2, 1) := by decide +kernel
theorem d_L_law_1695 : decode mt_L_law.2.1 1695 = .ok (.iadd, 1) := by decide +kernel
theorem d_L_law_1696 : decode mt_L_law.2.1 1696 = .ok (.iaload, 1) := by decide +kernel
theorem d_L_law_1697 : decode mt_L_law.2.1 1697 = .ok (.aload_n 0, 1) := by decide +kernel
theorem d_L_law_1698 : decode mt_L_law.2.1 1698 = .ok (.iload_n 3, 1) := by decide +kernel
theorem d_L_law_1699 : decode mt_L_law.2.1 1699 = .ok (.iconst 3, 1) := by decide +kernel
theorem d_L_law_1700 : decode mt_L_law.2.1 1700 = .ok (.iadd, 1) := by decide +kernel
theorem d_L_law_1701 : decode mt_L_law.2.1 1701 = .ok (.iaload, 1) := by decide +kernel
theorem d_L_law_1702 : decode mt_L_law.2.1 1702 = .ok (.invokevirtual 200, 3) := by decide +kernel
theorem d_L_law_1705 : decode mt_L_law.2.1 1705 = .ok (.aload_n 2, 1) := by decide +kernel
theorem d_L_law_1706 : decode mt_L_law.2.1 1706 = .ok (.aload_n 0, 1) := by decide +kernel
theorem d_L_law_1707 : decode mt_L_law.2.1 1707 = .ok (.iload_n 3, 1) := by decide +kernel
theorem d_L_law_1708 : decode mt_L_law.2.1 1708 = .ok (.iconst 1, 1) := by decide +kernel
theorem d_L_law_1709 : decode mt_L_law.2.1 1709 = .ok (.iadd, 1) := by decide +kernel
theorem d_L_law_1710 : decode mt_L_law.2.1 1710 = .ok (.iaload, 1) := by decide +kernel
theorem d_L_law_1711 : decode mt_L_law.2.1 1711 = .ok (.aload_n 0, 1) := by decide +kernel
theorem d_L_law_1712 : decode mt_L_law.2.1 1712 = .ok (.iload_n 3, 1) := by decide +kernel
theorem d_L_law_1713 : decode mt_L_law.2.1 1713 = .ok (.iconst 2, 1) := by decide +kernel
theorem d_L_law_1714 : decode mt_L_law.2.1 1714 = .ok (.iadd, 1) := by decide +kernel
theorem d_L_law_1715 : decode mt_L_law.2.1 1715 = .ok (.iaload, 1) := by decide +kernel
theorem d_L_law_1716 : decode mt_L_law.2.1 1716 = .ok (.aload_n 0, 1) := by decide +kernel
theorem d_L_law_1717 : decode mt_L_law.2.1 1717 = .ok (.iload_n 3, 1) := by decide +kernel
theorem d_L_law_1718 : decode mt_L_law.2.1 1718 = .ok (.iconst 3, 1) := by decide +kernel
theorem d_L_law_1719 : decode mt_L_law.2.1 1719 = .ok (.iadd, 1) := by decide +kernel
theorem d_L_law_1720 : decode mt_L_law.2.1 1720 = .ok (.iaload, 1) := by decide +kernel
theorem d_L_law_1721 : decode mt_L_law.2.1 1721 = .ok (.invokevirtual 203, 3) := by decide +kernel
theorem d_L_law_1724 : decode mt_L_law.2.1 1724 = .ok (.if_icmp .eq 166, 3) := by decide +kernel
theorem d_L_law_1727 : decode mt_L_law.2.1 1727 = .ok (.iconst 0, 1) := by decide +kernel
theorem d_L_law_1728 : decode mt_L_law.2.1 1728 = .ok (.ireturn, 1) := by decide +kernel
theorem d_L_law_1729 : decode mt_L_law.2.1 1729 = .ok (.aload_n 1, 1) := by decide +kernel
theorem d_L_law_1730 : decode mt_L_law.2.1 1730 = .ok (.aload_n 0, 1) := by decide +kernel
theorem d_L_law_1731 : decode mt_L_law.2.1 1731 = .ok (.iload_n 3, 1) := by decide +kernel
theorem d_L_law_1732 : decode mt_L_law.2.1 1732 = .ok (.iconst 1, 1) := by decide +kernel
theorem d_L_law_1733 : decode mt_L_law.2.1 1733 = .ok (.iadd, 1) := by decide +kernel
theorem d_L_law_1734 : decode mt_L_law.2.1 1734 = .ok (.iaload, 1) := by decide +kernel
theorem d_L_law_1735 : decode mt_L_law.2.1 1735 = .ok (.aload_n 0, 1) := by decide +kernel
theorem d_L_law_1736 : decode mt_L_law.2.1 1736 = .ok (.iload_n 3, 1) := by decide +kernel
theorem d_L_law_1737 : decode mt_L_law.2.1 1737 = .ok (.iconst 2, 1) := by decide +kernel
theorem d_L_law_1738 : decode mt_L_law.2.1 1738 = .ok (.iadd, 1) := by decide +kernel
theorem d_L_law_1739 : decode mt_L_law.2.1 1739 = .ok (.iaload, 1) := by decide +kernel
theorem d_L_law_1740 : decode mt_L_law.2.1 1740 = .ok (.invokevirtual 204, 3) := by decide +kernel
theorem d_L_law_1743 : decode mt_L_law.2.1 1743 = .ok (.aload_n 2, 1) := by decide +kernel
theorem d_L_law_1744 : decode mt_L_law.2.1 1744 = .ok (.aload_n 0, 1) := by decide +kernel
theorem d_L_law_1745 : decode mt_L_law.2.1 1745 = .ok (.iload_n 3, 1) := by decide +kernel
theorem d_L_law_1746 : decode mt_L_law.2.1 1746 = .ok (.iconst 1, 1) := by decide +kernel
theorem d_L_law_1747 : decode mt_L_law.2.1 1747 = .ok (.iadd, 1) := by decide +kernel
theorem d_L_law_1748 : decode mt_L_law.2.1 1748 = .ok (.iaload, 1) := by decide +kernel
theorem d_L_law_1749 : decode mt_L_law.2.1 1749 = .ok (.aload_n 0, 1) := by decide +kernel
theorem d_L_law_1750 : decode mt_L_law.2.1 1750 = .ok (.iload_n 3, 1) := by decide +kernel
theorem d_L_law_1751 : decode mt_L_law.2.1 1751 = .ok (.iconst 2, 1) := by decide +kernel
theorem d_L_law_1752 : decode mt_L_law.2.1 1752 = .ok (.iadd, 1) := by decide +kernel
theorem d_L_law_1753 : decode mt_L_law.2.1 1753 = .ok (.iaload, 1) := by decide +kernel
theorem d_L_law_1754 : decode mt_L_law.2.1 1754 = .ok (.invokevirtual 208, 3) := by decide +kernel
theorem d_L_law_1757 : decode mt_L_law.2.1 1757 = .ok (.if_icmp .eq 133, 3) := by decide +kernel
theorem d_L_law_1760 : decode mt_L_law.2.1 1760 = .ok (.iconst 0, 1) := by decide +kernel
theorem d_L_law_1761 : decode mt_L_law.2.1 1761 = .ok (.ireturn, 1) := by decide +kernel
theorem d_L_law_1762 : decode mt_L_law.2.1 1762 = .ok (.aload_n 1, 1) := by decide +kernel
theorem d_L_law_1763 : decode mt_L_law.2.1 1763 = .ok (.aload_n 0, 1) := by decide +kernel
theorem d_L_law_1764 : decode mt_L_law.2.1 1764 = .ok (.iload_n 3, 1) := by decide +kernel
theorem d_L_law_1765 : decode mt_L_law.2.1 1765 = .ok (.iconst 1, 1) := by decide +kernel
theorem d_L_law_1766 : decode mt_L_law.2.1 1766 = .ok (.iadd, 1) := by decide +kernel
theorem d_L_law_1767 : decode mt_L_law.2.1 1767 = .ok (.iaload, 1) := by decide +kernel
theorem d_L_law_1768 : decode mt_L_law.2.1 1768 = .ok (.invokevirtual 209, 3) := by decide +kernel
theorem d_L_law_1771 : decode mt_L_law.2.1 1771 = .ok (.aload_n 2, 1) := by decide +kernel
theorem d_L_law_1772 : decode mt_L_law.2.1 1772 = .ok (.aload_n 0, 1) := by decide +kernel
theorem d_L_law_1773 : decode mt_L_law.2.1 1773 = .ok (.iload_n 3, 1) := by decide +kernel
theorem d_L_law_1774 : decode mt_L_law.2.1 1774 = .ok (.iconst 1, 1) := by decide +kernel
theorem d_L_law_1775 : decode mt_L_law.2.1 1775 = .ok (.iadd, 1) := by decide +kernel
theorem d_L_law_1776 : decode mt_L_law.2.1 1776 = .ok (.iaload, 1) := by decide +kernel
theorem d_L_law_1777 : decode mt_L_law.2.1 1777 = .ok (.invokevirtual 212, 3) := by decide +kernel
theorem d_L_law_1780 : decode mt_L_law.2.1 1780 = .ok (.if_icmp .eq 110, 3) := by decide +kernel
theorem d_L_law_1783 : decode mt_L_law.2.1 1783 = .ok (.iconst 0, 1) := by decide +kernel
theorem d_L_law_1784 : decode mt_L_law.2.1 1784 = .ok (.ireturn, 1) := by decide +kernel
theorem d_L_law_1785 : decode mt_L_law.2.1 1785 = .ok (.aload_n 1, 1) := by decide +kernel
theorem d_L_law_1786 : decode mt_L_law.2.1 1786 = .ok (.aload_n 0, 1) := by decide +kernel
theorem d_L_law_1787 : decode mt_L_law.2.1 1787 = .ok (.iload_n 3, 1) := by decide +kernel
theorem d_L_law_1788 : decode mt_L_law.2.1 1788 = .ok (.iconst 1, 1) := by decide +kernel
theorem d_L_law_1789 : decode mt_L_law.2.1 1789 = .ok (.iadd, 1) := by decide +kernel
theorem d_L_law_1790 : decode mt_L_law.2.1 1790 = .ok (.iaload, 1) := by decide +kernel
theorem d_L_law_1791 : decode mt_L_law.2.1 1791 = .ok (.invokevirtual 213, 3) := by decide +kernel
theorem d_L_law_1794 : decode mt_L_law.2.1 1794 = .ok (.aload_n 2, 1) := by decide +kernel
theorem d_L_law_1795 : decode mt_L_law.2.1 1795 = .ok (.aload_n 0, 1) := by decide +kernel
theorem d_L_law_1796 : decode mt_L_law.2.1 1796 = .ok (.iload_n 3, 1) := by decide +kernel
theorem d_L_law_1797 : decode mt_L_law.2.1 1797 = .ok (.iconst 1, 1) := by decide +kernel
theorem d_L_law_1798 : decode mt_L_law.2.1 1798 = .ok (.iadd, 1) := by decide +kernel
theorem d_L_law_1799 : decode mt_L_law.2.1 1799 = .ok (.iaload, 1) := by decide +kernel
theorem d_L_law_1800 : decode mt_L_law.2.1 1800 = .ok (.invokevirtual 216, 3) := by decide +kernel
theorem d_L_law_1803 : decode mt_L_law.2.1 1803 = .ok (.if_icmp .eq 87, 3) := by decide +kernel
theorem d_L_law_1806 : decode mt_L_law.2.1 1806 = .ok (.iconst 0, 1) := by decide +kernel
theorem d_L_law_1807 : decode mt_L_law.2.1 1807 = .ok (.ireturn, 1) := by decide +kernel
theorem d_L_law_1808 : decode mt_L_law.2.1 1808 = .ok (.aload_n 1, 1) := by decide +kernel
theorem d_L_law_1809 : decode mt_L_law.2.1 1809 = .ok (.aload_n 0, 1) := by decide +kernel
theorem d_L_law_1810 : decode mt_L_law.2.1 1810 = .ok (.iload_n 3, 1) := by decide +kernel
theorem d_L_law_1811 : decode mt_L_law.2.1 1811 = .ok (.iconst 1, 1) := by decide +kernel
theorem d_L_law_1812 : decode mt_L_law.2.1 1812 = .ok (.iadd, 1) := by decide +kernel
theorem d_L_law_1813 : decode mt_L_law.2.1 1813 = .ok (.iaload, 1) := by decide +kernel
theorem d_L_law_1814 : decode mt_L_law.2.1 1814 = .ok (.invokevirtual 217, 3) := by decide +kernel
theorem d_L_law_1817 : decode mt_L_law.2.1 1817 = .ok (.aload_n 2, 1) := by decide +kernel
theorem d_L_law_1818 : decode mt_L_law.2.1 1818 = .ok (.aload_n 0, 1) := by decide +kernel
theorem d_L_law_1819 : decode mt_L_law.2.1 1819 = .ok (.iload_n 3, 1) := by decide +kernel
theorem d_L_law_1820 : decode mt_L_law.2.1 1820 = .ok (.iconst 1, 1) := by decide +kernel
theorem d_L_law_1821 : decode mt_L_law.2.1 1821 = .ok (.iadd, 1) := by decide +kernel
theorem d_L_law_1822 : decode mt_L_law.2.1 1822 = .ok (.iaload, 1) := by decide +kernel
theorem d_L_law_1823 : decode mt_L_law.2.1 1823 = .ok (.invokevirtual 220, 3) := by decide +kernel
theorem d_L_law_1826 : decode mt_L_law.2.1 1826 = .ok (.if_icmp .eq 64, 3) := by decide +kernel
theorem d_L_law_1829 : decode mt_L_law.2.1 1829 = .ok (.iconst 0, 1) := by decide +kernel
theorem d_L_law_1830 : decode mt_L_law.2.1 1830 = .ok (.ireturn, 1) := by decide +kernel
theorem d_L_law_1831 : decode mt_L_law.2.1 1831 = .ok (.aload_n 1, 1) := by decide +kernel
theorem d_L_law_1832 : decode mt_L_law.2.1 1832 = .ok (.aload_n 0, 1) := by decide +kernel
theorem d_L_law_1833 : decode mt_L_law.2.1 1833 = .ok (.iload_n 3, 1) := by decide +kernel
theorem d_L_law_1834 : decode mt_L_law.2.1 1834 = .ok (.iconst 1, 1) := by decide +kernel
theorem d_L_law_1835 : decode mt_L_law.2.1 1835 = .ok (.iadd, 1) := by decide +kernel
theorem d_L_law_1836 : decode mt_L_law.2.1 1836 = .ok (.iaload, 1) := by decide +kernel
theorem d_L_law_1837 : decode mt_L_law.2.1 1837 = .ok (.aload_n 0, 1) := by decide +kernel
theorem d_L_law_1838 : decode mt_L_law.2.1 1838 = .ok (.iload_n 3, 1) := by decide +kernel
theorem d_L_law_1839 : decode mt_L_law.2.1 1839 = .ok (.iconst 2, 1) := by decide +kernel
theorem d_L_law_1840 : decode mt_L_law.2.1 1840 = .ok (.iadd, 1) := by decide +kernel
theorem d_L_law_1841 : decode mt_L_law.2.1 1841 = .ok (.iaload, 1) := by decide +kernel
theorem d_L_law_1842 : decode mt_L_law.2.1 1842 = .ok (.invokevirtual 221, 3) := by decide +kernel
theorem d_L_law_1845 : decode mt_L_law.2.1 1845 = .ok (.aload_n 2, 1) := by decide +kernel
theorem d_L_law_1846 : decode mt_L_law.2.1 1846 = .ok (.aload_n 0, 1) := by decide +kernel
theorem d_L_law_1847 : decode mt_L_law.2.1 1847 = .ok (.iload_n 3, 1) := by decide +kernel
theorem d_L_law_1848 : decode mt_L_law.2.1 1848 = .ok (.iconst 1, 1) := by decide +kernel
theorem d_L_law_1849 : decode mt_L_law.2.1 1849 = .ok (.iadd, 1) := by decide +kernel
theorem d_L_law_1850 : decode mt_L_law.2.1 1850 = .ok (.iaload, 1) := by decide +kernel
theorem d_L_law_1851 : decode mt_L_law.2.1 1851 = .ok (.aload_n 0, 1) := by decide +kernel
theorem d_L_law_1852 : decode mt_L_law.2.1 1852 = .ok (.iload_n 3, 1) := by decide +kernel
theorem d_L_law_1853 : decode mt_L_law.2.1 1853 = .ok (.iconst 2, 1) := by decide +kernel
theorem d_L_law_1854 : decode mt_L_law.2.1 1854 = .ok (.iadd, 1) := by decide +kernel
theorem d_L_law_1855 : decode mt_L_law.2.1 1855 = .ok (.iaload, 1) := by decide +kernel
theorem d_L_law_1856 : decode mt_L_law.2.1 1856 = .ok (.invokevirtual 224, 3) := by decide +kernel
theorem d_L_law_1859 : decode mt_L_law.2.1 1859 = .ok (.if_icmp .eq 31, 3) := by decide +kernel
theorem d_L_law_1862 : decode mt_L_law.2.1 1862 = .ok (.iconst 0, 1) := by decide +kernel
theorem d_L_law_1863 : decode mt_L_law.2.1 1863 = .ok (.ireturn, 1) := by decide +kernel
theorem d_L_law_1864 : decode mt_L_law.2.1 1864 = .ok (.aload_n 1, 1) := by decide +kernel
theorem d_L_law_1865 : decode mt_L_law.2.1 1865 = .ok (.invokevirtual 225, 3) := by decide +kernel
theorem d_L_law_1868 : decode mt_L_law.2.1 1868 = .ok (.aload_n 2, 1) := by decide +kernel
theorem d_L_law_1869 : decode mt_L_law.2.1 1869 = .ok (.invokevirtual 228, 3) := by decide +kernel
theorem d_L_law_1872 : decode mt_L_law.2.1 1872 = .ok (.if_icmp .eq 18, 3) := by decide +kernel
theorem d_L_law_1875 : decode mt_L_law.2.1 1875 = .ok (.iconst 0, 1) := by decide +kernel
theorem d_L_law_1876 : decode mt_L_law.2.1 1876 = .ok (.ireturn, 1) := by decide +kernel
theorem d_L_law_1877 : decode mt_L_law.2.1 1877 = .ok (.aload_n 1, 1) := by decide +kernel
theorem d_L_law_1878 : decode mt_L_law.2.1 1878 = .ok (.invokevirtual 229, 3) := by decide +kernel
theorem d_L_law_1881 : decode mt_L_law.2.1 1881 = .ok (.aload_n 2, 1) := by decide +kernel
theorem d_L_law_1882 : decode mt_L_law.2.1 1882 = .ok (.invokevirtual 232, 3) := by decide +kernel
theorem d_L_law_1885 : decode mt_L_law.2.1 1885 = .ok (.if_icmp .eq 5, 3) := by decide +kernel
theorem d_L_law_1888 : decode mt_L_law.2.1 1888 = .ok (.iconst 0, 1) := by decide +kernel
theorem d_L_law_1889 : decode mt_L_law.2.1 1889 = .ok (.ireturn, 1) := by decide +kernel
theorem d_L_law_1890 : decode mt_L_law.2.1 1890 = .ok (.iinc 3 6, 3) := by decide +kernel
theorem d_L_law_1893 : decode mt_L_law.2.1 1893 = .ok (.goto (-1875), 3) := by decide +kernel
theorem d_L_law_1896 : decode mt_L_law.2.1 1896 = .ok (.iconst 1, 1) := by decide +kernel
theorem d_L_law_1897 : decode mt_L_law.2.1 1897 = .ok (.ireturn, 1) := by decide +kernel
theorem Sh_sz : Sh.length - ([] : Shp).length ≤ 600000 ∧ tot Sh - tot [] ≤ 7302250 := by decide +kernel
