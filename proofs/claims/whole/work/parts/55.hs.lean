/-! ===== one round of each loop and recursion ===== -/
theorem hs_X8_make_h12  {n : Nat} : f_X8_make_h12 (n + 1) = f_X8_make_b12 (f_X8_make_h12 n) := rfl
theorem hs_X7_keyOf_h2  {n : Nat} : f_X7_keyOf_h2 (n + 1) = f_X7_keyOf_b2 (f_X7_keyOf_h2 n) := rfl
theorem hs_X7_stepWord_h5  {n : Nat} : f_X7_stepWord_h5 (n + 1) = f_X7_stepWord_b5 (f_X7_stepWord_h5 n) := rfl
theorem hs_X7_stepNumber_h5  {n : Nat} : f_X7_stepNumber_h5 (n + 1) = f_X7_stepNumber_b5 (f_X7_stepNumber_h5 n) := rfl
theorem hs_X7_step_h0  {n : Nat} : f_X7_step_h0 (n + 1) = f_X7_step_b0 (f_X7_step_h0 n) := rfl
theorem hs_X9_stoneNamed_h2  {n : Nat} : f_X9_stoneNamed_h2 (n + 1) = f_X9_stoneNamed_b2 (f_X9_stoneNamed_h2 n) := rfl
theorem hs_X9_crowNamed_h2  {n : Nat} : f_X9_crowNamed_h2 (n + 1) = f_X9_crowNamed_b2 (f_X9_crowNamed_h2 n) := rfl
theorem hs_X9_makeGap_h30  {n : Nat} : f_X9_makeGap_h30 (n + 1) = f_X9_makeGap_b30 (f_X9_makeGap_h30 n) := rfl
theorem hs_X10_reads_h16  {n : Nat} : f_X10_reads_h16 (n + 1) = f_X10_reads_b16 (f_X10_reads_h16 n) := rfl
theorem hs_X9_copyFrom_h100  {n : Nat} : f_X9_copyFrom_h100 (n + 1) = f_X9_copyFrom_b100 (f_X9_copyFrom_h100 n) := rfl
theorem hs_X9_copyFrom_h18  {n : Nat} : f_X9_copyFrom_h18 (n + 1) = f_X9_copyFrom_b18 (f_X9_copyFrom_h18 n) := rfl
theorem hs_X6_reads_h24  {n : Nat} : f_X6_reads_h24 (n + 1) = f_X6_reads_b24 (f_X6_reads_h24 n) := rfl
theorem hs_X5_copyFrom_h26  {n : Nat} : f_X5_copyFrom_h26 (n + 1) = f_X5_copyFrom_b26 (f_X5_copyFrom_h26 n) := rfl
theorem hs_X9_mossOfAll_h4  {n : Nat} : f_X9_mossOfAll_h4 (n + 1) = f_X9_mossOfAll_b4 (f_X9_mossOfAll_h4 n) := rfl
theorem hs_X9_crowsOn_h4  {n : Nat} : f_X9_crowsOn_h4 (n + 1) = f_X9_crowsOn_b4 (f_X9_crowsOn_h4 n) := rfl
theorem hs_X9_turningFrom_h6  {n : Nat} : f_X9_turningFrom_h6 (n + 1) = f_X9_turningFrom_b6 (f_X9_turningFrom_h6 n) := rfl
theorem hs_X9_weaken_h2  {n : Nat} : f_X9_weaken_h2 (n + 1) = f_X9_weaken_b2 (f_X9_weaken_h2 n) := rfl
theorem hs_X9_passYears_h26  {n : Nat} : f_X9_passYears_h26 (n + 1) = f_X9_passYears_b26 (f_X9_passYears_h26 n) := rfl
theorem hs_X9_bestPlace_h8  {n : Nat} : f_X9_bestPlace_h8 (n + 1) = f_X9_bestPlace_b8 (f_X9_bestPlace_h8 n) := rfl
theorem hs_X9_leastGuilt_h2  {n : Nat} : f_X9_leastGuilt_h2 (n + 1) = f_X9_leastGuilt_b2 (f_X9_leastGuilt_h2 n) := rfl
theorem hs_X9_yearsToFree_h2  {n : Nat} : f_X9_yearsToFree_h2 (n + 1) = f_X9_yearsToFree_b2 (f_X9_yearsToFree_h2 n) := rfl
theorem hs_X3_findQuestion_h16 {k5 : (Int → Int → Int → Int → Mem → Option (Mem))} {n : Nat} : f_X3_findQuestion_h16 k5 (n + 1) = f_X3_findQuestion_b16 k5 (f_X3_findQuestion_h16 k5 n) := rfl
theorem hs_X3_findQuestion_h5  {n : Nat} : f_X3_findQuestion_h5 (n + 1) = f_X3_findQuestion_b5 (f_X3_findQuestion_h5 n) := rfl
theorem hs_X0_canPart_h13 {k2 : (Int → Int → Int → Int → Mem → Option (Int))} {n : Nat} : f_X0_canPart_h13 k2 (n + 1) = f_X0_canPart_b13 k2 (f_X0_canPart_h13 k2 n) := rfl
theorem hs_X0_canPart_h2  {n : Nat} : f_X0_canPart_h2 (n + 1) = f_X0_canPart_b2 (f_X0_canPart_h2 n) := rfl
theorem hs_X0_canHold_h13  {n : Nat} : f_X0_canHold_h13 (n + 1) = f_X0_canHold_b13 (f_X0_canHold_h13 n) := rfl
theorem hs_X0_cutFrom  {n : Nat} : f_X0_cutFrom (n + 1) = f_X0_cutFrom_body (f_X0_cutFrom n) := rfl
theorem hs_X0_findWay_h21  {n : Nat} : f_X0_findWay_h21 (n + 1) = f_X0_findWay_b21 (f_X0_findWay_h21 n) := rfl
theorem hs_X9_windowsFor_h68  {n : Nat} : f_X9_windowsFor_h68 (n + 1) = f_X9_windowsFor_b68 (f_X9_windowsFor_h68 n) := rfl
theorem hs_X9_isRowOfStones_h2  {n : Nat} : f_X9_isRowOfStones_h2 (n + 1) = f_X9_isRowOfStones_b2 (f_X9_isRowOfStones_h2 n) := rfl
theorem hs_X9_longestRow_h6  {n : Nat} : f_X9_longestRow_h6 (n + 1) = f_X9_longestRow_b6 (f_X9_longestRow_h6 n) := rfl
theorem hs_X1_begin_h22  {n : Nat} : f_X1_begin_h22 (n + 1) = f_X1_begin_b22 (f_X1_begin_h22 n) := rfl
theorem hs_X1_gain  {n : Nat} : f_X1_gain (n + 1) = f_X1_gain_body (f_X1_gain n) := rfl
theorem hs_X1_firstMove_h16  {n : Nat} : f_X1_firstMove_h16 (n + 1) = f_X1_firstMove_b16 (f_X1_firstMove_h16 n) := rfl
theorem hs_X2_commonDivisor_h9  {n : Nat} : f_X2_commonDivisor_h9 (n + 1) = f_X2_commonDivisor_b9 (f_X2_commonDivisor_h9 n) := rfl
theorem hs_X2_power_h5  {n : Nat} : f_X2_power_h5 (n + 1) = f_X2_power_b5 (f_X2_power_h5 n) := rfl
theorem hs_X2_tellAtLeast_h9  {n : Nat} : f_X2_tellAtLeast_h9 (n + 1) = f_X2_tellAtLeast_b9 (f_X2_tellAtLeast_h9 n) := rfl
theorem hs_X4_run_h57  {n : Nat} : f_X4_run_h57 (n + 1) = f_X4_run_b57 (f_X4_run_h57 n) := rfl
theorem hs_X11_feedInt_h3  {n : Nat} : f_X11_feedInt_h3 (n + 1) = f_X11_feedInt_b3 (f_X11_feedInt_h3 n) := rfl
theorem hs_X11_copyMoss_h65  {n : Nat} : f_X11_copyMoss_h65 (n + 1) = f_X11_copyMoss_b65 (f_X11_copyMoss_h65 n) := rfl
theorem hs_X11_fitsWhy_h45  {n : Nat} : f_X11_fitsWhy_h45 (n + 1) = f_X11_fitsWhy_b45 (f_X11_fitsWhy_h45 n) := rfl
theorem hs_X11_cutsWhy_h43  {n : Nat} : f_X11_cutsWhy_h43 (n + 1) = f_X11_cutsWhy_b43 (f_X11_cutsWhy_h43 n) := rfl
theorem hs_X11_lot_h33  {n : Nat} : f_X11_lot_h33 (n + 1) = f_X11_lot_b33 (f_X11_lot_h33 n) := rfl
theorem hs_X11_mean_h20  {n : Nat} : f_X11_mean_h20 (n + 1) = f_X11_mean_b20 (f_X11_mean_h20 n) := rfl
theorem hs_X12_empties_h30  {n : Nat} : f_X12_empties_h30 (n + 1) = f_X12_empties_b30 (f_X12_empties_h30 n) := rfl
theorem hs_X12_empties_h2  {n : Nat} : f_X12_empties_h2 (n + 1) = f_X12_empties_b2 (f_X12_empties_h2 n) := rfl
theorem hs_X12_tray_h74  {n : Nat} : f_X12_tray_h74 (n + 1) = f_X12_tray_b74 (f_X12_tray_h74 n) := rfl
theorem hs_X12_pour_h158  {n : Nat} : f_X12_pour_h158 (n + 1) = f_X12_pour_b158 (f_X12_pour_h158 n) := rfl
theorem hs_X12_lay_h2  {n : Nat} : f_X12_lay_h2 (n + 1) = f_X12_lay_b2 (f_X12_lay_h2 n) := rfl
theorem hs_X12_advance_h109  {n : Nat} : f_X12_advance_h109 (n + 1) = f_X12_advance_b109 (f_X12_advance_h109 n) := rfl
theorem hs_X12_advance_h210  {n : Nat} : f_X12_advance_h210 (n + 1) = f_X12_advance_b210 (f_X12_advance_h210 n) := rfl
theorem hs_X12_advance_h8  {n : Nat} : f_X12_advance_h8 (n + 1) = f_X12_advance_b8 (f_X12_advance_h8 n) := rfl
theorem hs_X12_named_h2  {n : Nat} : f_X12_named_h2 (n + 1) = f_X12_named_b2 (f_X12_named_h2 n) := rfl
theorem hs_X12_copy_h41  {n : Nat} : f_X12_copy_h41 (n + 1) = f_X12_copy_b41 (f_X12_copy_h41 n) := rfl
theorem hs_X12_copy_h2  {n : Nat} : f_X12_copy_h2 (n + 1) = f_X12_copy_b2 (f_X12_copy_h2 n) := rfl
theorem hs_X12_wall_h33  {n : Nat} : f_X12_wall_h33 (n + 1) = f_X12_wall_b33 (f_X12_wall_h33 n) := rfl
theorem hs_X12_readStep_h142 {r_X12_readStep : (Int → Int → Mem → Option (Mem))} {n : Nat} : f_X12_readStep_h142 r_X12_readStep (n + 1) = f_X12_readStep_b142 r_X12_readStep (f_X12_readStep_h142 r_X12_readStep n) := rfl
theorem hs_X12_readStep  {n : Nat} : f_X12_readStep (n + 1) = f_X12_readStep_body (f_X12_readStep n) := rfl
theorem hs_X12_terms_h80  {n : Nat} : f_X12_terms_h80 (n + 1) = f_X12_terms_b80 (f_X12_terms_h80 n) := rfl
theorem hs_X12_terms_h28  {n : Nat} : f_X12_terms_h28 (n + 1) = f_X12_terms_b28 (f_X12_terms_h28 n) := rfl
theorem hs_X12_stones_h4  {n : Nat} : f_X12_stones_h4 (n + 1) = f_X12_stones_b4 (f_X12_stones_h4 n) := rfl
theorem hs_X12_sizeOf_h4  {n : Nat} : f_X12_sizeOf_h4 (n + 1) = f_X12_sizeOf_b4 (f_X12_sizeOf_h4 n) := rfl
theorem hs_X12_mossAll_h4  {n : Nat} : f_X12_mossAll_h4 (n + 1) = f_X12_mossAll_b4 (f_X12_mossAll_h4 n) := rfl
theorem hs_X12_crowsOn_h4  {n : Nat} : f_X12_crowsOn_h4 (n + 1) = f_X12_crowsOn_b4 (f_X12_crowsOn_h4 n) := rfl
theorem hs_X12_mercyOf_h30  {n : Nat} : f_X12_mercyOf_h30 (n + 1) = f_X12_mercyOf_b30 (f_X12_mercyOf_h30 n) := rfl
theorem hs_X12_copyMoss_h62  {n : Nat} : f_X12_copyMoss_h62 (n + 1) = f_X12_copyMoss_b62 (f_X12_copyMoss_h62 n) := rfl
theorem hs_X12_turnedFrom_h5  {n : Nat} : f_X12_turnedFrom_h5 (n + 1) = f_X12_turnedFrom_b5 (f_X12_turnedFrom_h5 n) := rfl
theorem hs_X12_falls_h12  {n : Nat} : f_X12_falls_h12 (n + 1) = f_X12_falls_b12 (f_X12_falls_h12 n) := rfl
theorem hs_X12_tries_h88  {n : Nat} : f_X12_tries_h88 (n + 1) = f_X12_tries_b88 (f_X12_tries_h88 n) := rfl
theorem hs_X12_ages_h2  {n : Nat} : f_X12_ages_h2 (n + 1) = f_X12_ages_b2 (f_X12_ages_h2 n) := rfl
theorem hs_X12_year_h51  {n : Nat} : f_X12_year_h51 (n + 1) = f_X12_year_b51 (f_X12_year_h51 n) := rfl
theorem hs_X12_placeBy_h36  {n : Nat} : f_X12_placeBy_h36 (n + 1) = f_X12_placeBy_b36 (f_X12_placeBy_h36 n) := rfl
theorem hs_X12_least_h27  {n : Nat} : f_X12_least_h27 (n + 1) = f_X12_least_b27 (f_X12_least_h27 n) := rfl
theorem hs_X12_freeIn_h106  {n : Nat} : f_X12_freeIn_h106 (n + 1) = f_X12_freeIn_b106 (f_X12_freeIn_h106 n) := rfl
theorem hs_X12_freeIn_h70  {n : Nat} : f_X12_freeIn_h70 (n + 1) = f_X12_freeIn_b70 (f_X12_freeIn_h70 n) := rfl
theorem hs_X12_freeIn_h37  {n : Nat} : f_X12_freeIn_h37 (n + 1) = f_X12_freeIn_b37 (f_X12_freeIn_h37 n) := rfl
theorem hs_X12_whyNoFits_h56  {n : Nat} : f_X12_whyNoFits_h56 (n + 1) = f_X12_whyNoFits_b56 (f_X12_whyNoFits_h56 n) := rfl
theorem hs_X12_laysFits_h23 {k7 : (Int → Int → Int → Int → Mem → Option (Mem))} {n : Nat} : f_X12_laysFits_h23 k7 (n + 1) = f_X12_laysFits_b23 k7 (f_X12_laysFits_h23 k7 n) := rfl
theorem hs_X12_laysFits_h7  {n : Nat} : f_X12_laysFits_h7 (n + 1) = f_X12_laysFits_b7 (f_X12_laysFits_h7 n) := rfl
theorem hs_X12_fitsBy_h52  {n : Nat} : f_X12_fitsBy_h52 (n + 1) = f_X12_fitsBy_b52 (f_X12_fitsBy_h52 n) := rfl
theorem hs_X12_ask_h102 {k56 : (Int → Int → Int → Int → Int → Mem → Option (Int × Mem))} {n : Nat} : f_X12_ask_h102 k56 (n + 1) = f_X12_ask_b102 k56 (f_X12_ask_h102 k56 n) := rfl
theorem hs_X12_ask_h56  {n : Nat} : f_X12_ask_h56 (n + 1) = f_X12_ask_b56 (f_X12_ask_h56 n) := rfl
theorem hs_X12_whyNoCuts_h56  {n : Nat} : f_X12_whyNoCuts_h56 (n + 1) = f_X12_whyNoCuts_b56 (f_X12_whyNoCuts_h56 n) := rfl
theorem hs_X12_holds_h3  {n : Nat} : f_X12_holds_h3 (n + 1) = f_X12_holds_b3 (f_X12_holds_h3 n) := rfl
theorem hs_X12_cutsFrom  {n : Nat} : f_X12_cutsFrom (n + 1) = f_X12_cutsFrom_body (f_X12_cutsFrom n) := rfl
theorem hs_X12_cutting_h81  {n : Nat} : f_X12_cutting_h81 (n + 1) = f_X12_cutting_b81 (f_X12_cutting_h81 n) := rfl
theorem hs_X12_cutting_h2  {n : Nat} : f_X12_cutting_h2 (n + 1) = f_X12_cutting_b2 (f_X12_cutting_h2 n) := rfl
theorem hs_X12_windowsFor_h29  {n : Nat} : f_X12_windowsFor_h29 (n + 1) = f_X12_windowsFor_b29 (f_X12_windowsFor_h29 n) := rfl
theorem hs_X12_stepsTo_h6  {n : Nat} : f_X12_stepsTo_h6 (n + 1) = f_X12_stepsTo_b6 (f_X12_stepsTo_h6 n) := rfl
theorem hs_X12_longest_h26 {k14 : (Int → Int → Int → Mem → Option (Int × Mem))} {n : Nat} : f_X12_longest_h26 k14 (n + 1) = f_X12_longest_b26 k14 (f_X12_longest_h26 k14 n) := rfl
theorem hs_X12_longest_h14  {n : Nat} : f_X12_longest_h14 (n + 1) = f_X12_longest_b14 (f_X12_longest_h14 n) := rfl
theorem hs_X12_scoreOf_h6  {n : Nat} : f_X12_scoreOf_h6 (n + 1) = f_X12_scoreOf_b6 (f_X12_scoreOf_h6 n) := rfl
theorem hs_X12_plays_h39 {r_X12_plays : (Int → Int → Int → Int → Int → Int → Int → Mem → Option (Int × Mem))} {n : Nat} : f_X12_plays_h39 r_X12_plays (n + 1) = f_X12_plays_b39 r_X12_plays (f_X12_plays_h39 r_X12_plays n) := rfl
theorem hs_X12_plays  {n : Nat} : f_X12_plays (n + 1) = f_X12_plays_body (f_X12_plays n) := rfl
theorem hs_X12_fraction_h9  {n : Nat} : f_X12_fraction_h9 (n + 1) = f_X12_fraction_b9 (f_X12_fraction_h9 n) := rfl
theorem hs_X12_lot_h63  {n : Nat} : f_X12_lot_h63 (n + 1) = f_X12_lot_b63 (f_X12_lot_h63 n) := rfl
theorem hs_X12_couples_h81 {k72 : (Int → Int → Int → Int → Mem → Option (Int × Mem))} {n : Nat} : f_X12_couples_h81 k72 (n + 1) = f_X12_couples_b81 k72 (f_X12_couples_h81 k72 n) := rfl
theorem hs_X12_couples_h172  {n : Nat} : f_X12_couples_h172 (n + 1) = f_X12_couples_b172 (f_X12_couples_h172 n) := rfl
theorem hs_X12_couples_h72  {n : Nat} : f_X12_couples_h72 (n + 1) = f_X12_couples_b72 (f_X12_couples_h72 n) := rfl
theorem hs_X12_couples_h33  {n : Nat} : f_X12_couples_h33 (n + 1) = f_X12_couples_b33 (f_X12_couples_h33 n) := rfl
theorem hs_X12_anyYears_h18  {n : Nat} : f_X12_anyYears_h18 (n + 1) = f_X12_anyYears_b18 (f_X12_anyYears_h18 n) := rfl
theorem hs_X12_doOne_h119 {r_X12_doAll : (Int → Int → Int → Mem → Option (Mem))} {n : Nat} : f_X12_doOne_h119 r_X12_doAll (n + 1) = f_X12_doOne_b119 r_X12_doAll (f_X12_doOne_h119 r_X12_doAll n) := rfl
theorem hs_X12_doAll_h2 {r_X12_doAll : (Int → Int → Int → Mem → Option (Mem))} {n : Nat} : f_X12_doAll_h2 r_X12_doAll (n + 1) = f_X12_doAll_b2 r_X12_doAll (f_X12_doAll_h2 r_X12_doAll n) := rfl
theorem hs_X12_doAll  {n : Nat} : f_X12_doAll (n + 1) = f_X12_doAll_body (f_X12_doAll n) := rfl
theorem hs_X12_mean_h119 {k91 : (Int → Int → Int → Int → Int → Mem → Option (Int × Mem))} {n : Nat} : f_X12_mean_h119 k91 (n + 1) = f_X12_mean_b119 k91 (f_X12_mean_h119 k91 n) := rfl
theorem hs_X12_mean_h91  {n : Nat} : f_X12_mean_h91 (n + 1) = f_X12_mean_b91 (f_X12_mean_h91 n) := rfl
theorem hs_X12_mean_h62  {n : Nat} : f_X12_mean_h62 (n + 1) = f_X12_mean_b62 (f_X12_mean_h62 n) := rfl
theorem hs_L_law {sc : Nat × (Nat → Int32)} {n : Nat} : f_L_law sc (n + 1) = f_L_law_b18 sc (f_L_law sc n) := rfl
/-- a loop that counts up to N -/
theorem up_to {Q : Nat → Nat → Prop} (N : Nat) (z : ∀ n, Q (n + 1) N) (s : ∀ n i, i < N → Q n (i + 1) → Q (n + 1) i) : ∀ i, i ≤ N → ∀ n, N - i < n → Q n i := by
  intro i hi
  obtain ⟨m, rfl⟩ : ∃ m, N = i + m := ⟨N - i, by omega⟩
  induction m generalizing i with
  | zero =>
    intro n hn
    obtain ⟨n, rfl⟩ : ∃ k, n = k + 1 := ⟨n - 1, by omega⟩
    exact z n
  | succ m ih =>
    intro n hn
    obtain ⟨n, rfl⟩ : ∃ k, n = k + 1 := ⟨n - 1, by omega⟩
    apply s n i (by omega)
    have := ih (i + 1) (by rw [show i + 1 + m = i + (m + 1) by omega]; exact z) (by rw [show i + 1 + m = i + (m + 1) by omega]; exact s) (by omega)
    exact this n (by omega)
theorem up_all {Q : Nat → Nat → Prop} (N : Nat) (z : ∀ n, Q (n + 1) N) (s : ∀ n i, i < N → Q n (i + 1) → Q (n + 1) i) (h : N < FU) : Q FU 0 := up_to N z s 0 (Nat.zero_le _) FU (by omega)
