/-- the cells of the court alone -/
def ShX : Shp := [(11, 20), (38, 4), (22, 900), (7, 12), (21, 23), (9, 16), (20, 10), (20, 10), (20, 10), (20, 10), (21, 10), (20, 4), (23, 4), (21, 4), (5, 8), (20, 60), (20, 60), (20, 60), (20, 60), (20, 60), (10, 3), (9, 16), (20, 10), (20, 10), (20, 10), (20, 10), (21, 10), (20, 4), (23, 4), (21, 4), (6, 6), (5, 8), (20, 60), (20, 60), (20, 60), (20, 60), (20, 60), (20, 3), (39, 3), (35, 3), (4, 10), (20, 60), (9, 16), (20, 10), (20, 10), (20, 10), (20, 10), (21, 10), (20, 4), (23, 4), (21, 4), (4, 10), (20, 60), (3, 4), (0, 10), (20, 6), (23, 6), (20, 6), (1, 5), (2, 2), (8, 3), (21, 60), (8, 3), (21, 60), (8, 3), (21, 60), (8, 3), (21, 60), (9, 16), (20, 10), (20, 10), (20, 10), (20, 10), (21, 10), (20, 4), (23, 4), (21, 4), (5, 8), (20, 60), (20, 60), (20, 60), (20, 60), (20, 60), (9, 16), (20, 10), (20, 10), (20, 10), (20, 10), (21, 10), (20, 4), (23, 4), (21, 4), (5, 8), (20, 60), (20, 60), (20, 60), (20, 60), (20, 60), (9, 16), (20, 10), (20, 10), (20, 10), (20, 10), (21, 10), (20, 4), (23, 4), (21, 4), (5, 8), (20, 60), (20, 60), (20, 60), (20, 60), (20, 60)]
def M11_1 (σ : Mem) : Mem := nwm (σ) 1 38
def M11_2 (σ : Mem) : Mem := upm (M11_1 σ) 0 0 1
def M11_3 (σ : Mem) : Mem := nwm (M11_2 σ) 2 22
def M11_4 (σ : Mem) : Mem := upm (M11_3 σ) 0 1 2
def M11_5 (σ : Mem) : Mem := nwm (M11_4 σ) 3 7
def M11_6 (σ : Mem) : Mem := I_X7_init (M11_5 σ) 4 3 2
def M11_7 (σ : Mem) : Mem := upm (M11_6 σ) 0 2 3
def M11_8 (σ : Mem) : Mem := nwm (M11_7 σ) 5 9
def M11_9 (σ : Mem) : Mem := I_X9_init (M11_8 σ) 6 5
def M11_10 (σ : Mem) : Mem := upm (M11_9 σ) 0 3 5
def M11_11 (σ : Mem) : Mem := nwm (M11_10 σ) 14 5
def M11_12 (σ : Mem) : Mem := I_X5_init (M11_11 σ) 15 14
def M11_13 (σ : Mem) : Mem := upm (M11_12 σ) 0 4 14
def M11_14 (σ : Mem) : Mem := nwm (M11_13 σ) 20 10
def M11_15 (σ : Mem) : Mem := I_X10_init (M11_14 σ) 21 20 3
def M11_16 (σ : Mem) : Mem := upm (M11_15 σ) 0 5 20
def M11_17 (σ : Mem) : Mem := nwm (M11_16 σ) 30 6
def M11_18 (σ : Mem) : Mem := I_X6_init (M11_17 σ) 31 30 3 5
def M11_19 (σ : Mem) : Mem := upm (M11_18 σ) 0 6 30
def M11_20 (σ : Mem) : Mem := nwm (M11_19 σ) 38 39
def M11_21 (σ : Mem) : Mem := upm (M11_20 σ) 0 7 38
def M11_22 (σ : Mem) : Mem := nwm (M11_21 σ) 39 35
def M11_23 (σ : Mem) : Mem := upm (M11_22 σ) 0 8 39
def M11_24 (σ : Mem) : Mem := nwm (M11_23 σ) 40 4
def M11_25 (σ : Mem) : Mem := I_X4_init (M11_24 σ) 41 40 14 5
def M11_26 (σ : Mem) : Mem := upm (M11_25 σ) 0 9 40
def M11_27 (σ : Mem) : Mem := nwm (M11_26 σ) 42 9
def M11_28 (σ : Mem) : Mem := I_X9_init (M11_27 σ) 43 42
def M11_29 (σ : Mem) : Mem := upm (M11_28 σ) 0 10 42
def M11_30 (σ : Mem) : Mem := nwm (M11_29 σ) 51 4
def M11_31 (σ : Mem) : Mem := I_X4_init (M11_30 σ) 52 51 14 42
def M11_32 (σ : Mem) : Mem := upm (M11_31 σ) 0 11 51
def M11_33 (σ : Mem) : Mem := nwm (M11_32 σ) 53 3
def M11_34 (σ : Mem) : Mem := I_X3_init (M11_33 σ) 54 53
def M11_35 (σ : Mem) : Mem := upm (M11_34 σ) 0 12 53
def M11_36 (σ : Mem) : Mem := nwm (M11_35 σ) 54 0
def M11_37 (σ : Mem) : Mem := I_X0_init (M11_36 σ) 55 54
def M11_38 (σ : Mem) : Mem := upm (M11_37 σ) 0 13 54
def M11_39 (σ : Mem) : Mem := nwm (M11_38 σ) 58 1
def M11_40 (σ : Mem) : Mem := I_X1_init (M11_39 σ) 59 58 5
def M11_41 (σ : Mem) : Mem := upm (M11_40 σ) 0 14 58
def M11_42 (σ : Mem) : Mem := nwm (M11_41 σ) 59 2
def M11_43 (σ : Mem) : Mem := I_X2_init (M11_42 σ) 60 59
def M11_44 (σ : Mem) : Mem := upm (M11_43 σ) 0 15 59
def M11_45 (σ : Mem) : Mem := nwm (M11_44 σ) 60 8
def M11_46 (σ : Mem) : Mem := I_X8_init (M11_45 σ) 61 60
def M11_47 (σ : Mem) : Mem := upm (M11_46 σ) 1 0 60
def M11_48 (σ : Mem) : Mem := nwm (M11_47 σ) 62 8
def M11_49 (σ : Mem) : Mem := I_X8_init (M11_48 σ) 63 62
def M11_50 (σ : Mem) : Mem := upm (M11_49 σ) 1 1 62
def M11_51 (σ : Mem) : Mem := nwm (M11_50 σ) 64 8
def M11_52 (σ : Mem) : Mem := I_X8_init (M11_51 σ) 65 64
def M11_53 (σ : Mem) : Mem := upm (M11_52 σ) 1 2 64
def M11_54 (σ : Mem) : Mem := nwm (M11_53 σ) 66 8
def M11_55 (σ : Mem) : Mem := I_X8_init (M11_54 σ) 67 66
def M11_56 (σ : Mem) : Mem := upm (M11_55 σ) 1 3 66
def M11_57 (σ : Mem) : Mem := nwm (M11_56 σ) 68 9
def M11_58 (σ : Mem) : Mem := I_X9_init (M11_57 σ) 69 68
def M11_59 (σ : Mem) : Mem := upm (M11_58 σ) 38 0 68
def M11_60 (σ : Mem) : Mem := nwm (M11_59 σ) 77 5
def M11_61 (σ : Mem) : Mem := I_X5_init (M11_60 σ) 78 77
def M11_62 (σ : Mem) : Mem := upm (M11_61 σ) 39 0 77
def M11_63 (σ : Mem) : Mem := nwm (M11_62 σ) 83 9
def M11_64 (σ : Mem) : Mem := I_X9_init (M11_63 σ) 84 83
def M11_65 (σ : Mem) : Mem := upm (M11_64 σ) 38 1 83
def M11_66 (σ : Mem) : Mem := nwm (M11_65 σ) 92 5
def M11_67 (σ : Mem) : Mem := I_X5_init (M11_66 σ) 93 92
def M11_68 (σ : Mem) : Mem := upm (M11_67 σ) 39 1 92
def M11_69 (σ : Mem) : Mem := nwm (M11_68 σ) 98 9
def M11_70 (σ : Mem) : Mem := I_X9_init (M11_69 σ) 99 98
def M11_71 (σ : Mem) : Mem := upm (M11_70 σ) 38 2 98
def M11_72 (σ : Mem) : Mem := nwm (M11_71 σ) 107 5
def M11_73 (σ : Mem) : Mem := I_X5_init (M11_72 σ) 108 107
def M11_74 (σ : Mem) : Mem := upm (M11_73 σ) 39 2 107
abbrev I_X11_init (σ : Mem) : Mem := M11_74 σ
set_option maxRecDepth 20000 in
theorem C_X11_init {σ : Mem} : Cn mt_X11_init 7 [(2, 0)] [(11, 20)] σ none ShX (I_X11_init σ) := by
  refine Cn_of mk_X11_init.1.2.2.1 (Nat.le_of_ble_eq_true rfl) (fun sc => ?_)
  show E sc _ _ _ _ _ 0 [(2, 0), (9, 0)] [] [(11, 20)] σ
  refine E_aload_n d_X11_init_0 rfl (by decide) ?_
  refine E_objinit d_X11_init_1 ow_X11 ⟨by decide, by decide, Nat.le_of_ble_eq_true rfl⟩ ?_
  refine E_aload_n d_X11_init_4 rfl (by decide) ?_
  refine E_iconst d_X11_init_5 (c32 rfl) ?_
  refine E_newrefD (n := 1) (N := 4) (sh' := [(11, 20), (38, 4)]) (σ' := M11_1 σ) d_X11_init_6 na_X11_9 (Or.inr (Or.inl ⟨rfl, rfl, rfl⟩)) ⟨rfl, by decide⟩ rfl rfl rfl ⟨Nat.le_of_ble_eq_true rfl, Nat.le_of_ble_eq_true rfl⟩ ?_
  refine E_putD (σ' := M11_2 σ) d_X11_init_9 okX11 fc_X11_11 ⟨by decide, rfl⟩ (Or.inr (Or.inr (Or.inr (Or.inr ⟨⟨_, rfl⟩, rfl⟩)))) (Or.inr ⟨rfl, rfl, rfl, fc_X11_11_w⟩) rfl rfl ?_
  refine E_aload_n d_X11_init_12 rfl (by decide) ?_
  refine E_sipush d_X11_init_13 (c16 rfl) ?_
  refine E_newarrD (n := 2) (N := 900) (sh' := [(11, 20), (38, 4), (22, 900)]) (σ' := M11_3 σ) d_X11_init_16 rfl aw_byte (Or.inr (Or.inr (Or.inl ⟨rfl, rfl, rfl⟩))) ⟨rfl, by decide⟩ rfl rfl rfl ⟨Nat.le_of_ble_eq_true rfl, Nat.le_of_ble_eq_true rfl⟩ ?_
  refine E_putD (σ' := M11_4 σ) d_X11_init_18 okX11 fc_X11_15 ⟨by decide, rfl⟩ (Or.inr (Or.inr (Or.inr (Or.inr ⟨⟨_, rfl⟩, rfl⟩)))) (Or.inr ⟨rfl, rfl, rfl, fc_X11_15_w⟩) rfl rfl ?_
  refine E_aload_n d_X11_init_21 rfl (by decide) ?_
  refine E_newD (n := 3) (sh' := [(11, 20), (38, 4), (22, 900), (7, 12)]) (σ' := M11_5 σ) d_X11_init_22 okX7 okD7 nw_X11_19 rfl rfl rfl ⟨Nat.le_of_ble_eq_true rfl, Nat.le_of_ble_eq_true rfl⟩ ?_
  refine E_dupT d_X11_init_25 (by decide) ?_
  refine E_aload_n d_X11_init_26 rfl (by decide) ?_
  refine E_getD (x := 2) d_X11_init_27 okX11 fc_X11_15 ⟨by decide, rfl⟩ rfl rfl ?_
  refine E_iI (as := [(2, 2)]) (st := [(2, 3), (2, 0)]) (a := 3) (sh' := [(11, 20), (38, 4), (22, 900), (7, 12), (21, 23)]) (σ' := M11_6 σ) d_X11_init_30 mk_X7_init nl_X11_21 (by decide) ⟨rfl, rfl, Nat.le_of_ble_eq_true rfl⟩ (by decide) (C_X7_init rfl rfl) ⟨Nat.le_of_ble_eq_true rfl, Nat.le_of_ble_eq_true rfl, Nat.le_of_ble_eq_true rfl, Nat.le_of_ble_eq_true rfl⟩ ?_
  refine E_putD (σ' := M11_7 σ) d_X11_init_33 okX11 fc_X11_24 ⟨by decide, rfl⟩ (Or.inr (Or.inr (Or.inr (Or.inl ⟨⟨_, rfl⟩, rfl⟩)))) (Or.inr ⟨rfl, rfl, rfl, fc_X11_24_w⟩) rfl rfl ?_
  refine E_aload_n d_X11_init_36 rfl (by decide) ?_
  refine E_newD (n := 5) (sh' := [(11, 20), (38, 4), (22, 900), (7, 12), (21, 23), (9, 16)]) (σ' := M11_8 σ) d_X11_init_37 okX9 okD9 nw_X11_28 rfl rfl rfl ⟨Nat.le_of_ble_eq_true rfl, Nat.le_of_ble_eq_true rfl⟩ ?_
  refine E_dupT d_X11_init_40 (by decide) ?_
  refine E_iI (as := []) (st := [(2, 5), (2, 0)]) (a := 5) (sh' := [(11, 20), (38, 4), (22, 900), (7, 12), (21, 23), (9, 16), (20, 10), (20, 10), (20, 10), (20, 10), (21, 10), (20, 4), (23, 4), (21, 4)]) (σ' := M11_9 σ) d_X11_init_41 mk_X9_init nl_X11_30 (by decide) ⟨rfl, rfl, Nat.le_of_ble_eq_true rfl⟩ (by decide) (C_X9_init rfl rfl) ⟨Nat.le_of_ble_eq_true rfl, Nat.le_of_ble_eq_true rfl, Nat.le_of_ble_eq_true rfl, Nat.le_of_ble_eq_true rfl⟩ ?_
  refine E_putD (σ' := M11_10 σ) d_X11_init_44 okX11 fc_X11_31 ⟨by decide, rfl⟩ (Or.inr (Or.inr (Or.inr (Or.inl ⟨⟨_, rfl⟩, rfl⟩)))) (Or.inr ⟨rfl, rfl, rfl, fc_X11_31_w⟩) rfl rfl ?_
  refine E_aload_n d_X11_init_47 rfl (by decide) ?_
  refine E_newD (n := 14) (sh' := [(11, 20), (38, 4), (22, 900), (7, 12), (21, 23), (9, 16), (20, 10), (20, 10), (20, 10), (20, 10), (21, 10), (20, 4), (23, 4), (21, 4), (5, 8)]) (σ' := M11_11 σ) d_X11_init_48 okX5 okD5 nw_X11_35 rfl rfl rfl ⟨Nat.le_of_ble_eq_true rfl, Nat.le_of_ble_eq_true rfl⟩ ?_
  refine E_dupT d_X11_init_51 (by decide) ?_
  refine E_iI (as := []) (st := [(2, 14), (2, 0)]) (a := 14) (sh' := [(11, 20), (38, 4), (22, 900), (7, 12), (21, 23), (9, 16), (20, 10), (20, 10), (20, 10), (20, 10), (21, 10), (20, 4), (23, 4), (21, 4), (5, 8), (20, 60), (20, 60), (20, 60), (20, 60), (20, 60)]) (σ' := M11_12 σ) d_X11_init_52 mk_X5_init nl_X11_37 (by decide) ⟨rfl, rfl, Nat.le_of_ble_eq_true rfl⟩ (by decide) (C_X5_init rfl rfl) ⟨Nat.le_of_ble_eq_true rfl, Nat.le_of_ble_eq_true rfl, Nat.le_of_ble_eq_true rfl, Nat.le_of_ble_eq_true rfl⟩ ?_
  refine E_putD (σ' := M11_13 σ) d_X11_init_55 okX11 fc_X11_38 ⟨by decide, rfl⟩ (Or.inr (Or.inr (Or.inr (Or.inl ⟨⟨_, rfl⟩, rfl⟩)))) (Or.inr ⟨rfl, rfl, rfl, fc_X11_38_w⟩) rfl rfl ?_
  refine E_aload_n d_X11_init_58 rfl (by decide) ?_
  refine E_newD (n := 20) (sh' := [(11, 20), (38, 4), (22, 900), (7, 12), (21, 23), (9, 16), (20, 10), (20, 10), (20, 10), (20, 10), (21, 10), (20, 4), (23, 4), (21, 4), (5, 8), (20, 60), (20, 60), (20, 60), (20, 60), (20, 60), (10, 3)]) (σ' := M11_14 σ) d_X11_init_59 okX10 okD10 nw_X11_42 rfl rfl rfl ⟨Nat.le_of_ble_eq_true rfl, Nat.le_of_ble_eq_true rfl⟩ ?_
  refine E_dupT d_X11_init_62 (by decide) ?_
  refine E_aload_n d_X11_init_63 rfl (by decide) ?_
  refine E_getD (x := 3) d_X11_init_64 okX11 fc_X11_24 ⟨by decide, rfl⟩ rfl rfl ?_
  refine E_iI (as := [(2, 3)]) (st := [(2, 20), (2, 0)]) (a := 20) (sh' := [(11, 20), (38, 4), (22, 900), (7, 12), (21, 23), (9, 16), (20, 10), (20, 10), (20, 10), (20, 10), (21, 10), (20, 4), (23, 4), (21, 4), (5, 8), (20, 60), (20, 60), (20, 60), (20, 60), (20, 60), (10, 3), (9, 16), (20, 10), (20, 10), (20, 10), (20, 10), (21, 10), (20, 4), (23, 4), (21, 4)]) (σ' := M11_15 σ) d_X11_init_67 mk_X10_init nl_X11_44 (by decide) ⟨rfl, rfl, Nat.le_of_ble_eq_true rfl⟩ (by decide) (C_X10_init rfl rfl) ⟨Nat.le_of_ble_eq_true rfl, Nat.le_of_ble_eq_true rfl, Nat.le_of_ble_eq_true rfl, Nat.le_of_ble_eq_true rfl⟩ ?_
  refine E_putD (σ' := M11_16 σ) d_X11_init_70 okX11 fc_X11_47 ⟨by decide, rfl⟩ (Or.inr (Or.inr (Or.inr (Or.inl ⟨⟨_, rfl⟩, rfl⟩)))) (Or.inr ⟨rfl, rfl, rfl, fc_X11_47_w⟩) rfl rfl ?_
  refine E_aload_n d_X11_init_73 rfl (by decide) ?_
  refine E_newD (n := 30) (sh' := [(11, 20), (38, 4), (22, 900), (7, 12), (21, 23), (9, 16), (20, 10), (20, 10), (20, 10), (20, 10), (21, 10), (20, 4), (23, 4), (21, 4), (5, 8), (20, 60), (20, 60), (20, 60), (20, 60), (20, 60), (10, 3), (9, 16), (20, 10), (20, 10), (20, 10), (20, 10), (21, 10), (20, 4), (23, 4), (21, 4), (6, 6)]) (σ' := M11_17 σ) d_X11_init_74 okX6 okD6 nw_X11_51 rfl rfl rfl ⟨Nat.le_of_ble_eq_true rfl, Nat.le_of_ble_eq_true rfl⟩ ?_
  refine E_dupT d_X11_init_77 (by decide) ?_
  refine E_aload_n d_X11_init_78 rfl (by decide) ?_
  refine E_getD (x := 3) d_X11_init_79 okX11 fc_X11_24 ⟨by decide, rfl⟩ rfl rfl ?_
  refine E_aload_n d_X11_init_82 rfl (by decide) ?_
  refine E_getD (x := 5) d_X11_init_83 okX11 fc_X11_31 ⟨by decide, rfl⟩ rfl rfl ?_
  refine E_iI (as := [(2, 3), (2, 5)]) (st := [(2, 30), (2, 0)]) (a := 30) (sh' := [(11, 20), (38, 4), (22, 900), (7, 12), (21, 23), (9, 16), (20, 10), (20, 10), (20, 10), (20, 10), (21, 10), (20, 4), (23, 4), (21, 4), (5, 8), (20, 60), (20, 60), (20, 60), (20, 60), (20, 60), (10, 3), (9, 16), (20, 10), (20, 10), (20, 10), (20, 10), (21, 10), (20, 4), (23, 4), (21, 4), (6, 6), (5, 8), (20, 60), (20, 60), (20, 60), (20, 60), (20, 60), (20, 3)]) (σ' := M11_18 σ) d_X11_init_86 mk_X6_init nl_X11_53 (by decide) ⟨rfl, rfl, Nat.le_of_ble_eq_true rfl⟩ (by decide) (C_X6_init rfl rfl) ⟨Nat.le_of_ble_eq_true rfl, Nat.le_of_ble_eq_true rfl, Nat.le_of_ble_eq_true rfl, Nat.le_of_ble_eq_true rfl⟩ ?_
  refine E_putD (σ' := M11_19 σ) d_X11_init_89 okX11 fc_X11_56 ⟨by decide, rfl⟩ (Or.inr (Or.inr (Or.inr (Or.inl ⟨⟨_, rfl⟩, rfl⟩)))) (Or.inr ⟨rfl, rfl, rfl, fc_X11_56_w⟩) rfl rfl ?_
  refine E_aload_n d_X11_init_92 rfl (by decide) ?_
  refine E_iconst d_X11_init_93 (c32 rfl) ?_
  refine E_newrefD (n := 38) (N := 3) (sh' := [(11, 20), (38, 4), (22, 900), (7, 12), (21, 23), (9, 16), (20, 10), (20, 10), (20, 10), (20, 10), (21, 10), (20, 4), (23, 4), (21, 4), (5, 8), (20, 60), (20, 60), (20, 60), (20, 60), (20, 60), (10, 3), (9, 16), (20, 10), (20, 10), (20, 10), (20, 10), (21, 10), (20, 4), (23, 4), (21, 4), (6, 6), (5, 8), (20, 60), (20, 60), (20, 60), (20, 60), (20, 60), (20, 3), (39, 3)]) (σ' := M11_20 σ) d_X11_init_94 na_X11_28 (Or.inr (Or.inr ⟨rfl, rfl, rfl⟩)) ⟨rfl, by decide⟩ rfl rfl rfl ⟨Nat.le_of_ble_eq_true rfl, Nat.le_of_ble_eq_true rfl⟩ ?_
  refine E_putD (σ' := M11_21 σ) d_X11_init_97 okX11 fc_X11_60 ⟨by decide, rfl⟩ (Or.inr (Or.inr (Or.inr (Or.inr ⟨⟨_, rfl⟩, rfl⟩)))) (Or.inr ⟨rfl, rfl, rfl, fc_X11_60_w⟩) rfl rfl ?_
  refine E_aload_n d_X11_init_100 rfl (by decide) ?_
  refine E_iconst d_X11_init_101 (c32 rfl) ?_
  refine E_newrefD (n := 39) (N := 3) (sh' := [(11, 20), (38, 4), (22, 900), (7, 12), (21, 23), (9, 16), (20, 10), (20, 10), (20, 10), (20, 10), (21, 10), (20, 4), (23, 4), (21, 4), (5, 8), (20, 60), (20, 60), (20, 60), (20, 60), (20, 60), (10, 3), (9, 16), (20, 10), (20, 10), (20, 10), (20, 10), (21, 10), (20, 4), (23, 4), (21, 4), (6, 6), (5, 8), (20, 60), (20, 60), (20, 60), (20, 60), (20, 60), (20, 3), (39, 3), (35, 3)]) (σ' := M11_22 σ) d_X11_init_102 na_X11_35 (Or.inl ⟨rfl, rfl, rfl⟩) ⟨rfl, by decide⟩ rfl rfl rfl ⟨Nat.le_of_ble_eq_true rfl, Nat.le_of_ble_eq_true rfl⟩ ?_
  refine E_putD (σ' := M11_23 σ) d_X11_init_105 okX11 fc_X11_64 ⟨by decide, rfl⟩ (Or.inr (Or.inr (Or.inr (Or.inr ⟨⟨_, rfl⟩, rfl⟩)))) (Or.inr ⟨rfl, rfl, rfl, fc_X11_64_w⟩) rfl rfl ?_
  refine E_aload_n d_X11_init_108 rfl (by decide) ?_
  refine E_newD (n := 40) (sh' := [(11, 20), (38, 4), (22, 900), (7, 12), (21, 23), (9, 16), (20, 10), (20, 10), (20, 10), (20, 10), (21, 10), (20, 4), (23, 4), (21, 4), (5, 8), (20, 60), (20, 60), (20, 60), (20, 60), (20, 60), (10, 3), (9, 16), (20, 10), (20, 10), (20, 10), (20, 10), (21, 10), (20, 4), (23, 4), (21, 4), (6, 6), (5, 8), (20, 60), (20, 60), (20, 60), (20, 60), (20, 60), (20, 3), (39, 3), (35, 3), (4, 10)]) (σ' := M11_24 σ) d_X11_init_109 okX4 okD4 nw_X11_68 rfl rfl rfl ⟨Nat.le_of_ble_eq_true rfl, Nat.le_of_ble_eq_true rfl⟩ ?_
  refine E_dupT d_X11_init_112 (by decide) ?_
  refine E_aload_n d_X11_init_113 rfl (by decide) ?_
  refine E_getD (x := 14) d_X11_init_114 okX11 fc_X11_38 ⟨by decide, rfl⟩ rfl rfl ?_
  refine E_aload_n d_X11_init_117 rfl (by decide) ?_
  refine E_getD (x := 5) d_X11_init_118 okX11 fc_X11_31 ⟨by decide, rfl⟩ rfl rfl ?_
  refine E_iI (as := [(2, 14), (2, 5)]) (st := [(2, 40), (2, 0)]) (a := 40) (sh' := [(11, 20), (38, 4), (22, 900), (7, 12), (21, 23), (9, 16), (20, 10), (20, 10), (20, 10), (20, 10), (21, 10), (20, 4), (23, 4), (21, 4), (5, 8), (20, 60), (20, 60), (20, 60), (20, 60), (20, 60), (10, 3), (9, 16), (20, 10), (20, 10), (20, 10), (20, 10), (21, 10), (20, 4), (23, 4), (21, 4), (6, 6), (5, 8), (20, 60), (20, 60), (20, 60), (20, 60), (20, 60), (20, 3), (39, 3), (35, 3), (4, 10), (20, 60)]) (σ' := M11_25 σ) d_X11_init_121 mk_X4_init nl_X11_70 (by decide) ⟨rfl, rfl, Nat.le_of_ble_eq_true rfl⟩ (by decide) (C_X4_init rfl rfl) ⟨Nat.le_of_ble_eq_true rfl, Nat.le_of_ble_eq_true rfl, Nat.le_of_ble_eq_true rfl, Nat.le_of_ble_eq_true rfl⟩ ?_
  refine E_putD (σ' := M11_26 σ) d_X11_init_124 okX11 fc_X11_73 ⟨by decide, rfl⟩ (Or.inr (Or.inr (Or.inr (Or.inl ⟨⟨_, rfl⟩, rfl⟩)))) (Or.inr ⟨rfl, rfl, rfl, fc_X11_73_w⟩) rfl rfl ?_
  refine E_aload_n d_X11_init_127 rfl (by decide) ?_
  refine E_newD (n := 42) (sh' := [(11, 20), (38, 4), (22, 900), (7, 12), (21, 23), (9, 16), (20, 10), (20, 10), (20, 10), (20, 10), (21, 10), (20, 4), (23, 4), (21, 4), (5, 8), (20, 60), (20, 60), (20, 60), (20, 60), (20, 60), (10, 3), (9, 16), (20, 10), (20, 10), (20, 10), (20, 10), (21, 10), (20, 4), (23, 4), (21, 4), (6, 6), (5, 8), (20, 60), (20, 60), (20, 60), (20, 60), (20, 60), (20, 3), (39, 3), (35, 3), (4, 10), (20, 60), (9, 16)]) (σ' := M11_27 σ) d_X11_init_128 okX9 okD9 nw_X11_28 rfl rfl rfl ⟨Nat.le_of_ble_eq_true rfl, Nat.le_of_ble_eq_true rfl⟩ ?_
  refine E_dupT d_X11_init_131 (by decide) ?_
  refine E_iI (as := []) (st := [(2, 42), (2, 0)]) (a := 42) (sh' := [(11, 20), (38, 4), (22, 900), (7, 12), (21, 23), (9, 16), (20, 10), (20, 10), (20, 10), (20, 10), (21, 10), (20, 4), (23, 4), (21, 4), (5, 8), (20, 60), (20, 60), (20, 60), (20, 60), (20, 60), (10, 3), (9, 16), (20, 10), (20, 10), (20, 10), (20, 10), (21, 10), (20, 4), (23, 4), (21, 4), (6, 6), (5, 8), (20, 60), (20, 60), (20, 60), (20, 60), (20, 60), (20, 3), (39, 3), (35, 3), (4, 10), (20, 60), (9, 16), (20, 10), (20, 10), (20, 10), (20, 10), (21, 10), (20, 4), (23, 4), (21, 4)]) (σ' := M11_28 σ) d_X11_init_132 mk_X9_init nl_X11_30 (by decide) ⟨rfl, rfl, Nat.le_of_ble_eq_true rfl⟩ (by decide) (C_X9_init rfl rfl) ⟨Nat.le_of_ble_eq_true rfl, Nat.le_of_ble_eq_true rfl, Nat.le_of_ble_eq_true rfl, Nat.le_of_ble_eq_true rfl⟩ ?_
  refine E_putD (σ' := M11_29 σ) d_X11_init_135 okX11 fc_X11_77 ⟨by decide, rfl⟩ (Or.inr (Or.inr (Or.inr (Or.inl ⟨⟨_, rfl⟩, rfl⟩)))) (Or.inr ⟨rfl, rfl, rfl, fc_X11_77_w⟩) rfl rfl ?_
  refine E_aload_n d_X11_init_138 rfl (by decide) ?_
  refine E_newD (n := 51) (sh' := [(11, 20), (38, 4), (22, 900), (7, 12), (21, 23), (9, 16), (20, 10), (20, 10), (20, 10), (20, 10), (21, 10), (20, 4), (23, 4), (21, 4), (5, 8), (20, 60), (20, 60), (20, 60), (20, 60), (20, 60), (10, 3), (9, 16), (20, 10), (20, 10), (20, 10), (20, 10), (21, 10), (20, 4), (23, 4), (21, 4), (6, 6), (5, 8), (20, 60), (20, 60), (20, 60), (20, 60), (20, 60), (20, 3), (39, 3), (35, 3), (4, 10), (20, 60), (9, 16), (20, 10), (20, 10), (20, 10), (20, 10), (21, 10), (20, 4), (23, 4), (21, 4), (4, 10)]) (σ' := M11_30 σ) d_X11_init_139 okX4 okD4 nw_X11_68 rfl rfl rfl ⟨Nat.le_of_ble_eq_true rfl, Nat.le_of_ble_eq_true rfl⟩ ?_
  refine E_dupT d_X11_init_142 (by decide) ?_
  refine E_aload_n d_X11_init_143 rfl (by decide) ?_
  refine E_getD (x := 14) d_X11_init_144 okX11 fc_X11_38 ⟨by decide, rfl⟩ rfl rfl ?_
  refine E_aload_n d_X11_init_147 rfl (by decide) ?_
  refine E_getD (x := 42) d_X11_init_148 okX11 fc_X11_77 ⟨by decide, rfl⟩ rfl rfl ?_
  refine E_iI (as := [(2, 14), (2, 42)]) (st := [(2, 51), (2, 0)]) (a := 51) (sh' := [(11, 20), (38, 4), (22, 900), (7, 12), (21, 23), (9, 16), (20, 10), (20, 10), (20, 10), (20, 10), (21, 10), (20, 4), (23, 4), (21, 4), (5, 8), (20, 60), (20, 60), (20, 60), (20, 60), (20, 60), (10, 3), (9, 16), (20, 10), (20, 10), (20, 10), (20, 10), (21, 10), (20, 4), (23, 4), (21, 4), (6, 6), (5, 8), (20, 60), (20, 60), (20, 60), (20, 60), (20, 60), (20, 3), (39, 3), (35, 3), (4, 10), (20, 60), (9, 16), (20, 10), (20, 10), (20, 10), (20, 10), (21, 10), (20, 4), (23, 4), (21, 4), (4, 10), (20, 60)]) (σ' := M11_31 σ) d_X11_init_151 mk_X4_init nl_X11_70 (by decide) ⟨rfl, rfl, Nat.le_of_ble_eq_true rfl⟩ (by decide) (C_X4_init rfl rfl) ⟨Nat.le_of_ble_eq_true rfl, Nat.le_of_ble_eq_true rfl, Nat.le_of_ble_eq_true rfl, Nat.le_of_ble_eq_true rfl⟩ ?_
  refine E_putD (σ' := M11_32 σ) d_X11_init_154 okX11 fc_X11_80 ⟨by decide, rfl⟩ (Or.inr (Or.inr (Or.inr (Or.inl ⟨⟨_, rfl⟩, rfl⟩)))) (Or.inr ⟨rfl, rfl, rfl, fc_X11_80_w⟩) rfl rfl ?_
  refine E_aload_n d_X11_init_157 rfl (by decide) ?_
  refine E_newD (n := 53) (sh' := [(11, 20), (38, 4), (22, 900), (7, 12), (21, 23), (9, 16), (20, 10), (20, 10), (20, 10), (20, 10), (21, 10), (20, 4), (23, 4), (21, 4), (5, 8), (20, 60), (20, 60), (20, 60), (20, 60), (20, 60), (10, 3), (9, 16), (20, 10), (20, 10), (20, 10), (20, 10), (21, 10), (20, 4), (23, 4), (21, 4), (6, 6), (5, 8), (20, 60), (20, 60), (20, 60), (20, 60), (20, 60), (20, 3), (39, 3), (35, 3), (4, 10), (20, 60), (9, 16), (20, 10), (20, 10), (20, 10), (20, 10), (21, 10), (20, 4), (23, 4), (21, 4), (4, 10), (20, 60), (3, 4)]) (σ' := M11_33 σ) d_X11_init_158 okX3 okD3 nw_X11_83 rfl rfl rfl ⟨Nat.le_of_ble_eq_true rfl, Nat.le_of_ble_eq_true rfl⟩ ?_
  refine E_dupT d_X11_init_161 (by decide) ?_
  refine E_iI (as := []) (st := [(2, 53), (2, 0)]) (a := 53) (sh' := [(11, 20), (38, 4), (22, 900), (7, 12), (21, 23), (9, 16), (20, 10), (20, 10), (20, 10), (20, 10), (21, 10), (20, 4), (23, 4), (21, 4), (5, 8), (20, 60), (20, 60), (20, 60), (20, 60), (20, 60), (10, 3), (9, 16), (20, 10), (20, 10), (20, 10), (20, 10), (21, 10), (20, 4), (23, 4), (21, 4), (6, 6), (5, 8), (20, 60), (20, 60), (20, 60), (20, 60), (20, 60), (20, 3), (39, 3), (35, 3), (4, 10), (20, 60), (9, 16), (20, 10), (20, 10), (20, 10), (20, 10), (21, 10), (20, 4), (23, 4), (21, 4), (4, 10), (20, 60), (3, 4)]) (σ' := M11_34 σ) d_X11_init_162 mk_X3_init nl_X11_85 (by decide) ⟨rfl, rfl, Nat.le_of_ble_eq_true rfl⟩ (by decide) (C_X3_init rfl rfl) ⟨Nat.le_of_ble_eq_true rfl, Nat.le_of_ble_eq_true rfl, Nat.le_of_ble_eq_true rfl, Nat.le_of_ble_eq_true rfl⟩ ?_
  refine E_putD (σ' := M11_35 σ) d_X11_init_165 okX11 fc_X11_86 ⟨by decide, rfl⟩ (Or.inr (Or.inr (Or.inr (Or.inl ⟨⟨_, rfl⟩, rfl⟩)))) (Or.inr ⟨rfl, rfl, rfl, fc_X11_86_w⟩) rfl rfl ?_
  refine E_aload_n d_X11_init_168 rfl (by decide) ?_
  refine E_newD (n := 54) (sh' := [(11, 20), (38, 4), (22, 900), (7, 12), (21, 23), (9, 16), (20, 10), (20, 10), (20, 10), (20, 10), (21, 10), (20, 4), (23, 4), (21, 4), (5, 8), (20, 60), (20, 60), (20, 60), (20, 60), (20, 60), (10, 3), (9, 16), (20, 10), (20, 10), (20, 10), (20, 10), (21, 10), (20, 4), (23, 4), (21, 4), (6, 6), (5, 8), (20, 60), (20, 60), (20, 60), (20, 60), (20, 60), (20, 3), (39, 3), (35, 3), (4, 10), (20, 60), (9, 16), (20, 10), (20, 10), (20, 10), (20, 10), (21, 10), (20, 4), (23, 4), (21, 4), (4, 10), (20, 60), (3, 4), (0, 10)]) (σ' := M11_36 σ) d_X11_init_169 okX0 okD0 nw_X11_90 rfl rfl rfl ⟨Nat.le_of_ble_eq_true rfl, Nat.le_of_ble_eq_true rfl⟩ ?_
  refine E_dupT d_X11_init_172 (by decide) ?_
  refine E_iI (as := []) (st := [(2, 54), (2, 0)]) (a := 54) (sh' := [(11, 20), (38, 4), (22, 900), (7, 12), (21, 23), (9, 16), (20, 10), (20, 10), (20, 10), (20, 10), (21, 10), (20, 4), (23, 4), (21, 4), (5, 8), (20, 60), (20, 60), (20, 60), (20, 60), (20, 60), (10, 3), (9, 16), (20, 10), (20, 10), (20, 10), (20, 10), (21, 10), (20, 4), (23, 4), (21, 4), (6, 6), (5, 8), (20, 60), (20, 60), (20, 60), (20, 60), (20, 60), (20, 3), (39, 3), (35, 3), (4, 10), (20, 60), (9, 16), (20, 10), (20, 10), (20, 10), (20, 10), (21, 10), (20, 4), (23, 4), (21, 4), (4, 10), (20, 60), (3, 4), (0, 10), (20, 6), (23, 6), (20, 6)]) (σ' := M11_37 σ) d_X11_init_173 mk_X0_init nl_X11_92 (by decide) ⟨rfl, rfl, Nat.le_of_ble_eq_true rfl⟩ (by decide) (C_X0_init rfl rfl) ⟨Nat.le_of_ble_eq_true rfl, Nat.le_of_ble_eq_true rfl, Nat.le_of_ble_eq_true rfl, Nat.le_of_ble_eq_true rfl⟩ ?_
  refine E_putD (σ' := M11_38 σ) d_X11_init_176 okX11 fc_X11_93 ⟨by decide, rfl⟩ (Or.inr (Or.inr (Or.inr (Or.inl ⟨⟨_, rfl⟩, rfl⟩)))) (Or.inr ⟨rfl, rfl, rfl, fc_X11_93_w⟩) rfl rfl ?_
  refine E_aload_n d_X11_init_179 rfl (by decide) ?_
  refine E_newD (n := 58) (sh' := [(11, 20), (38, 4), (22, 900), (7, 12), (21, 23), (9, 16), (20, 10), (20, 10), (20, 10), (20, 10), (21, 10), (20, 4), (23, 4), (21, 4), (5, 8), (20, 60), (20, 60), (20, 60), (20, 60), (20, 60), (10, 3), (9, 16), (20, 10), (20, 10), (20, 10), (20, 10), (21, 10), (20, 4), (23, 4), (21, 4), (6, 6), (5, 8), (20, 60), (20, 60), (20, 60), (20, 60), (20, 60), (20, 3), (39, 3), (35, 3), (4, 10), (20, 60), (9, 16), (20, 10), (20, 10), (20, 10), (20, 10), (21, 10), (20, 4), (23, 4), (21, 4), (4, 10), (20, 60), (3, 4), (0, 10), (20, 6), (23, 6), (20, 6), (1, 5)]) (σ' := M11_39 σ) d_X11_init_180 okX1 okD1 nw_X11_97 rfl rfl rfl ⟨Nat.le_of_ble_eq_true rfl, Nat.le_of_ble_eq_true rfl⟩ ?_
  refine E_dupT d_X11_init_183 (by decide) ?_
  refine E_aload_n d_X11_init_184 rfl (by decide) ?_
  refine E_getD (x := 5) d_X11_init_185 okX11 fc_X11_31 ⟨by decide, rfl⟩ rfl rfl ?_
  refine E_iI (as := [(2, 5)]) (st := [(2, 58), (2, 0)]) (a := 58) (sh' := [(11, 20), (38, 4), (22, 900), (7, 12), (21, 23), (9, 16), (20, 10), (20, 10), (20, 10), (20, 10), (21, 10), (20, 4), (23, 4), (21, 4), (5, 8), (20, 60), (20, 60), (20, 60), (20, 60), (20, 60), (10, 3), (9, 16), (20, 10), (20, 10), (20, 10), (20, 10), (21, 10), (20, 4), (23, 4), (21, 4), (6, 6), (5, 8), (20, 60), (20, 60), (20, 60), (20, 60), (20, 60), (20, 3), (39, 3), (35, 3), (4, 10), (20, 60), (9, 16), (20, 10), (20, 10), (20, 10), (20, 10), (21, 10), (20, 4), (23, 4), (21, 4), (4, 10), (20, 60), (3, 4), (0, 10), (20, 6), (23, 6), (20, 6), (1, 5)]) (σ' := M11_40 σ) d_X11_init_188 mk_X1_init nl_X11_99 (by decide) ⟨rfl, rfl, Nat.le_of_ble_eq_true rfl⟩ (by decide) (C_X1_init rfl rfl) ⟨Nat.le_of_ble_eq_true rfl, Nat.le_of_ble_eq_true rfl, Nat.le_of_ble_eq_true rfl, Nat.le_of_ble_eq_true rfl⟩ ?_
  refine E_putD (σ' := M11_41 σ) d_X11_init_191 okX11 fc_X11_102 ⟨by decide, rfl⟩ (Or.inr (Or.inr (Or.inr (Or.inl ⟨⟨_, rfl⟩, rfl⟩)))) (Or.inr ⟨rfl, rfl, rfl, fc_X11_102_w⟩) rfl rfl ?_
  refine E_aload_n d_X11_init_194 rfl (by decide) ?_
  refine E_newD (n := 59) (sh' := [(11, 20), (38, 4), (22, 900), (7, 12), (21, 23), (9, 16), (20, 10), (20, 10), (20, 10), (20, 10), (21, 10), (20, 4), (23, 4), (21, 4), (5, 8), (20, 60), (20, 60), (20, 60), (20, 60), (20, 60), (10, 3), (9, 16), (20, 10), (20, 10), (20, 10), (20, 10), (21, 10), (20, 4), (23, 4), (21, 4), (6, 6), (5, 8), (20, 60), (20, 60), (20, 60), (20, 60), (20, 60), (20, 3), (39, 3), (35, 3), (4, 10), (20, 60), (9, 16), (20, 10), (20, 10), (20, 10), (20, 10), (21, 10), (20, 4), (23, 4), (21, 4), (4, 10), (20, 60), (3, 4), (0, 10), (20, 6), (23, 6), (20, 6), (1, 5), (2, 2)]) (σ' := M11_42 σ) d_X11_init_195 okX2 okD2 nw_X11_106 rfl rfl rfl ⟨Nat.le_of_ble_eq_true rfl, Nat.le_of_ble_eq_true rfl⟩ ?_
  refine E_dupT d_X11_init_198 (by decide) ?_
  refine E_iI (as := []) (st := [(2, 59), (2, 0)]) (a := 59) (sh' := [(11, 20), (38, 4), (22, 900), (7, 12), (21, 23), (9, 16), (20, 10), (20, 10), (20, 10), (20, 10), (21, 10), (20, 4), (23, 4), (21, 4), (5, 8), (20, 60), (20, 60), (20, 60), (20, 60), (20, 60), (10, 3), (9, 16), (20, 10), (20, 10), (20, 10), (20, 10), (21, 10), (20, 4), (23, 4), (21, 4), (6, 6), (5, 8), (20, 60), (20, 60), (20, 60), (20, 60), (20, 60), (20, 3), (39, 3), (35, 3), (4, 10), (20, 60), (9, 16), (20, 10), (20, 10), (20, 10), (20, 10), (21, 10), (20, 4), (23, 4), (21, 4), (4, 10), (20, 60), (3, 4), (0, 10), (20, 6), (23, 6), (20, 6), (1, 5), (2, 2)]) (σ' := M11_43 σ) d_X11_init_199 mk_X2_init nl_X11_108 (by decide) ⟨rfl, rfl, Nat.le_of_ble_eq_true rfl⟩ (by decide) (C_X2_init rfl rfl) ⟨Nat.le_of_ble_eq_true rfl, Nat.le_of_ble_eq_true rfl, Nat.le_of_ble_eq_true rfl, Nat.le_of_ble_eq_true rfl⟩ ?_
  refine E_putD (σ' := M11_44 σ) d_X11_init_202 okX11 fc_X11_109 ⟨by decide, rfl⟩ (Or.inr (Or.inr (Or.inr (Or.inl ⟨⟨_, rfl⟩, rfl⟩)))) (Or.inr ⟨rfl, rfl, rfl, fc_X11_109_w⟩) rfl rfl ?_
  refine E_iconst d_X11_init_205 (c32 rfl) ?_
  refine E_istore_n d_X11_init_206 (ls' := [(2, 0), (0, 0)]) ⟨by decide, rfl⟩ ?_
  refine E_iload_n d_X11_init_207 rfl ?_
  refine E_iconst d_X11_init_208 (c32 rfl) ?_
  refine E_icmpge_f (tgt := 231) d_X11_init_209 (by decide) (by decide) ?_
  refine E_aload_n d_X11_init_212 rfl (by decide) ?_
  refine E_getD (x := 1) d_X11_init_213 okX11 fc_X11_11 ⟨by decide, rfl⟩ rfl rfl ?_
  refine E_iload_n d_X11_init_216 rfl ?_
  refine E_newD (n := 60) (sh' := [(11, 20), (38, 4), (22, 900), (7, 12), (21, 23), (9, 16), (20, 10), (20, 10), (20, 10), (20, 10), (21, 10), (20, 4), (23, 4), (21, 4), (5, 8), (20, 60), (20, 60), (20, 60), (20, 60), (20, 60), (10, 3), (9, 16), (20, 10), (20, 10), (20, 10), (20, 10), (21, 10), (20, 4), (23, 4), (21, 4), (6, 6), (5, 8), (20, 60), (20, 60), (20, 60), (20, 60), (20, 60), (20, 3), (39, 3), (35, 3), (4, 10), (20, 60), (9, 16), (20, 10), (20, 10), (20, 10), (20, 10), (21, 10), (20, 4), (23, 4), (21, 4), (4, 10), (20, 60), (3, 4), (0, 10), (20, 6), (23, 6), (20, 6), (1, 5), (2, 2), (8, 3)]) (σ' := M11_45 σ) d_X11_init_217 okX8 okD8 nw_X11_9 rfl rfl rfl ⟨Nat.le_of_ble_eq_true rfl, Nat.le_of_ble_eq_true rfl⟩ ?_
  refine E_dupT d_X11_init_220 (by decide) ?_
  refine E_iI (as := []) (st := [(2, 60), (0, 0), (2, 1)]) (a := 60) (sh' := [(11, 20), (38, 4), (22, 900), (7, 12), (21, 23), (9, 16), (20, 10), (20, 10), (20, 10), (20, 10), (21, 10), (20, 4), (23, 4), (21, 4), (5, 8), (20, 60), (20, 60), (20, 60), (20, 60), (20, 60), (10, 3), (9, 16), (20, 10), (20, 10), (20, 10), (20, 10), (21, 10), (20, 4), (23, 4), (21, 4), (6, 6), (5, 8), (20, 60), (20, 60), (20, 60), (20, 60), (20, 60), (20, 3), (39, 3), (35, 3), (4, 10), (20, 60), (9, 16), (20, 10), (20, 10), (20, 10), (20, 10), (21, 10), (20, 4), (23, 4), (21, 4), (4, 10), (20, 60), (3, 4), (0, 10), (20, 6), (23, 6), (20, 6), (1, 5), (2, 2), (8, 3), (21, 60)]) (σ' := M11_46 σ) d_X11_init_221 mk_X8_init nl_X11_113 (by decide) ⟨rfl, rfl, Nat.le_of_ble_eq_true rfl⟩ (by decide) (C_X8_init rfl rfl) ⟨Nat.le_of_ble_eq_true rfl, Nat.le_of_ble_eq_true rfl, Nat.le_of_ble_eq_true rfl, Nat.le_of_ble_eq_true rfl⟩ ?_
  refine E_aastD (σ' := M11_47 σ) d_X11_init_224 (Or.inr (Or.inl ⟨rfl, rfl, rfl⟩)) okX8 rfl rfl rfl ?_
  refine E_iincD (y := 1) d_X11_init_225 (ls' := [(2, 0), (0, 1)]) rfl (by decide +kernel) ⟨by decide, rfl⟩ ?_
  refine E_goto (tgt := 207) d_X11_init_228 (by decide) ?_
  refine E_iload_n d_X11_init_207 rfl ?_
  refine E_iconst d_X11_init_208 (c32 rfl) ?_
  refine E_icmpge_f (tgt := 231) d_X11_init_209 (by decide) (by decide) ?_
  refine E_aload_n d_X11_init_212 rfl (by decide) ?_
  refine E_getD (x := 1) d_X11_init_213 okX11 fc_X11_11 ⟨by decide, rfl⟩ rfl rfl ?_
  refine E_iload_n d_X11_init_216 rfl ?_
  refine E_newD (n := 62) (sh' := [(11, 20), (38, 4), (22, 900), (7, 12), (21, 23), (9, 16), (20, 10), (20, 10), (20, 10), (20, 10), (21, 10), (20, 4), (23, 4), (21, 4), (5, 8), (20, 60), (20, 60), (20, 60), (20, 60), (20, 60), (10, 3), (9, 16), (20, 10), (20, 10), (20, 10), (20, 10), (21, 10), (20, 4), (23, 4), (21, 4), (6, 6), (5, 8), (20, 60), (20, 60), (20, 60), (20, 60), (20, 60), (20, 3), (39, 3), (35, 3), (4, 10), (20, 60), (9, 16), (20, 10), (20, 10), (20, 10), (20, 10), (21, 10), (20, 4), (23, 4), (21, 4), (4, 10), (20, 60), (3, 4), (0, 10), (20, 6), (23, 6), (20, 6), (1, 5), (2, 2), (8, 3), (21, 60), (8, 3)]) (σ' := M11_48 σ) d_X11_init_217 okX8 okD8 nw_X11_9 rfl rfl rfl ⟨Nat.le_of_ble_eq_true rfl, Nat.le_of_ble_eq_true rfl⟩ ?_
  refine E_dupT d_X11_init_220 (by decide) ?_
  refine E_iI (as := []) (st := [(2, 62), (0, 1), (2, 1)]) (a := 62) (sh' := [(11, 20), (38, 4), (22, 900), (7, 12), (21, 23), (9, 16), (20, 10), (20, 10), (20, 10), (20, 10), (21, 10), (20, 4), (23, 4), (21, 4), (5, 8), (20, 60), (20, 60), (20, 60), (20, 60), (20, 60), (10, 3), (9, 16), (20, 10), (20, 10), (20, 10), (20, 10), (21, 10), (20, 4), (23, 4), (21, 4), (6, 6), (5, 8), (20, 60), (20, 60), (20, 60), (20, 60), (20, 60), (20, 3), (39, 3), (35, 3), (4, 10), (20, 60), (9, 16), (20, 10), (20, 10), (20, 10), (20, 10), (21, 10), (20, 4), (23, 4), (21, 4), (4, 10), (20, 60), (3, 4), (0, 10), (20, 6), (23, 6), (20, 6), (1, 5), (2, 2), (8, 3), (21, 60), (8, 3), (21, 60)]) (σ' := M11_49 σ) d_X11_init_221 mk_X8_init nl_X11_113 (by decide) ⟨rfl, rfl, Nat.le_of_ble_eq_true rfl⟩ (by decide) (C_X8_init rfl rfl) ⟨Nat.le_of_ble_eq_true rfl, Nat.le_of_ble_eq_true rfl, Nat.le_of_ble_eq_true rfl, Nat.le_of_ble_eq_true rfl⟩ ?_
  refine E_aastD (σ' := M11_50 σ) d_X11_init_224 (Or.inr (Or.inl ⟨rfl, rfl, rfl⟩)) okX8 rfl rfl rfl ?_
  refine E_iincD (y := 2) d_X11_init_225 (ls' := [(2, 0), (0, 2)]) rfl (by decide +kernel) ⟨by decide, rfl⟩ ?_
  refine E_goto (tgt := 207) d_X11_init_228 (by decide) ?_
  refine E_iload_n d_X11_init_207 rfl ?_
  refine E_iconst d_X11_init_208 (c32 rfl) ?_
  refine E_icmpge_f (tgt := 231) d_X11_init_209 (by decide) (by decide) ?_
  refine E_aload_n d_X11_init_212 rfl (by decide) ?_
  refine E_getD (x := 1) d_X11_init_213 okX11 fc_X11_11 ⟨by decide, rfl⟩ rfl rfl ?_
  refine E_iload_n d_X11_init_216 rfl ?_
  refine E_newD (n := 64) (sh' := [(11, 20), (38, 4), (22, 900), (7, 12), (21, 23), (9, 16), (20, 10), (20, 10), (20, 10), (20, 10), (21, 10), (20, 4), (23, 4), (21, 4), (5, 8), (20, 60), (20, 60), (20, 60), (20, 60), (20, 60), (10, 3), (9, 16), (20, 10), (20, 10), (20, 10), (20, 10), (21, 10), (20, 4), (23, 4), (21, 4), (6, 6), (5, 8), (20, 60), (20, 60), (20, 60), (20, 60), (20, 60), (20, 3), (39, 3), (35, 3), (4, 10), (20, 60), (9, 16), (20, 10), (20, 10), (20, 10), (20, 10), (21, 10), (20, 4), (23, 4), (21, 4), (4, 10), (20, 60), (3, 4), (0, 10), (20, 6), (23, 6), (20, 6), (1, 5), (2, 2), (8, 3), (21, 60), (8, 3), (21, 60), (8, 3)]) (σ' := M11_51 σ) d_X11_init_217 okX8 okD8 nw_X11_9 rfl rfl rfl ⟨Nat.le_of_ble_eq_true rfl, Nat.le_of_ble_eq_true rfl⟩ ?_
  refine E_dupT d_X11_init_220 (by decide) ?_
  refine E_iI (as := []) (st := [(2, 64), (0, 2), (2, 1)]) (a := 64) (sh' := [(11, 20), (38, 4), (22, 900), (7, 12), (21, 23), (9, 16), (20, 10), (20, 10), (20, 10), (20, 10), (21, 10), (20, 4), (23, 4), (21, 4), (5, 8), (20, 60), (20, 60), (20, 60), (20, 60), (20, 60), (10, 3), (9, 16), (20, 10), (20, 10), (20, 10), (20, 10), (21, 10), (20, 4), (23, 4), (21, 4), (6, 6), (5, 8), (20, 60), (20, 60), (20, 60), (20, 60), (20, 60), (20, 3), (39, 3), (35, 3), (4, 10), (20, 60), (9, 16), (20, 10), (20, 10), (20, 10), (20, 10), (21, 10), (20, 4), (23, 4), (21, 4), (4, 10), (20, 60), (3, 4), (0, 10), (20, 6), (23, 6), (20, 6), (1, 5), (2, 2), (8, 3), (21, 60), (8, 3), (21, 60), (8, 3), (21, 60)]) (σ' := M11_52 σ) d_X11_init_221 mk_X8_init nl_X11_113 (by decide) ⟨rfl, rfl, Nat.le_of_ble_eq_true rfl⟩ (by decide) (C_X8_init rfl rfl) ⟨Nat.le_of_ble_eq_true rfl, Nat.le_of_ble_eq_true rfl, Nat.le_of_ble_eq_true rfl, Nat.le_of_ble_eq_true rfl⟩ ?_
  refine E_aastD (σ' := M11_53 σ) d_X11_init_224 (Or.inr (Or.inl ⟨rfl, rfl, rfl⟩)) okX8 rfl rfl rfl ?_
  refine E_iincD (y := 3) d_X11_init_225 (ls' := [(2, 0), (0, 3)]) rfl (by decide +kernel) ⟨by decide, rfl⟩ ?_
  refine E_goto (tgt := 207) d_X11_init_228 (by decide) ?_
  refine E_iload_n d_X11_init_207 rfl ?_
  refine E_iconst d_X11_init_208 (c32 rfl) ?_
  refine E_icmpge_f (tgt := 231) d_X11_init_209 (by decide) (by decide) ?_
  refine E_aload_n d_X11_init_212 rfl (by decide) ?_
  refine E_getD (x := 1) d_X11_init_213 okX11 fc_X11_11 ⟨by decide, rfl⟩ rfl rfl ?_
  refine E_iload_n d_X11_init_216 rfl ?_
  refine E_newD (n := 66) (sh' := [(11, 20), (38, 4), (22, 900), (7, 12), (21, 23), (9, 16), (20, 10), (20, 10), (20, 10), (20, 10), (21, 10), (20, 4), (23, 4), (21, 4), (5, 8), (20, 60), (20, 60), (20, 60), (20, 60), (20, 60), (10, 3), (9, 16), (20, 10), (20, 10), (20, 10), (20, 10), (21, 10), (20, 4), (23, 4), (21, 4), (6, 6), (5, 8), (20, 60), (20, 60), (20, 60), (20, 60), (20, 60), (20, 3), (39, 3), (35, 3), (4, 10), (20, 60), (9, 16), (20, 10), (20, 10), (20, 10), (20, 10), (21, 10), (20, 4), (23, 4), (21, 4), (4, 10), (20, 60), (3, 4), (0, 10), (20, 6), (23, 6), (20, 6), (1, 5), (2, 2), (8, 3), (21, 60), (8, 3), (21, 60), (8, 3), (21, 60), (8, 3)]) (σ' := M11_54 σ) d_X11_init_217 okX8 okD8 nw_X11_9 rfl rfl rfl ⟨Nat.le_of_ble_eq_true rfl, Nat.le_of_ble_eq_true rfl⟩ ?_
  refine E_dupT d_X11_init_220 (by decide) ?_
  refine E_iI (as := []) (st := [(2, 66), (0, 3), (2, 1)]) (a := 66) (sh' := [(11, 20), (38, 4), (22, 900), (7, 12), (21, 23), (9, 16), (20, 10), (20, 10), (20, 10), (20, 10), (21, 10), (20, 4), (23, 4), (21, 4), (5, 8), (20, 60), (20, 60), (20, 60), (20, 60), (20, 60), (10, 3), (9, 16), (20, 10), (20, 10), (20, 10), (20, 10), (21, 10), (20, 4), (23, 4), (21, 4), (6, 6), (5, 8), (20, 60), (20, 60), (20, 60), (20, 60), (20, 60), (20, 3), (39, 3), (35, 3), (4, 10), (20, 60), (9, 16), (20, 10), (20, 10), (20, 10), (20, 10), (21, 10), (20, 4), (23, 4), (21, 4), (4, 10), (20, 60), (3, 4), (0, 10), (20, 6), (23, 6), (20, 6), (1, 5), (2, 2), (8, 3), (21, 60), (8, 3), (21, 60), (8, 3), (21, 60), (8, 3), (21, 60)]) (σ' := M11_55 σ) d_X11_init_221 mk_X8_init nl_X11_113 (by decide) ⟨rfl, rfl, Nat.le_of_ble_eq_true rfl⟩ (by decide) (C_X8_init rfl rfl) ⟨Nat.le_of_ble_eq_true rfl, Nat.le_of_ble_eq_true rfl, Nat.le_of_ble_eq_true rfl, Nat.le_of_ble_eq_true rfl⟩ ?_
  refine E_aastD (σ' := M11_56 σ) d_X11_init_224 (Or.inr (Or.inl ⟨rfl, rfl, rfl⟩)) okX8 rfl rfl rfl ?_
  refine E_iincD (y := 4) d_X11_init_225 (ls' := [(2, 0), (0, 4)]) rfl (by decide +kernel) ⟨by decide, rfl⟩ ?_
  refine E_goto (tgt := 207) d_X11_init_228 (by decide) ?_
  refine E_iload_n d_X11_init_207 rfl ?_
  refine E_iconst d_X11_init_208 (c32 rfl) ?_
  refine E_icmpge_t (tgt := 231) d_X11_init_209 (by decide) (by decide) ?_
  refine E_iconst d_X11_init_231 (c32 rfl) ?_
  refine E_istore_n d_X11_init_232 (ls' := [(2, 0), (0, 0)]) ⟨by decide, rfl⟩ ?_
  refine E_iload_n d_X11_init_233 rfl ?_
  refine E_iconst d_X11_init_234 (c32 rfl) ?_
  refine E_icmpge_f (tgt := 270) d_X11_init_235 (by decide) (by decide) ?_
  refine E_aload_n d_X11_init_238 rfl (by decide) ?_
  refine E_getD (x := 38) d_X11_init_239 okX11 fc_X11_60 ⟨by decide, rfl⟩ rfl rfl ?_
  refine E_iload_n d_X11_init_242 rfl ?_
  refine E_newD (n := 68) (sh' := [(11, 20), (38, 4), (22, 900), (7, 12), (21, 23), (9, 16), (20, 10), (20, 10), (20, 10), (20, 10), (21, 10), (20, 4), (23, 4), (21, 4), (5, 8), (20, 60), (20, 60), (20, 60), (20, 60), (20, 60), (10, 3), (9, 16), (20, 10), (20, 10), (20, 10), (20, 10), (21, 10), (20, 4), (23, 4), (21, 4), (6, 6), (5, 8), (20, 60), (20, 60), (20, 60), (20, 60), (20, 60), (20, 3), (39, 3), (35, 3), (4, 10), (20, 60), (9, 16), (20, 10), (20, 10), (20, 10), (20, 10), (21, 10), (20, 4), (23, 4), (21, 4), (4, 10), (20, 60), (3, 4), (0, 10), (20, 6), (23, 6), (20, 6), (1, 5), (2, 2), (8, 3), (21, 60), (8, 3), (21, 60), (8, 3), (21, 60), (8, 3), (21, 60), (9, 16)]) (σ' := M11_57 σ) d_X11_init_243 okX9 okD9 nw_X11_28 rfl rfl rfl ⟨Nat.le_of_ble_eq_true rfl, Nat.le_of_ble_eq_true rfl⟩ ?_
  refine E_dupT d_X11_init_246 (by decide) ?_
  refine E_iI (as := []) (st := [(2, 68), (0, 0), (2, 38)]) (a := 68) (sh' := [(11, 20), (38, 4), (22, 900), (7, 12), (21, 23), (9, 16), (20, 10), (20, 10), (20, 10), (20, 10), (21, 10), (20, 4), (23, 4), (21, 4), (5, 8), (20, 60), (20, 60), (20, 60), (20, 60), (20, 60), (10, 3), (9, 16), (20, 10), (20, 10), (20, 10), (20, 10), (21, 10), (20, 4), (23, 4), (21, 4), (6, 6), (5, 8), (20, 60), (20, 60), (20, 60), (20, 60), (20, 60), (20, 3), (39, 3), (35, 3), (4, 10), (20, 60), (9, 16), (20, 10), (20, 10), (20, 10), (20, 10), (21, 10), (20, 4), (23, 4), (21, 4), (4, 10), (20, 60), (3, 4), (0, 10), (20, 6), (23, 6), (20, 6), (1, 5), (2, 2), (8, 3), (21, 60), (8, 3), (21, 60), (8, 3), (21, 60), (8, 3), (21, 60), (9, 16), (20, 10), (20, 10), (20, 10), (20, 10), (21, 10), (20, 4), (23, 4), (21, 4)]) (σ' := M11_58 σ) d_X11_init_247 mk_X9_init nl_X11_30 (by decide) ⟨rfl, rfl, Nat.le_of_ble_eq_true rfl⟩ (by decide) (C_X9_init rfl rfl) ⟨Nat.le_of_ble_eq_true rfl, Nat.le_of_ble_eq_true rfl, Nat.le_of_ble_eq_true rfl, Nat.le_of_ble_eq_true rfl⟩ ?_
  refine E_aastD (σ' := M11_59 σ) d_X11_init_250 (Or.inr (Or.inr ⟨rfl, rfl, rfl⟩)) okX9 rfl rfl rfl ?_
  refine E_aload_n d_X11_init_251 rfl (by decide) ?_
  refine E_getD (x := 39) d_X11_init_252 okX11 fc_X11_64 ⟨by decide, rfl⟩ rfl rfl ?_
  refine E_iload_n d_X11_init_255 rfl ?_
  refine E_newD (n := 77) (sh' := [(11, 20), (38, 4), (22, 900), (7, 12), (21, 23), (9, 16), (20, 10), (20, 10), (20, 10), (20, 10), (21, 10), (20, 4), (23, 4), (21, 4), (5, 8), (20, 60), (20, 60), (20, 60), (20, 60), (20, 60), (10, 3), (9, 16), (20, 10), (20, 10), (20, 10), (20, 10), (21, 10), (20, 4), (23, 4), (21, 4), (6, 6), (5, 8), (20, 60), (20, 60), (20, 60), (20, 60), (20, 60), (20, 3), (39, 3), (35, 3), (4, 10), (20, 60), (9, 16), (20, 10), (20, 10), (20, 10), (20, 10), (21, 10), (20, 4), (23, 4), (21, 4), (4, 10), (20, 60), (3, 4), (0, 10), (20, 6), (23, 6), (20, 6), (1, 5), (2, 2), (8, 3), (21, 60), (8, 3), (21, 60), (8, 3), (21, 60), (8, 3), (21, 60), (9, 16), (20, 10), (20, 10), (20, 10), (20, 10), (21, 10), (20, 4), (23, 4), (21, 4), (5, 8)]) (σ' := M11_60 σ) d_X11_init_256 okX5 okD5 nw_X11_35 rfl rfl rfl ⟨Nat.le_of_ble_eq_true rfl, Nat.le_of_ble_eq_true rfl⟩ ?_
  refine E_dupT d_X11_init_259 (by decide) ?_
  refine E_iI (as := []) (st := [(2, 77), (0, 0), (2, 39)]) (a := 77) (sh' := [(11, 20), (38, 4), (22, 900), (7, 12), (21, 23), (9, 16), (20, 10), (20, 10), (20, 10), (20, 10), (21, 10), (20, 4), (23, 4), (21, 4), (5, 8), (20, 60), (20, 60), (20, 60), (20, 60), (20, 60), (10, 3), (9, 16), (20, 10), (20, 10), (20, 10), (20, 10), (21, 10), (20, 4), (23, 4), (21, 4), (6, 6), (5, 8), (20, 60), (20, 60), (20, 60), (20, 60), (20, 60), (20, 3), (39, 3), (35, 3), (4, 10), (20, 60), (9, 16), (20, 10), (20, 10), (20, 10), (20, 10), (21, 10), (20, 4), (23, 4), (21, 4), (4, 10), (20, 60), (3, 4), (0, 10), (20, 6), (23, 6), (20, 6), (1, 5), (2, 2), (8, 3), (21, 60), (8, 3), (21, 60), (8, 3), (21, 60), (8, 3), (21, 60), (9, 16), (20, 10), (20, 10), (20, 10), (20, 10), (21, 10), (20, 4), (23, 4), (21, 4), (5, 8), (20, 60), (20, 60), (20, 60), (20, 60), (20, 60)]) (σ' := M11_61 σ) d_X11_init_260 mk_X5_init nl_X11_37 (by decide) ⟨rfl, rfl, Nat.le_of_ble_eq_true rfl⟩ (by decide) (C_X5_init rfl rfl) ⟨Nat.le_of_ble_eq_true rfl, Nat.le_of_ble_eq_true rfl, Nat.le_of_ble_eq_true rfl, Nat.le_of_ble_eq_true rfl⟩ ?_
  refine E_aastD (σ' := M11_62 σ) d_X11_init_263 (Or.inl ⟨rfl, rfl, rfl⟩) okX5 rfl rfl rfl ?_
  refine E_iincD (y := 1) d_X11_init_264 (ls' := [(2, 0), (0, 1)]) rfl (by decide +kernel) ⟨by decide, rfl⟩ ?_
  refine E_goto (tgt := 233) d_X11_init_267 (by decide) ?_
  refine E_iload_n d_X11_init_233 rfl ?_
  refine E_iconst d_X11_init_234 (c32 rfl) ?_
  refine E_icmpge_f (tgt := 270) d_X11_init_235 (by decide) (by decide) ?_
  refine E_aload_n d_X11_init_238 rfl (by decide) ?_
  refine E_getD (x := 38) d_X11_init_239 okX11 fc_X11_60 ⟨by decide, rfl⟩ rfl rfl ?_
  refine E_iload_n d_X11_init_242 rfl ?_
  refine E_newD (n := 83) (sh' := [(11, 20), (38, 4), (22, 900), (7, 12), (21, 23), (9, 16), (20, 10), (20, 10), (20, 10), (20, 10), (21, 10), (20, 4), (23, 4), (21, 4), (5, 8), (20, 60), (20, 60), (20, 60), (20, 60), (20, 60), (10, 3), (9, 16), (20, 10), (20, 10), (20, 10), (20, 10), (21, 10), (20, 4), (23, 4), (21, 4), (6, 6), (5, 8), (20, 60), (20, 60), (20, 60), (20, 60), (20, 60), (20, 3), (39, 3), (35, 3), (4, 10), (20, 60), (9, 16), (20, 10), (20, 10), (20, 10), (20, 10), (21, 10), (20, 4), (23, 4), (21, 4), (4, 10), (20, 60), (3, 4), (0, 10), (20, 6), (23, 6), (20, 6), (1, 5), (2, 2), (8, 3), (21, 60), (8, 3), (21, 60), (8, 3), (21, 60), (8, 3), (21, 60), (9, 16), (20, 10), (20, 10), (20, 10), (20, 10), (21, 10), (20, 4), (23, 4), (21, 4), (5, 8), (20, 60), (20, 60), (20, 60), (20, 60), (20, 60), (9, 16)]) (σ' := M11_63 σ) d_X11_init_243 okX9 okD9 nw_X11_28 rfl rfl rfl ⟨Nat.le_of_ble_eq_true rfl, Nat.le_of_ble_eq_true rfl⟩ ?_
  refine E_dupT d_X11_init_246 (by decide) ?_
  refine E_iI (as := []) (st := [(2, 83), (0, 1), (2, 38)]) (a := 83) (sh' := [(11, 20), (38, 4), (22, 900), (7, 12), (21, 23), (9, 16), (20, 10), (20, 10), (20, 10), (20, 10), (21, 10), (20, 4), (23, 4), (21, 4), (5, 8), (20, 60), (20, 60), (20, 60), (20, 60), (20, 60), (10, 3), (9, 16), (20, 10), (20, 10), (20, 10), (20, 10), (21, 10), (20, 4), (23, 4), (21, 4), (6, 6), (5, 8), (20, 60), (20, 60), (20, 60), (20, 60), (20, 60), (20, 3), (39, 3), (35, 3), (4, 10), (20, 60), (9, 16), (20, 10), (20, 10), (20, 10), (20, 10), (21, 10), (20, 4), (23, 4), (21, 4), (4, 10), (20, 60), (3, 4), (0, 10), (20, 6), (23, 6), (20, 6), (1, 5), (2, 2), (8, 3), (21, 60), (8, 3), (21, 60), (8, 3), (21, 60), (8, 3), (21, 60), (9, 16), (20, 10), (20, 10), (20, 10), (20, 10), (21, 10), (20, 4), (23, 4), (21, 4), (5, 8), (20, 60), (20, 60), (20, 60), (20, 60), (20, 60), (9, 16), (20, 10), (20, 10), (20, 10), (20, 10), (21, 10), (20, 4), (23, 4), (21, 4)]) (σ' := M11_64 σ) d_X11_init_247 mk_X9_init nl_X11_30 (by decide) ⟨rfl, rfl, Nat.le_of_ble_eq_true rfl⟩ (by decide) (C_X9_init rfl rfl) ⟨Nat.le_of_ble_eq_true rfl, Nat.le_of_ble_eq_true rfl, Nat.le_of_ble_eq_true rfl, Nat.le_of_ble_eq_true rfl⟩ ?_
  refine E_aastD (σ' := M11_65 σ) d_X11_init_250 (Or.inr (Or.inr ⟨rfl, rfl, rfl⟩)) okX9 rfl rfl rfl ?_
  refine E_aload_n d_X11_init_251 rfl (by decide) ?_
  refine E_getD (x := 39) d_X11_init_252 okX11 fc_X11_64 ⟨by decide, rfl⟩ rfl rfl ?_
  refine E_iload_n d_X11_init_255 rfl ?_
  refine E_newD (n := 92) (sh' := [(11, 20), (38, 4), (22, 900), (7, 12), (21, 23), (9, 16), (20, 10), (20, 10), (20, 10), (20, 10), (21, 10), (20, 4), (23, 4), (21, 4), (5, 8), (20, 60), (20, 60), (20, 60), (20, 60), (20, 60), (10, 3), (9, 16), (20, 10), (20, 10), (20, 10), (20, 10), (21, 10), (20, 4), (23, 4), (21, 4), (6, 6), (5, 8), (20, 60), (20, 60), (20, 60), (20, 60), (20, 60), (20, 3), (39, 3), (35, 3), (4, 10), (20, 60), (9, 16), (20, 10), (20, 10), (20, 10), (20, 10), (21, 10), (20, 4), (23, 4), (21, 4), (4, 10), (20, 60), (3, 4), (0, 10), (20, 6), (23, 6), (20, 6), (1, 5), (2, 2), (8, 3), (21, 60), (8, 3), (21, 60), (8, 3), (21, 60), (8, 3), (21, 60), (9, 16), (20, 10), (20, 10), (20, 10), (20, 10), (21, 10), (20, 4), (23, 4), (21, 4), (5, 8), (20, 60), (20, 60), (20, 60), (20, 60), (20, 60), (9, 16), (20, 10), (20, 10), (20, 10), (20, 10), (21, 10), (20, 4), (23, 4), (21, 4), (5, 8)]) (σ' := M11_66 σ) d_X11_init_256 okX5 okD5 nw_X11_35 rfl rfl rfl ⟨Nat.le_of_ble_eq_true rfl, Nat.le_of_ble_eq_true rfl⟩ ?_
  refine E_dupT d_X11_init_259 (by decide) ?_
  refine E_iI (as := []) (st := [(2, 92), (0, 1), (2, 39)]) (a := 92) (sh' := [(11, 20), (38, 4), (22, 900), (7, 12), (21, 23), (9, 16), (20, 10), (20, 10), (20, 10), (20, 10), (21, 10), (20, 4), (23, 4), (21, 4), (5, 8), (20, 60), (20, 60), (20, 60), (20, 60), (20, 60), (10, 3), (9, 16), (20, 10), (20, 10), (20, 10), (20, 10), (21, 10), (20, 4), (23, 4), (21, 4), (6, 6), (5, 8), (20, 60), (20, 60), (20, 60), (20, 60), (20, 60), (20, 3), (39, 3), (35, 3), (4, 10), (20, 60), (9, 16), (20, 10), (20, 10), (20, 10), (20, 10), (21, 10), (20, 4), (23, 4), (21, 4), (4, 10), (20, 60), (3, 4), (0, 10), (20, 6), (23, 6), (20, 6), (1, 5), (2, 2), (8, 3), (21, 60), (8, 3), (21, 60), (8, 3), (21, 60), (8, 3), (21, 60), (9, 16), (20, 10), (20, 10), (20, 10), (20, 10), (21, 10), (20, 4), (23, 4), (21, 4), (5, 8), (20, 60), (20, 60), (20, 60), (20, 60), (20, 60), (9, 16), (20, 10), (20, 10), (20, 10), (20, 10), (21, 10), (20, 4), (23, 4), (21, 4), (5, 8), (20, 60), (20, 60), (20, 60), (20, 60), (20, 60)]) (σ' := M11_67 σ) d_X11_init_260 mk_X5_init nl_X11_37 (by decide) ⟨rfl, rfl, Nat.le_of_ble_eq_true rfl⟩ (by decide) (C_X5_init rfl rfl) ⟨Nat.le_of_ble_eq_true rfl, Nat.le_of_ble_eq_true rfl, Nat.le_of_ble_eq_true rfl, Nat.le_of_ble_eq_true rfl⟩ ?_
  refine E_aastD (σ' := M11_68 σ) d_X11_init_263 (Or.inl ⟨rfl, rfl, rfl⟩) okX5 rfl rfl rfl ?_
  refine E_iincD (y := 2) d_X11_init_264 (ls' := [(2, 0), (0, 2)]) rfl (by decide +kernel) ⟨by decide, rfl⟩ ?_
  refine E_goto (tgt := 233) d_X11_init_267 (by decide) ?_
  refine E_iload_n d_X11_init_233 rfl ?_
  refine E_iconst d_X11_init_234 (c32 rfl) ?_
  refine E_icmpge_f (tgt := 270) d_X11_init_235 (by decide) (by decide) ?_
  refine E_aload_n d_X11_init_238 rfl (by decide) ?_
  refine E_getD (x := 38) d_X11_init_239 okX11 fc_X11_60 ⟨by decide, rfl⟩ rfl rfl ?_
  refine E_iload_n d_X11_init_242 rfl ?_
  refine E_newD (n := 98) (sh' := [(11, 20), (38, 4), (22, 900), (7, 12), (21, 23), (9, 16), (20, 10), (20, 10), (20, 10), (20, 10), (21, 10), (20, 4), (23, 4), (21, 4), (5, 8), (20, 60), (20, 60), (20, 60), (20, 60), (20, 60), (10, 3), (9, 16), (20, 10), (20, 10), (20, 10), (20, 10), (21, 10), (20, 4), (23, 4), (21, 4), (6, 6), (5, 8), (20, 60), (20, 60), (20, 60), (20, 60), (20, 60), (20, 3), (39, 3), (35, 3), (4, 10), (20, 60), (9, 16), (20, 10), (20, 10), (20, 10), (20, 10), (21, 10), (20, 4), (23, 4), (21, 4), (4, 10), (20, 60), (3, 4), (0, 10), (20, 6), (23, 6), (20, 6), (1, 5), (2, 2), (8, 3), (21, 60), (8, 3), (21, 60), (8, 3), (21, 60), (8, 3), (21, 60), (9, 16), (20, 10), (20, 10), (20, 10), (20, 10), (21, 10), (20, 4), (23, 4), (21, 4), (5, 8), (20, 60), (20, 60), (20, 60), (20, 60), (20, 60), (9, 16), (20, 10), (20, 10), (20, 10), (20, 10), (21, 10), (20, 4), (23, 4), (21, 4), (5, 8), (20, 60), (20, 60), (20, 60), (20, 60), (20, 60), (9, 16)]) (σ' := M11_69 σ) d_X11_init_243 okX9 okD9 nw_X11_28 rfl rfl rfl ⟨Nat.le_of_ble_eq_true rfl, Nat.le_of_ble_eq_true rfl⟩ ?_
  refine E_dupT d_X11_init_246 (by decide) ?_
  refine E_iI (as := []) (st := [(2, 98), (0, 2), (2, 38)]) (a := 98) (sh' := [(11, 20), (38, 4), (22, 900), (7, 12), (21, 23), (9, 16), (20, 10), (20, 10), (20, 10), (20, 10), (21, 10), (20, 4), (23, 4), (21, 4), (5, 8), (20, 60), (20, 60), (20, 60), (20, 60), (20, 60), (10, 3), (9, 16), (20, 10), (20, 10), (20, 10), (20, 10), (21, 10), (20, 4), (23, 4), (21, 4), (6, 6), (5, 8), (20, 60), (20, 60), (20, 60), (20, 60), (20, 60), (20, 3), (39, 3), (35, 3), (4, 10), (20, 60), (9, 16), (20, 10), (20, 10), (20, 10), (20, 10), (21, 10), (20, 4), (23, 4), (21, 4), (4, 10), (20, 60), (3, 4), (0, 10), (20, 6), (23, 6), (20, 6), (1, 5), (2, 2), (8, 3), (21, 60), (8, 3), (21, 60), (8, 3), (21, 60), (8, 3), (21, 60), (9, 16), (20, 10), (20, 10), (20, 10), (20, 10), (21, 10), (20, 4), (23, 4), (21, 4), (5, 8), (20, 60), (20, 60), (20, 60), (20, 60), (20, 60), (9, 16), (20, 10), (20, 10), (20, 10), (20, 10), (21, 10), (20, 4), (23, 4), (21, 4), (5, 8), (20, 60), (20, 60), (20, 60), (20, 60), (20, 60), (9, 16), (20, 10), (20, 10), (20, 10), (20, 10), (21, 10), (20, 4), (23, 4), (21, 4)]) (σ' := M11_70 σ) d_X11_init_247 mk_X9_init nl_X11_30 (by decide) ⟨rfl, rfl, Nat.le_of_ble_eq_true rfl⟩ (by decide) (C_X9_init rfl rfl) ⟨Nat.le_of_ble_eq_true rfl, Nat.le_of_ble_eq_true rfl, Nat.le_of_ble_eq_true rfl, Nat.le_of_ble_eq_true rfl⟩ ?_
  refine E_aastD (σ' := M11_71 σ) d_X11_init_250 (Or.inr (Or.inr ⟨rfl, rfl, rfl⟩)) okX9 rfl rfl rfl ?_
  refine E_aload_n d_X11_init_251 rfl (by decide) ?_
  refine E_getD (x := 39) d_X11_init_252 okX11 fc_X11_64 ⟨by decide, rfl⟩ rfl rfl ?_
  refine E_iload_n d_X11_init_255 rfl ?_
  refine E_newD (n := 107) (sh' := [(11, 20), (38, 4), (22, 900), (7, 12), (21, 23), (9, 16), (20, 10), (20, 10), (20, 10), (20, 10), (21, 10), (20, 4), (23, 4), (21, 4), (5, 8), (20, 60), (20, 60), (20, 60), (20, 60), (20, 60), (10, 3), (9, 16), (20, 10), (20, 10), (20, 10), (20, 10), (21, 10), (20, 4), (23, 4), (21, 4), (6, 6), (5, 8), (20, 60), (20, 60), (20, 60), (20, 60), (20, 60), (20, 3), (39, 3), (35, 3), (4, 10), (20, 60), (9, 16), (20, 10), (20, 10), (20, 10), (20, 10), (21, 10), (20, 4), (23, 4), (21, 4), (4, 10), (20, 60), (3, 4), (0, 10), (20, 6), (23, 6), (20, 6), (1, 5), (2, 2), (8, 3), (21, 60), (8, 3), (21, 60), (8, 3), (21, 60), (8, 3), (21, 60), (9, 16), (20, 10), (20, 10), (20, 10), (20, 10), (21, 10), (20, 4), (23, 4), (21, 4), (5, 8), (20, 60), (20, 60), (20, 60), (20, 60), (20, 60), (9, 16), (20, 10), (20, 10), (20, 10), (20, 10), (21, 10), (20, 4), (23, 4), (21, 4), (5, 8), (20, 60), (20, 60), (20, 60), (20, 60), (20, 60), (9, 16), (20, 10), (20, 10), (20, 10), (20, 10), (21, 10), (20, 4), (23, 4), (21, 4), (5, 8)]) (σ' := M11_72 σ) d_X11_init_256 okX5 okD5 nw_X11_35 rfl rfl rfl ⟨Nat.le_of_ble_eq_true rfl, Nat.le_of_ble_eq_true rfl⟩ ?_
  refine E_dupT d_X11_init_259 (by decide) ?_
  refine E_iI (as := []) (st := [(2, 107), (0, 2), (2, 39)]) (a := 107) (sh' := [(11, 20), (38, 4), (22, 900), (7, 12), (21, 23), (9, 16), (20, 10), (20, 10), (20, 10), (20, 10), (21, 10), (20, 4), (23, 4), (21, 4), (5, 8), (20, 60), (20, 60), (20, 60), (20, 60), (20, 60), (10, 3), (9, 16), (20, 10), (20, 10), (20, 10), (20, 10), (21, 10), (20, 4), (23, 4), (21, 4), (6, 6), (5, 8), (20, 60), (20, 60), (20, 60), (20, 60), (20, 60), (20, 3), (39, 3), (35, 3), (4, 10), (20, 60), (9, 16), (20, 10), (20, 10), (20, 10), (20, 10), (21, 10), (20, 4), (23, 4), (21, 4), (4, 10), (20, 60), (3, 4), (0, 10), (20, 6), (23, 6), (20, 6), (1, 5), (2, 2), (8, 3), (21, 60), (8, 3), (21, 60), (8, 3), (21, 60), (8, 3), (21, 60), (9, 16), (20, 10), (20, 10), (20, 10), (20, 10), (21, 10), (20, 4), (23, 4), (21, 4), (5, 8), (20, 60), (20, 60), (20, 60), (20, 60), (20, 60), (9, 16), (20, 10), (20, 10), (20, 10), (20, 10), (21, 10), (20, 4), (23, 4), (21, 4), (5, 8), (20, 60), (20, 60), (20, 60), (20, 60), (20, 60), (9, 16), (20, 10), (20, 10), (20, 10), (20, 10), (21, 10), (20, 4), (23, 4), (21, 4), (5, 8), (20, 60), (20, 60), (20, 60), (20, 60), (20, 60)]) (σ' := M11_73 σ) d_X11_init_260 mk_X5_init nl_X11_37 (by decide) ⟨rfl, rfl, Nat.le_of_ble_eq_true rfl⟩ (by decide) (C_X5_init rfl rfl) ⟨Nat.le_of_ble_eq_true rfl, Nat.le_of_ble_eq_true rfl, Nat.le_of_ble_eq_true rfl, Nat.le_of_ble_eq_true rfl⟩ ?_
  refine E_aastD (σ' := M11_74 σ) d_X11_init_263 (Or.inl ⟨rfl, rfl, rfl⟩) okX5 rfl rfl rfl ?_
  refine E_iincD (y := 3) d_X11_init_264 (ls' := [(2, 0), (0, 3)]) rfl (by decide +kernel) ⟨by decide, rfl⟩ ?_
  refine E_goto (tgt := 233) d_X11_init_267 (by decide) ?_
  refine E_iload_n d_X11_init_233 rfl ?_
  refine E_iconst d_X11_init_234 (c32 rfl) ?_
  refine E_icmpge_t (tgt := 270) d_X11_init_235 (by decide) (by decide) ?_
  exact E_vret d_X11_init_270 rfl
