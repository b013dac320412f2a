/-! ===== Text's constructor: the words' numbers, out of the text constant ===== -/
theorem kx_X7_38 : Cond.constantLong "ParapetCourt$Text" 38 (Int64.ofInt 27) ∈ lw_tbl ∧ R64 27 := ⟨tb_1 _ (List.mem_of_getElem? (i := 86) (by decide +kernel)), ⟨by decide, by decide⟩⟩
/-- behind i letters of the text: which word it is, the words' numbers so far -/
def txT : Nat → Int × List Int
  | 0 => (0, List.replicate 23 0)
  | i + 1 => if txC i = 32 then (w32 ((txT i).1 + 1), (txT i).2) else ((txT i).1, (txT i).2.set (txT i).1.toNat (w64 (w64 ((txT i).2.getD (txT i).1.toNat 0 * 27) + w32 (w32 (txC i - 97) + 1))))
def txK : List Int := [298288, 10502357, 4728411767, 267346, 283623667, 5146, 72599, 419, 4797, 488582165, 495765, 15091, 223456, 4284854, 1834209, 4723, 1132, 458690, 11055682, 283288069, 247552, 4027, 388978]
theorem txT_end : (txT 120).2 = txK := by decide +kernel
theorem txT_k : ∀ i, i < 121 → 0 ≤ (txT i).1 ∧ (txT i).1 < 23 ∧ (txT i).2.length = 23 := by decide +kernel
/-- a cell's contents put in -/
def seA (σ : Mem) (n : Nat) (l : List Int) : Mem := fun b j => if b = n then l.getD j 0 else σ b j
theorem seA_up {σ : Mem} {n : Nat} {l : List Int} {k : Nat} {v : Int} (hk : k < l.length) : upm (seA σ n l) n k v = seA σ n (l.set k v) := by
  funext b j
  unfold upm seA
  by_cases hb : b = n
  · subst hb
    by_cases hj : j = k
    · subst hj
      simp [hk]
    · simp only [hj, and_false, if_false, if_true]
      simp [List.getD_eq_getElem?_getD, List.getElem?_set_ne (fun q => hj q.symm)]
  · simp [hb]
def I_X7p (σ : Mem) (n : Nat) (a b1 : Int) : Mem := upm (upm (upm (upm (nwm σ n 21) a.toNat 1 (n : Int)) a.toNat 10 (-1)) a.toNat 11 (-1)) a.toNat 0 b1
def I_X7_init (σ : Mem) (n : Nat) (a b1 : Int) : Mem := seA (I_X7p σ n a b1) n txK
theorem X7_loop {sc : Nat × (Nat → Int32)} {sh : Shp} {σ : Mem} {a b1 : Int} (h : isO sh 7 a = true) : ∀ (m i : Nat), i + m = 120 → E sc (Fm sh none (sh ++ [(21, 23)]) (I_X7_init σ sh.length a b1)) mt_X7_init 6 sh (sh ++ [(21, 23)]) 31 [(2, a), (2, b1), (0, (txT i).1), (0, (i : Int)), (9, 0)] [] (sh ++ [(21, 23)]) (seA (I_X7p σ sh.length a b1) sh.length (txT i).2) := by
  have ha : isO (sh ++ [(21, 23)]) 7 a = true := isO_app h
  have hane : a.toNat ≠ sh.length := by
    obtain ⟨_, h1⟩ := isO_iff.mp h
    have := (List.getElem?_eq_some_iff.mp h1).1
    omega
  intro m
  induction m with
  | zero =>
    intro i hi
    have hi : i = 120 := by omega
    subst hi
    rw [txT_end]
    refine E_iload_n d_X7_init_31 rfl ?_
    refine E_ldcT d_X7_init_32 rfl ?_
    refine E_invT (as := []) (st := [(0, ((120 : Nat) : Int))]) (a := 0) d_X7_init_34 mk_JS_length wj_X7_28 (by decide) ⟨rfl, rfl, Nat.le_of_ble_eq_true rfl⟩ rfl C_JS_length ?_
    refine E_icmpge_t (tgt := 98) d_X7_init_37 (by decide) (by decide) ?_
    exact E_vret d_X7_init_98 rfl
  | succ m ih =>
    intro i hi
    obtain ⟨k0, k1, k2⟩ := txT_k i (by omega)
    have hstep := ih (i + 1) (by omega)
    have hi32 : w32 ((i : Int) + 1) = ((i + 1 : Nat) : Int) := by rw [w32_in (by omega) (by omega)]; omega
    have kkey : seA (I_X7p σ sh.length a b1) sh.length (txT i).2 a.toNat 1 = (sh.length : Int) := by
      unfold seA I_X7p
      simp [upm, hane]
    have hA : isA (sh ++ [(21, 23)]) 21 (sh.length : Int) (txT i).1 = true := isA_iff.mpr ⟨by omega, 23, by rw [Int.toNat_natCast, List.getElem?_append_right (Nat.le_refl _), Nat.sub_self]; rfl, k0, by omega⟩
    refine E_iload_n d_X7_init_31 rfl ?_
    refine E_ldcT d_X7_init_32 rfl ?_
    refine E_invT (as := []) (st := [(0, (i : Int))]) (a := 0) d_X7_init_34 mk_JS_length wj_X7_28 (by decide) ⟨rfl, rfl, Nat.le_of_ble_eq_true rfl⟩ rfl C_JS_length ?_
    refine E_icmpge_f (tgt := 98) d_X7_init_37 (by decide) (by omega) ?_
    refine E_iload_n d_X7_init_40 rfl ?_
    refine E_bipush d_X7_init_41 (c8 rfl) ?_
    refine E_icmpge_f (tgt := 98) d_X7_init_43 (by decide) (by omega) ?_
    refine E_ldcT d_X7_init_46 rfl ?_
    refine E_iload_n d_X7_init_48 rfl ?_
    refine E_invT (as := [(0, (i : Int))]) (st := []) (a := 0) d_X7_init_49 mk_JS_charAt wj_X7_34 (by decide) ⟨rfl, rfl, Nat.le_of_ble_eq_true rfl⟩ rfl (C_JS_charAt ⟨by omega, by omega⟩) ?_
    refine E_istore d_X7_init_52 (ls' := [(2, a), (2, b1), (0, (txT i).1), (0, (i : Int)), (0, txC i)]) ⟨by decide, rfl⟩ ?_
    refine E_iload d_X7_init_54 rfl ?_
    refine E_bipush d_X7_init_56 (c8 rfl) ?_
    by_cases hc : txC i = 32
    · have e1 : txT (i + 1) = (w32 ((txT i).1 + 1), (txT i).2) := by
        show (if txC i = 32 then _ else _) = _
        rw [if_pos hc]
      rw [e1] at hstep
      refine E_icmpne_f (tgt := 67) d_X7_init_58 (by decide) hc ?_
      refine E_iinc d_X7_init_61 (ls' := [(2, a), (2, b1), (0, w32 ((txT i).1 + 1)), (0, (i : Int)), (0, txC i)]) rfl ⟨by decide, rfl⟩ ?_
      refine E_goto (tgt := 92) d_X7_init_64 (by decide) ?_
      refine E_iincD d_X7_init_92 (ls' := [(2, a), (2, b1), (0, w32 ((txT i).1 + 1)), (0, ((i + 1 : Nat) : Int)), (0, txC i)]) rfl hi32 ⟨by decide, rfl⟩ ?_
      refine E_goto (tgt := 31) d_X7_init_95 (by decide) ?_
      exact E_weak (ls' := [(2, a), (2, b1), (0, w32 ((txT i).1 + 1)), (0, ((i + 1 : Nat) : Int)), (9, 0)]) ⟨Or.inr rfl, Or.inr rfl, Or.inr rfl, Or.inr rfl, Or.inl rfl, trivial⟩ hstep
    · have e1 : txT (i + 1) = ((txT i).1, (txT i).2.set (txT i).1.toNat (w64 (w64 ((txT i).2.getD (txT i).1.toNat 0 * 27) + w32 (w32 (txC i - 97) + 1)))) := by
        show (if txC i = 32 then _ else _) = _
        rw [if_neg hc]
      rw [e1] at hstep
      refine E_icmpne_t (tgt := 67) d_X7_init_58 (by decide) hc ?_
      refine E_aload_n d_X7_init_67 rfl (by decide) ?_
      refine E_getD d_X7_init_68 okX7 fc_X7_9 ⟨by decide, rfl⟩ ha kkey ?_
      refine E_iload_n d_X7_init_71 rfl ?_
      refine E_aload_n d_X7_init_72 rfl (by decide) ?_
      refine E_getD d_X7_init_73 okX7 fc_X7_9 ⟨by decide, rfl⟩ ha kkey ?_
      refine E_iload_n d_X7_init_76 rfl ?_
      refine E_laldD (x := (txT i).2.getD (txT i).1.toNat 0) d_X7_init_77 hA (by unfold seA; rw [Int.toNat_natCast, if_pos rfl]) ?_
      refine E_ldc2 d_X7_init_78 kx_X7_38 ?_
      refine E_lmul d_X7_init_81 ?_
      refine E_iload d_X7_init_82 rfl ?_
      refine E_bipush d_X7_init_84 (c8 rfl) ?_
      refine E_isub d_X7_init_86 ?_
      refine E_iconst d_X7_init_87 (c32 rfl) ?_
      refine E_iadd d_X7_init_88 ?_
      refine E_i2l d_X7_init_89 ?_
      refine E_ladd d_X7_init_90 ?_
      refine E_lastD (σ' := seA (I_X7p σ sh.length a b1) sh.length ((txT i).2.set (txT i).1.toNat (w64 (w64 ((txT i).2.getD (txT i).1.toNat 0 * 27) + w32 (w32 (txC i - 97) + 1))))) d_X7_init_91 hA (by rw [Int.toNat_natCast]; exact seA_up (by omega)) ?_
      refine E_iincD d_X7_init_92 (ls' := [(2, a), (2, b1), (0, (txT i).1), (0, ((i + 1 : Nat) : Int)), (0, txC i)]) rfl hi32 ⟨by decide, rfl⟩ ?_
      refine E_goto (tgt := 31) d_X7_init_95 (by decide) ?_
      exact E_weak (ls' := [(2, a), (2, b1), (0, (txT i).1), (0, ((i + 1 : Nat) : Int)), (9, 0)]) ⟨Or.inr rfl, Or.inr rfl, Or.inr rfl, Or.inr rfl, Or.inl rfl, trivial⟩ hstep
theorem C_X7_init {sh : Shp} {σ : Mem} {n : Nat} {a b1 : Int} (hn : n = sh.length) (h : isO sh 7 a = true) : Cn mt_X7_init 6 [(2, a), (2, b1)] sh σ none (sh ++ [(21, 23)]) (I_X7_init σ n a b1) := by
  subst hn
  have ha : isO (sh ++ [(21, 23)]) 7 a = true := isO_app h
  refine Cn_of mk_X7_init.1.2.2.1 (Nat.le_of_ble_eq_true rfl) (fun sc => ?_)
  show E sc _ _ _ _ _ 0 [(2, a), (2, b1), (9, 0), (9, 0), (9, 0)] [] sh σ
  refine E_aload_n d_X7_init_0 rfl (by decide) ?_
  refine E_objinit d_X7_init_1 ow_X7 ⟨isO_nn h, by decide, Nat.le_of_ble_eq_true rfl⟩ ?_
  refine E_aload_n d_X7_init_4 rfl (by decide) ?_
  refine E_bipush d_X7_init_5 (c8 rfl) ?_
  refine E_newarrD (n := sh.length) (N := 23) (sh' := sh ++ [(21, 23)]) (σ' := nwm σ sh.length 21) d_X7_init_7 rfl aw_long (Or.inr (Or.inl ⟨rfl, rfl, rfl⟩)) ⟨rfl, by decide⟩ rfl rfl rfl ⟨by simp, by simp only [tot_new]; omega⟩ ?_
  refine E_putD (σ' := upm (nwm σ sh.length 21) a.toNat 1 (sh.length : Int)) d_X7_init_9 okX7 fc_X7_9 ⟨by decide, rfl⟩ (Or.inr (Or.inr (Or.inr (Or.inr ⟨⟨_, rfl⟩, rfl⟩)))) (Or.inr ⟨rfl, rfl, rfl, fc_X7_9_w⟩) ha rfl ?_
  refine E_aload_n d_X7_init_12 rfl (by decide) ?_
  refine E_iconst d_X7_init_13 (c32 rfl) ?_
  refine E_putD (σ' := upm (upm (nwm σ sh.length 21) a.toNat 1 (sh.length : Int)) a.toNat 10 (-1)) d_X7_init_14 okX7 fc_X7_15 ⟨by decide, rfl⟩ (Or.inl ⟨rfl, rfl⟩) (Or.inl rfl) ha rfl ?_
  refine E_aload_n d_X7_init_17 rfl (by decide) ?_
  refine E_iconst d_X7_init_18 (c32 rfl) ?_
  refine E_putD (σ' := upm (upm (upm (nwm σ sh.length 21) a.toNat 1 (sh.length : Int)) a.toNat 10 (-1)) a.toNat 11 (-1)) d_X7_init_19 okX7 fc_X7_19 ⟨by decide, rfl⟩ (Or.inl ⟨rfl, rfl⟩) (Or.inl rfl) ha rfl ?_
  refine E_aload_n d_X7_init_22 rfl (by decide) ?_
  refine E_aload_n d_X7_init_23 rfl (by decide) ?_
  refine E_putD (σ' := I_X7p σ sh.length a b1) d_X7_init_24 okX7 fc_X7_22 ⟨by decide, rfl⟩ (Or.inr (Or.inr (Or.inr (Or.inr ⟨⟨_, rfl⟩, rfl⟩)))) (Or.inr ⟨rfl, rfl, rfl, fc_X7_22_w⟩) ha rfl ?_
  refine E_iconst d_X7_init_27 (c32 rfl) ?_
  refine E_istore_n d_X7_init_28 (ls' := [(2, a), (2, b1), (0, 0), (9, 0), (9, 0)]) ⟨by decide, rfl⟩ ?_
  refine E_iconst d_X7_init_29 (c32 rfl) ?_
  refine E_istore_n d_X7_init_30 (ls' := [(2, a), (2, b1), (0, 0), (0, 0), (9, 0)]) ⟨by decide, rfl⟩ ?_
  have e0 : seA (I_X7p σ sh.length a b1) sh.length (txT 0).2 = I_X7p σ sh.length a b1 := by
    have hane : ¬ sh.length = a.toNat := by
      obtain ⟨_, h1⟩ := isO_iff.mp h
      have := (List.getElem?_eq_some_iff.mp h1).1
      omega
    funext b j
    unfold seA
    by_cases hb : b = sh.length
    · subst hb
      rw [if_pos rfl]
      have h0 : (txT 0).2.getD j 0 = 0 := by
        show (List.replicate 23 (0 : Int)).getD j 0 = 0
        rw [List.getD_eq_getElem?_getD, List.getElem?_replicate]
        split <;> rfl
      rw [h0]
      simp [I_X7p, upm, hane, nwm, ktag]
    · rw [if_neg hb]
  have key := X7_loop (sc := sc) (σ := σ) (b1 := b1) h 120 0 rfl
  rw [e0] at key
  exact key
