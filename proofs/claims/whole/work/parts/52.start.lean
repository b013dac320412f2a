set_option maxRecDepth 20000 in
theorem nz_L_9 : NL "ParapetCourtLaw" 9 mt_X11_init.1 := Or.inl (tb_1 _ (List.mem_of_getElem? (i := 23) rfl))
set_option maxRecDepth 20000 in
theorem nz_L_12 : NL "ParapetCourtLaw" 12 mt_X12_init.1 := Or.inl (tb_6 _ (List.mem_of_getElem? (i := 127) rfl))
set_option maxRecDepth 20000 in
theorem tw_str : Cond.stringRef "ParapetCourt$Text" 26 txS ∈ lw_tbl := tb_1 _ (List.mem_of_getElem? (i := 37) rfl)
set_option maxRecDepth 20000 in
theorem tw_ls : Cond.laysStatic "java/lang/String" "COMPACT_STRINGS" "Z" ∈ lw_tbl := tb_1 _ (List.mem_of_getElem? (i := 47) rfl)
set_option maxRecDepth 20000 in
theorem tw_lf : Cond.laysStatic "jdk/internal/util/Preconditions" "SIOOBE_FORMATTER" "Ljava/util/function/BiFunction;" ∈ lw_tbl := tb_1 _ (List.mem_of_getElem? (i := 63) rfl)
set_option maxRecDepth 20000 in
theorem tw_a35 : Cond.arrayOver (.object RX5) ∈ lw_tbl := tb_2 _ (List.mem_of_getElem? (i := 67) rfl)
set_option maxRecDepth 20000 in
theorem tw_a38 : Cond.arrayOver (.object RX8) ∈ lw_tbl := tb_1 _ (List.mem_of_getElem? (i := 30) rfl)
set_option maxRecDepth 20000 in
theorem tw_a39 : Cond.arrayOver (.object RX9) ∈ lw_tbl := tb_2 _ (List.mem_of_getElem? (i := 66) rfl)
set_option maxRecDepth 20000 in
theorem tw_i0 : Cond.instantiable RX0 10 ∈ lw_tbl := tb_2 _ (List.mem_of_getElem? (i := 135) rfl)
set_option maxRecDepth 20000 in
theorem tw_i1 : Cond.instantiable RX1 5 ∈ lw_tbl := tb_2 _ (List.mem_of_getElem? (i := 173) rfl)
set_option maxRecDepth 20000 in
theorem tw_i2 : Cond.instantiable RX2 2 ∈ lw_tbl := tb_2 _ (List.mem_of_getElem? (i := 195) rfl)
set_option maxRecDepth 20000 in
theorem tw_i3 : Cond.instantiable RX3 4 ∈ lw_tbl := tb_2 _ (List.mem_of_getElem? (i := 112) rfl)
set_option maxRecDepth 20000 in
theorem tw_i4 : Cond.instantiable RX4 10 ∈ lw_tbl := tb_2 _ (List.mem_of_getElem? (i := 69) rfl)
set_option maxRecDepth 20000 in
theorem tw_i5 : Cond.instantiable RX5 8 ∈ lw_tbl := tb_1 _ (List.mem_of_getElem? (i := 218) rfl)
set_option maxRecDepth 20000 in
theorem tw_i6 : Cond.instantiable RX6 6 ∈ lw_tbl := tb_2 _ (List.mem_of_getElem? (i := 39) rfl)
set_option maxRecDepth 20000 in
theorem tw_i7 : Cond.instantiable RX7 12 ∈ lw_tbl := tb_1 _ (List.mem_of_getElem? (i := 32) rfl)
set_option maxRecDepth 20000 in
theorem tw_i8 : Cond.instantiable RX8 3 ∈ lw_tbl := tb_2 _ (List.mem_of_getElem? (i := 209) rfl)
set_option maxRecDepth 20000 in
theorem tw_i9 : Cond.instantiable RX9 16 ∈ lw_tbl := tb_1 _ (List.mem_of_getElem? (i := 134) rfl)
set_option maxRecDepth 20000 in
theorem tw_i10 : Cond.instantiable RX10 3 ∈ lw_tbl := tb_2 _ (List.mem_of_getElem? (i := 20) rfl)
set_option maxRecDepth 20000 in
theorem tw_i11 : Cond.instantiable RX11 20 ∈ lw_tbl := tb_1 _ (List.mem_of_getElem? (i := 22) rfl)
set_option maxRecDepth 20000 in
theorem tw_i12 : Cond.instantiable RX12 45 ∈ lw_tbl := tb_6 _ (List.mem_of_getElem? (i := 126) rfl)
/-- what holds at the law's entry -/
def lw_At (p : Program) (s : State) (m : MethodId) (meth : Method) (c : Code) (b L : Nat) (xs : Nat → Int32) : Prop :=
  p.tables.exec = Jvm.exec ∧ c.code = code ∧ meth.sig.returnType = ret ∧ c.maxLocals = 4 ∧ s.vm.findClass R_law = some m.cls ∧ (∀ w ∈ lw_tbl, w.before #[Value.ref b] s = true) ∧ va_X b L xs s s.heap ∧ b < s.heap.size ∧ meth.locks = false ∧ (Jvm.Cond.and given_1 narrow_1).before #[Value.ref b] s = true ∧ meth.name = "law"
theorem lw_arr {s : State} {args : Array Value} {ty : FieldType} (h : (Cond.arrayClass ty).before args s = true) : ∃ cA : ClassId, ArrOfT s cA ty ∧ s.vm.findClass ("[" ++ ty.toString) = some cA := by
  obtain ⟨cA, kA, comp, h1, h2, h3⟩ := Cond.arrayClass_spec h
  exact ⟨cA, fun n z => ⟨fun k h => (by cases h), kA, h2, comp, h3⟩, h1⟩
theorem lw_over {s : State} {args : Array Value} {C : String} (h : (Cond.arrayOver (.object C)).before args s = true) : ∃ cA : ClassId, ArrOfT s cA (.object C) ∧ va_RA s cA (.object C) := by
  obtain ⟨comp, c, k, h1, -, h2, h3, h4⟩ := Cond.arrayOver_spec h
  exact ⟨c, fun n z => ⟨fun k h => (by cases h), k, h2, comp, h3⟩, k, comp, h2, h3, h1, h4⟩

theorem lw_K {s : State} {b : Nat} (hts : ∀ w ∈ lw_tbl, w.before #[Value.ref b] s = true) : ∃ (D : va_G) (cA : Nat → ClassId), va_K D clX (tyX cA) s := by
  have hB : TB s := TB.of hts
  obtain ⟨c0, i0, k0⟩ := u_known (C := RX0) (T := TX0) (N := 10) (n := 10) (okX0.hts hB (args := #[Value.ref b])) (fun w h => h) (hts _ tw_i0)
  obtain ⟨c1, i1, k1⟩ := u_known (C := RX1) (T := TX1) (N := 5) (n := 5) (okX1.hts hB (args := #[Value.ref b])) (fun w h => h) (hts _ tw_i1)
  obtain ⟨c2, i2, k2⟩ := u_known (C := RX2) (T := TX2) (N := 2) (n := 2) (okX2.hts hB (args := #[Value.ref b])) (fun w h => h) (hts _ tw_i2)
  obtain ⟨c3, i3, k3⟩ := u_known (C := RX3) (T := TX3) (N := 4) (n := 4) (okX3.hts hB (args := #[Value.ref b])) (fun w h => h) (hts _ tw_i3)
  obtain ⟨c4, i4, k4⟩ := u_known (C := RX4) (T := TX4) (N := 10) (n := 10) (okX4.hts hB (args := #[Value.ref b])) (fun w h => h) (hts _ tw_i4)
  obtain ⟨c5, i5, k5⟩ := u_known (C := RX5) (T := TX5) (N := 8) (n := 8) (okX5.hts hB (args := #[Value.ref b])) (fun w h => h) (hts _ tw_i5)
  obtain ⟨c6, i6, k6⟩ := u_known (C := RX6) (T := TX6) (N := 6) (n := 6) (okX6.hts hB (args := #[Value.ref b])) (fun w h => h) (hts _ tw_i6)
  obtain ⟨c7, i7, k7⟩ := u_known (C := RX7) (T := TX7) (N := 12) (n := 12) (okX7.hts hB (args := #[Value.ref b])) (fun w h => h) (hts _ tw_i7)
  obtain ⟨c8, i8, k8⟩ := u_known (C := RX8) (T := TX8) (N := 3) (n := 3) (okX8.hts hB (args := #[Value.ref b])) (fun w h => h) (hts _ tw_i8)
  obtain ⟨c9, i9, k9⟩ := u_known (C := RX9) (T := TX9) (N := 16) (n := 16) (okX9.hts hB (args := #[Value.ref b])) (fun w h => h) (hts _ tw_i9)
  obtain ⟨c10, i10, k10⟩ := u_known (C := RX10) (T := TX10) (N := 3) (n := 3) (okX10.hts hB (args := #[Value.ref b])) (fun w h => h) (hts _ tw_i10)
  obtain ⟨c11, i11, k11⟩ := u_known (C := RX11) (T := TX11) (N := 20) (n := 20) (okX11.hts hB (args := #[Value.ref b])) (fun w h => h) (hts _ tw_i11)
  obtain ⟨c12, i12, k12⟩ := u_known (C := RX12) (T := TX12) (N := 45) (n := 45) (okX12.hts hB (args := #[Value.ref b])) (fun w h => h) (hts _ tw_i12)
  obtain ⟨a20, b20, d20⟩ := lw_arr (hts _ aw_int)
  obtain ⟨a21, b21, d21⟩ := lw_arr (hts _ aw_long)
  obtain ⟨a22, b22, d22⟩ := lw_arr (hts _ aw_byte)
  obtain ⟨a23, b23, d23⟩ := lw_arr (hts _ aw_boolean)
  obtain ⟨a35, b35, d35⟩ := lw_over (hts _ tw_a35)
  obtain ⟨a38, b38, d38⟩ := lw_over (hts _ tw_a38)
  obtain ⟨a39, b39, d39⟩ := lw_over (hts _ tw_a39)
  refine ⟨(fun k => if k = 0 then c0 else if k = 1 then c1 else if k = 2 then c2 else if k = 3 then c3 else if k = 4 then c4 else if k = 5 then c5 else if k = 6 then c6 else if k = 7 then c7 else if k = 8 then c8 else if k = 9 then c9 else if k = 10 then c10 else if k = 11 then c11 else c12, fun k => if k = 0 then i0 else if k = 1 then i1 else if k = 2 then i2 else if k = 3 then i3 else if k = 4 then i4 else if k = 5 then i5 else if k = 6 then i6 else if k = 7 then i7 else if k = 8 then i8 else if k = 9 then i9 else if k = 10 then i10 else if k = 11 then i11 else i12), fun k => if k = 20 then a20 else if k = 21 then a21 else if k = 22 then a22 else if k = 23 then a23 else if k = 35 then a35 else if k = 38 then a38 else a39, ?_, ?_⟩
  · intro k q hq
    match k, hq with
    | 0, hq => cases hq; exact k0
    | 1, hq => cases hq; exact k1
    | 2, hq => cases hq; exact k2
    | 3, hq => cases hq; exact k3
    | 4, hq => cases hq; exact k4
    | 5, hq => cases hq; exact k5
    | 6, hq => cases hq; exact k6
    | 7, hq => cases hq; exact k7
    | 8, hq => cases hq; exact k8
    | 9, hq => cases hq; exact k9
    | 10, hq => cases hq; exact k10
    | 11, hq => cases hq; exact k11
    | 12, hq => cases hq; exact k12
    | k + 13, hq => simp [clX] at hq
  · intro k q hq
    match k, hq with
    | 0, hq => cases hq; exact ⟨b20, d20⟩
    | 1, hq => cases hq; exact ⟨b21, d21⟩
    | 2, hq => cases hq; exact ⟨b22, d22⟩
    | 3, hq => cases hq; exact ⟨b23, d23⟩
    | 4, hq => cases hq; exact ⟨b35, d35⟩
    | 5, hq => cases hq; exact ⟨b38, d38⟩
    | 6, hq => cases hq; exact ⟨b39, d39⟩
    | k + 7, hq => simp [tyX] at hq
/-- the text's bytes, as the Statement tells them one by one -/
theorem lw_bytes : ∀ j, j < 120 → (Cond.eq (.elem (.field (.string "ParapetCourt$Text" 26) "java/lang/String" "value" "[B") (.int (Int32.ofNat j))) (.int (txB.getD j 0))) ∈ flatC (Jvm.Cond.and given_1 narrow_1) := by decide +kernel
theorem lw_EV {s : State} {b L : Nat} {xs : Nat → Int32} (hts : ∀ w ∈ lw_tbl, w.before #[Value.ref b] s = true) (hX : va_X b L xs s s.heap) (hbl : b < s.heap.size) (hgv : (Jvm.Cond.and given_1 narrow_1).before #[Value.ref b] s = true) : ∃ z : Ats, z.1 = b ∧ EV (L, xs) z (fun q => s.heap.size ≤ q) s := by
  have hs := flat_of_before _ hgv
  have hA : ∀ a : Nat, a < s.heap.size → ¬ (fun q => s.heap.size ≤ q) a := fun a h => Nat.not_le.mpr h
  obtain ⟨adK, adV, hS, hev⟩ := vk_Sof (args := #[Value.ref b]) (s := s) (N := 1) (tm := fun _ => .string "ParapetCourt$Text" 26) (len := [120]) (byt := [txB]) (A := fun q => s.heap.size ≤ q)
    (fun i hi => by rw [show i = 0 by omega]; decide)
    (fun i hi => hs _ (by decide +kernel)) (fun i hi => hs _ (by decide +kernel)) (fun i hi => hs _ (by decide +kernel))
    (fun i hi => by rw [show i = 0 by omega]; exact hs _ (by decide +kernel))
    (fun i hi j hj => by
      have h0 : i = 0 := by omega
      subst h0
      exact hs _ (lw_bytes j hj))
    (fun i j hi hj hij => absurd (show i = j by omega) hij) hA
  have hC : va_Z "java/lang/String" "COMPACT_STRINGS" "Z" (.int 1) (fun q => s.heap.size ≤ q) s s.heap := va_Zof (hts _ tw_ls) (hts _ ck_JS.1) (va_eqv (hs _ (by decide +kernel : (Cond.eq (.static "java/lang/String" "COMPACT_STRINGS" "Z") (.int 1)) ∈ flatC (Jvm.Cond.and given_1 narrow_1))) rfl) hA
  have hF : va_Zq "jdk/internal/util/Preconditions" "SIOOBE_FORMATTER" "Ljava/util/function/BiFunction;" (fun q => s.heap.size ≤ q) s s.heap := va_Zqof (hts _ tw_lf) (hts _ ck_JP.1) (hs _ (by decide +kernel)) hA
  have hR : vk_R "ParapetCourt$Text" 26 txS (adK 0) s := vk_R.of (hts _ tw_str) (hev 0 (by omega))
  have hS2 : vk_S 1 [120] [txB] (fun _ => adK 0) (fun _ => adV 0) (fun q => s.heap.size ≤ q) s s.heap := ⟨fun i hi => by rw [show i = 0 by omega]; exact hS.1 0 (by omega), fun i j hi hj _ => by omega⟩
  rcases hF with hF | ⟨t, hF⟩
  · exact ⟨(b, adK 0, adV 0, none), rfl, ⟨hX, hbl, Nat.not_le.mpr hbl⟩, hR, hS2, hC, hF⟩
  · exact ⟨(b, adK 0, adV 0, some t), rfl, ⟨hX, hbl, Nat.not_le.mpr hbl⟩, hR, hS2, hC, hF⟩
theorem wfm_nil {σ : Mem} : wfm [] σ := fun a k n h => by simp at h
set_option maxRecDepth 20000 in
/-- the law from its entry, if its loop's reading answers 1 -/
theorem E_law {sc : Nat × (Nat → Int32)} (hL : (sc.1 : Int) ≤ 2147483647) (hp : f_L_law sc 600 0 113 0 SG = some 1) : E sc FLw mt_L_law 1000 [] Sh 0 [(3, 0), (9, 0), (9, 0), (9, 0)] [] [] (fun _ _ => 0) := by
  refine E_newD (n := 0) (sh' := [(11, 20)]) (σ' := SG0) d_L_law_0 okX11 okD11 nw_L_7 rfl rfl rfl ⟨Nat.le_of_ble_eq_true rfl, Nat.le_of_ble_eq_true rfl⟩ ?_
  refine E_dupT d_L_law_3 (by decide) ?_
  refine E_iI (as := []) (st := [(2, 0)]) (a := 0) (sh' := ShX) (σ' := I_X11_init SG0) d_L_law_4 mk_X11_init nz_L_9 (by decide) ⟨rfl, rfl, Nat.le_of_ble_eq_true rfl⟩ (by decide) C_X11_init ⟨Nat.le_of_ble_eq_true rfl, Nat.le_of_ble_eq_true rfl, Nat.le_of_ble_eq_true rfl, Nat.le_of_ble_eq_true rfl⟩ ?_
  refine E_astore_n d_L_law_7 (ls' := [(3, 0), (2, 0), (9, 0), (9, 0)]) (by decide) ⟨by decide, rfl⟩ ?_
  refine E_newD (n := 113) (sh' := ShX ++ [(12, 45)]) (σ' := SG1) d_L_law_8 okX12 okD12 nw_L_10 rfl rfl rfl ⟨Nat.le_of_ble_eq_true rfl, Nat.le_of_ble_eq_true rfl⟩ ?_
  refine E_dupT d_L_law_11 (by decide) ?_
  refine E_iI (as := []) (st := [(2, 113)]) (a := 113) (sh' := Sh) (σ' := SG) d_L_law_12 mk_X12_init nz_L_12 (by decide) ⟨rfl, rfl, Nat.le_of_ble_eq_true rfl⟩ (by decide) (C_X12_init SG2_ref) ⟨Nat.le_of_ble_eq_true rfl, Nat.le_of_ble_eq_true rfl, Nat.le_of_ble_eq_true rfl, Nat.le_of_ble_eq_true rfl⟩ ?_
  refine E_astore_n d_L_law_15 (ls' := [(3, 0), (2, 0), (2, 113), (9, 0)]) (by decide) ⟨by decide, rfl⟩ ?_
  refine E_iconst d_L_law_16 (c32 rfl) ?_
  refine E_istore_n d_L_law_17 (ls' := [(3, 0), (2, 0), (2, 113), (0, 0)]) ⟨by decide, rfl⟩ ?_
  exact L_L_law hL 600 hp
set_option maxHeartbeats 4000000 in
theorem whole_startA {p : Program} {e : Env} {s : State} {m : MethodId} {below : List Frame} {meth : Method} {c : Code} (l : Launch) {b L : Nat} {xs : Nat → Int32} (hL : L ≤ 3072) (hp : f_L_law (L, xs) 600 0 113 0 SG = some 1) (C0 : lw_At p s m meth c b L xs) : W p l e room_1 s m #[Value.ref b] below meth c s.heap [] 0 0 (lw_Z below #[Value.ref b] s) (entryFrame m ([Value.ref b] : List Value).toArray 4) := by
  obtain ⟨hx, hb, hr, hml, hown, hts, hX, hbl, hlocks, hgv, hnm⟩ := id C0
  obtain ⟨D, cA, hK⟩ := lw_K hts
  obtain ⟨z, hz, hE⟩ := lw_EV hts hX hbl hgv
  have hl := lv_entry ([.ref b]) (n := 4) (Nat.le_of_ble_eq_true rfl)
  rw [lg_entry_eq]
  have hC : Ctx mt_L_law 1000 [] Sh (L, xs) p room_1 s m meth c D cA (fun q => s.heap.size ≤ q) z :=
    ⟨hx, hb, hml, hown, hnm, hr, hlocks, TB.of hts, hK, hE, fun q h => h, by decide, by decide, by decide +kernel, by decide +kernel⟩
  have hlh : LH (fun _ => 0) z (lg_sl ([.ref b]) ++ List.replicate (4 - (lg_sl ([.ref b])).length) Slot.unset).toArray 4 [(3, 0), (9, 0), (9, 0), (9, 0)] := by
    refine ⟨rfl, hl.1, hl.2.1, fun i v hi h9 => ?_⟩
    match i, hi with
    | 0, hi =>
      cases hi
      have := hl.2.2 (0, .ref b) List.mem_cons_self
      rw [show cv (fun _ => 0) z (3, 0) = .ref b from by simp [cv, hz]]
      exact this
    | 1, hi => cases hi; exact absurd rfl h9
    | 2, hi => cases hi; exact absurd rfl h9
    | 3, hi => cases hi; exact absurd rfl h9
    | k + 4, hi => simp at hi
  have key := E_law (sc := (L, xs)) (by show (L : Int) ≤ _; omega) hp (fun v hv => by
      simp only [List.mem_cons, List.not_mem_nil, or_false] at hv
      rcases hv with rfl | rfl | rfl | rfl <;> exact wfv_s (by omega)) wfl_nil wfm_nil (Nat.le_refl _) (Nat.le_refl _) p l e room_1 s m #[Value.ref b] below meth c D cA (fun q => s.heap.size ≤ q) z (fun _ => 0) hC _ s.heap [] (fun _ => 0) (fun _ _ => rfl) hlh (fun k q h => by simp [wsO] at h) ⟨fun i j p q h => by simp [wsO] at h, fun k q h => by simp [wsO] at h⟩ va_S.rf
  intro T hT X0
  obtain ⟨t, a1, b1⟩ := key T hT X0
  exact ⟨t, a1, b1 (fun q h => h)⟩
