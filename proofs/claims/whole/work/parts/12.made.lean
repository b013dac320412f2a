/-! ===== new cells ===== -/
def nwm (σ : Mem) (a k : Nat) : Mem := fun b j => if b = a then (if ktag k j = 2 then -1 else 0) else σ b j
theorem nwm_ne {σ : Mem} {a b k : Nat} (h : b ≠ a) : nwm σ a k b = σ b := by
  funext j
  simp [nwm, h]
theorem wfm_nwm {sh : Shp} {σ : Mem} {k n : Nat} (hm : wfm sh σ) : wfm (sh ++ [(k, n)]) (nwm σ sh.length k) := by
  intro a k' n' ha j
  by_cases q : a = sh.length
  · subst q
    rw [List.getElem?_append_right (Nat.le_refl _), Nat.sub_self] at ha
    cases ha
    simp only [nwm, if_true, List.length_append, List.length_cons, List.length_nil]
    refine ⟨⟨fun e => ?_, fun e => ?_, fun e => ?_⟩, fun e => ?_, fun e => ?_⟩
    · simp only at e
      rw [e]
      exact R32_0
    · simp only at e
      rw [e]
      exact ⟨by decide, by decide⟩
    · simp only at e
      rw [e]
      simp only [if_true]
      omega
    · subst e
      simp [ktag]
    · subst e
      simp [ktag]
  · have hlt : a < sh.length := by
      have := (List.getElem?_eq_some_iff.mp ha).1
      simp only [List.length_append, List.length_cons, List.length_nil] at this
      omega
    rw [List.getElem?_append_left hlt] at ha
    rw [nwm_ne q]
    obtain ⟨h1, h2, h3⟩ := hm a k' n' ha j
    refine ⟨⟨h1.1, h1.2.1, fun e => ?_⟩, h2, h3⟩
    have := h1.2.2 e
    simp only [List.length_append, List.length_cons, List.length_nil]
    simp only at this ⊢
    omega
theorem wsO_new {ad : Nat → Nat} {z : Ats} {cA : Nat → ClassId} {σ : Mem} {sh : Shp} {k n q : Nat} (hm : wfm sh σ) : wsO (fun b => if b = sh.length then q else ad b) z cA (nwm σ sh.length k) (sh ++ [(k, n)]) = wsO ad z cA σ sh ++ [(q, ent (fun b => if b = sh.length then q else ad b) z cA (nwm σ sh.length k) sh.length (k, n))] := by
  apply List.ext_getElem?
  intro i
  have hlen : (wsO ad z cA σ sh).length = sh.length := by simp [wsO]
  rcases Nat.lt_trichotomy i sh.length with h | h | h
  · rw [List.getElem?_append_left (by rw [hlen]; exact h)]
    have hs : sh[i]? = some sh[i] := List.getElem?_eq_getElem h
    rw [wsO_at hs, wsO_at (by rw [List.getElem?_append_left h]; exact hs)]
    have hne : i ≠ sh.length := by omega
    rw [if_neg hne]
    have e1 : ent (fun b => if b = sh.length then q else ad b) z cA (nwm σ sh.length k) i sh[i] = ent (fun b => if b = sh.length then q else ad b) z cA σ i sh[i] := by
      unfold ent
      rw [nwm_ne hne]
    rw [e1, ent_agree hm hs (fun b hb => if_neg (by omega))]
  · subst h
    rw [List.getElem?_append_right (by omega), hlen, Nat.sub_self]
    rw [wsO_at (kn := (k, n)) (by rw [List.getElem?_append_right (by omega), Nat.sub_self]; rfl)]
    simp
  · rw [List.getElem?_eq_none (by simp [wsO]; omega), List.getElem?_eq_none (by simp [wsO]; omega)]
theorem tot_new {sh : Shp} {k n : Nat} : tot (sh ++ [(k, n)]) = tot sh + n := by simp [tot]
section
variable {sc : Nat × (Nat → Int32)} {F : FinT} {mt : Mth} {d : Nat} {sh0 shF sh : Shp} {pc : Nat} {ls st : List TV} {σ : Mem}
theorem wfv_new {x : Int} {n : Nat} (h : x = n) {k N : Nat} {sh : Shp} (hn : n = sh.length) : wfv (sh ++ [(k, N)]).length (2, x) := wfv_a (by simp only [List.length_append, List.length_cons, List.length_nil]; omega)
/-- what a new field holds -/
def okD (ci N : Nat) (ty : Nat → FieldType) : Prop := ∀ (ad : Nat → Nat) (z : Ats) (j : Nat), j < N → defaultValue (ty j) = cv ad z (ftag ci j, if ktag ci j = 2 then -1 else 0)
theorem E_new {idx ci N : Nat} {C : String} {T : u_T} {ty : Nat → FieldType} {x : Int} (hd : decode mt.2.1 pc = .ok (.new idx, 3)) (K : CLok ci C T N ty) (hD0 : okD ci N ty) (hw : Cond.classLink mt.1.cls idx C ∈ lw_tbl ∧ Cond.instantiable C N ∈ lw_tbl ∧ Cond.initialized C ∈ lw_tbl) (hx : x = sh.length) (hgr : sh.length + 1 ≤ shF.length ∧ tot sh + N ≤ tot shF) (h : E sc F mt d sh0 shF (pc + 3) ls ((2, x) :: st) (sh ++ [(ci, N)]) (nwm σ sh.length ci)) : E sc F mt d sh0 shF pc ls st sh σ := by
  intro hl hs hm z1 z2 p l e R s m args below meth c D cA A z ad0 X lsA H locs ad g1 g2 g3 g4 g5
  have hT := X.2.2.2.2.2.2.2.1
  have hK := X.2.2.2.2.2.2.2.2.1
  have hR := X.2.2.2.2.2.2.2.2.2.2.2
  have hci := K.2.2.2.2.2.2
  have hmono : sh.length ≤ (sh ++ [(ci, N)]).length := by simp
  have key : ∀ (q : Nat) (H1 : Heap), va_P D clX (wsO ad z cA σ sh ++ [(q, .inr (ci, (List.range N).map fun j => cv (fun b => if b = sh.length then q else ad b) z (ftag ci j, nwm σ sh.length ci sh.length j)))]) H1 → va_D A (wsO ad z cA σ sh ++ [(q, .inr (ci, (List.range N).map fun j => cv (fun b => if b = sh.length then q else ad b) z (ftag ci j, nwm σ sh.length ci sh.length j)))]) → va_S A s.heap H1 locs → W p l e R s m args below meth c H1 locs (sh.length - sh0.length + 1) (tot sh - tot sh0 + N) (F args s below D cA A z ad0) (F0 m (pc + 3) lsA (.ref q :: st.map (cv ad z))) := by
    intro q H1 a1 a2 a3
    rw [← ent_o (cA := cA) hci, ← wsO_new hm] at a1 a2
    have hag : ∀ b, b < sh.length → (fun b => if b = sh.length then q else ad b) b = ad b := fun b hb => if_neg (by omega)
    have h2 := h (wfl_mono hl hmono) (wfl_cons.mpr ⟨wfv_new hx rfl, wfl_mono hs hmono⟩) (wfm_nwm hm) (by simp; omega) (by rw [tot_new]; omega) p l e R s m args below meth c D cA A z ad0 X lsA H1 locs (fun b => if b = sh.length then q else ad b) (fun b hb => (hag b (by omega)).trans (g1 b hb)) (g2.agree hl hag) a1 a2 a3
    rw [List.map_cons, map_agree hs hag, cv_2 (by omega)] at h2
    rw [show (sh ++ [(ci, N)]).length - sh0.length = sh.length - sh0.length + 1 by simp; omega, tot_new, show tot sh + N - tot sh0 = tot sh - tot sh0 + N by omega] at h2
    have e1 : x.toNat = sh.length := by omega
    rw [e1, if_pos rfl] at h2
    exact h2
  have hfs : ∀ (q j : Nat), j < N → defaultValue (ty j) = vp_V ((List.range N).map fun j => cv (fun b => if b = sh.length then q else ad b) z (ftag ci j, nwm σ sh.length ci sh.length j)) j := by
    intro q j hj
    rw [hD0 (fun b => if b = sh.length then q else ad b) z j hj]
    simp [vp_V, hj, nwm]
  have ecv : ∀ (q : Nat), ((List.range N).map fun j => cv (fun b => if b = sh.length then q else ad b) z (ftag ci j, nwm σ sh.length ci sh.length j)) = ((List.range N).map fun j => cv ad z (ftag ci j, nwm σ sh.length ci sh.length j)) := by
    intro q
    apply List.map_congr_left
    intro j hj
    have hj' := List.mem_range.mp hj
    have e1 := hD0 (fun b => if b = sh.length then q else ad b) z j hj'
    have e2 := hD0 ad z j hj'
    have e3 : nwm σ sh.length ci sh.length j = if ktag ci j = 2 then -1 else 0 := by simp [nwm]
    rw [e3, ← e1, ← e2]
  have hfs2 := hfs 0
  rw [ecv 0] at hfs2
  refine va_new X.1 X.2.1 (K.hts hT) (fun w hw => hw) ty K.2.2.2.1 X.2.2.2.1 (hT _ hw.1 rfl args) (hT _ hw.2.1 rfl args) (hT _ hw.2.2 rfl args) hK g3 g4 g5 X.2.2.2.2.2.2.2.2.2.2.1 K.1 hfs2 (by have := hR.2.2.1; omega) (by have := hR.2.2.2; omega) hd ?_
  intro q H1 a1 a2 a3
  rw [← ecv q] at a1 a2
  exact key q H1 a1 a2 a3
theorem E_newarr {idx : ArrayType} {kd t0 : Nat} {ty : FieldType} {n x : Int} (hd : decode mt.2.1 pc = .ok (.newarray idx, 2)) (hty : newarray.typeOf idx = ty) (hw : Cond.arrayClass ty ∈ lw_tbl) (hk : (kd = 20 ∧ t0 = 0 ∧ ty = .int) ∨ (kd = 21 ∧ t0 = 1 ∧ ty = .long) ∨ (kd = 22 ∧ t0 = 2 ∧ ty = .byte) ∨ (kd = 23 ∧ t0 = 3 ∧ ty = .boolean)) (hn : 0 ≤ n ∧ n ≤ 60000000) (hx : x = sh.length) (hgr : sh.length + 1 ≤ shF.length ∧ tot sh + n.toNat ≤ tot shF) (h : E sc F mt d sh0 shF (pc + 2) ls ((2, x) :: st) (sh ++ [(kd, n.toNat)]) (nwm σ sh.length kd)) : E sc F mt d sh0 shF pc ls ((0, n) :: st) sh σ := by
  intro hl hs hm z1 z2 p l e R s m args below meth c D cA A z ad0 X lsA H locs ad g1 g2 g3 g4 g5
  subst hty
  have hT := X.2.2.2.2.2.2.2.1
  have hK := X.2.2.2.2.2.2.2.2.1
  have hR := X.2.2.2.2.2.2.2.2.2.2.2
  obtain ⟨hwn, hs⟩ := wfl_cons.mp hs
  have hmono : sh.length ≤ (sh ++ [(kd, n.toNat)]).length := by simp
  have key : ∀ (q : Nat) (H1 : Heap), va_P D clX (wsO ad z cA σ sh ++ [(q, ent (fun b => if b = sh.length then q else ad b) z cA (nwm σ sh.length kd) sh.length (kd, n.toNat))]) H1 → va_D A (wsO ad z cA σ sh ++ [(q, ent (fun b => if b = sh.length then q else ad b) z cA (nwm σ sh.length kd) sh.length (kd, n.toNat))]) → va_S A s.heap H1 locs → W p l e R s m args below meth c H1 locs (sh.length - sh0.length + 1) (tot sh - tot sh0 + n.toNat) (F args s below D cA A z ad0) (F0 m (pc + 2) lsA (.ref q :: st.map (cv ad z))) := by
    intro q H1 a1 a2 a3
    rw [← wsO_new hm] at a1 a2
    have hag : ∀ b, b < sh.length → (fun b => if b = sh.length then q else ad b) b = ad b := fun b hb => if_neg (by omega)
    have h2 := h (wfl_mono hl hmono) (wfl_cons.mpr ⟨wfv_new hx rfl, wfl_mono hs hmono⟩) (wfm_nwm hm) (by simp; omega) (by rw [tot_new]; omega) p l e R s m args below meth c D cA A z ad0 X lsA H1 locs (fun b => if b = sh.length then q else ad b) (fun b hb => (hag b (by omega)).trans (g1 b hb)) (g2.agree hl hag) a1 a2 a3
    rw [List.map_cons, map_agree hs hag, cv_2 (by omega)] at h2
    rw [show (sh ++ [(kd, n.toNat)]).length - sh0.length = sh.length - sh0.length + 1 by simp; omega, tot_new, show tot sh + n.toNat - tot sh0 = tot sh - tot sh0 + n.toNat by omega] at h2
    have e1 : x.toNat = sh.length := by omega
    rw [e1, if_pos rfl] at h2
    exact h2
  have hkt : ∀ j, nwm σ sh.length kd sh.length j = 0 := by
    intro j
    rcases hk with ⟨rfl, -, -⟩ | ⟨rfl, -, -⟩ | ⟨rfl, -, -⟩ | ⟨rfl, -, -⟩ <;> simp [nwm, ktag]
  have hent : ∀ q : Nat, ∃ a0 : vp_A, (∀ cA' : ClassId, vp_cell cA' a0 = arrV cA' n.toNat (fun _ => defaultValue (newarray.typeOf idx))) ∧ ent (fun b => if b = sh.length then q else ad b) z cA (nwm σ sh.length kd) sh.length (kd, n.toNat) = .inl (cA kd, a0) ∧ a0 = (if kd = 21 then (n.toNat, .inr (.inl fun _ => 0)) else (n.toNat, .inl fun _ => 0)) := by
    intro q
    rcases hk with ⟨rfl, -, hq⟩ | ⟨rfl, -, hq⟩ | ⟨rfl, -, hq⟩ | ⟨rfl, -, hq⟩
    · refine ⟨(n.toNat, .inl fun _ => 0), fun cA' => by rw [hq]; rfl, ?_, rfl⟩
      rw [ent_i (Or.inl rfl)]
      simp only [hkt]
      rfl
    · refine ⟨(n.toNat, .inr (.inl fun _ => 0)), fun cA' => by rw [hq]; rfl, ?_, rfl⟩
      rw [ent_l]
      simp only [hkt]
      rfl
    · refine ⟨(n.toNat, .inl fun _ => 0), fun cA' => by rw [hq]; rfl, ?_, rfl⟩
      rw [ent_i (Or.inr (Or.inl rfl))]
      simp only [hkt]
      rfl
    · refine ⟨(n.toNat, .inl fun _ => 0), fun cA' => by rw [hq]; rfl, ?_, rfl⟩
      rw [ent_i (Or.inr (Or.inr rfl))]
      simp only [hkt]
      rfl
  obtain ⟨a0, ha0, -, hdef⟩ := hent 0
  have hcb : n.toNat * componentBytes (newarray.typeOf idx) ≤ 536870912 := by
    have : componentBytes (newarray.typeOf idx) ≤ 8 := by cases idx <;> decide +kernel
    have h3 : n.toNat * componentBytes (newarray.typeOf idx) ≤ n.toNat * 8 := Nat.mul_le_mul_left _ this
    omega
  rw [List.map_cons]
  refine va_newa (ty := newarray.typeOf idx) (N' := n.toNat) (a0 := a0) X.1 X.2.1 (hT _ hw rfl args) rfl hK g3 g4 g5 X.2.2.2.2.2.2.2.2.2.2.1 ha0 (by rw [i32_lt0 hwn.i]; omega) (by rw [i32_clamp hwn.i]) hcb (by have := hR.2.2.1; omega) (by have := hR.2.2.2; omega) hd ?_
  intro q cA' H1 hK' a1 a2 a3
  have hnew := (hK'.2 (tyX cA).length (cA', newarray.typeOf idx) (by simp)).2
  have hold := (hK.2 t0 (cA kd, newarray.typeOf idx) (kt_ty hk cA)).2
  have ecA : cA' = cA kd := by
    rcases hk with ⟨-, -, hq⟩ | ⟨-, -, hq⟩ | ⟨-, -, hq⟩ | ⟨-, -, hq⟩ <;> rw [hq] at hnew hold <;> exact Option.some.inj (Eq.trans (Eq.symm hnew) hold)
  subst ecA
  obtain ⟨a0', -, he', hdef'⟩ := hent q
  have ea : a0' = a0 := hdef'.trans hdef.symm
  subst ea
  rw [← he'] at a1 a2
  exact key q H1 a1 a2 a3
theorem E_newref {idx kd t0 : Nat} {C : String} {n x : Int} (hd : decode mt.2.1 pc = .ok (.anewarray idx, 3)) (hw : Cond.classLink mt.1.cls idx C ∈ lw_tbl ∧ Cond.arrayOver (.object C) ∈ lw_tbl) (hk : qk kd t0 C) (hn : 0 ≤ n ∧ n ≤ 60000000) (hx : x = sh.length) (hgr : sh.length + 1 ≤ shF.length ∧ tot sh + n.toNat ≤ tot shF) (h : E sc F mt d sh0 shF (pc + 3) ls ((2, x) :: st) (sh ++ [(kd, n.toNat)]) (nwm σ sh.length kd)) : E sc F mt d sh0 shF pc ls ((0, n) :: st) sh σ := by
  intro hl hs hm z1 z2 p l e R s m args below meth c D cA A z ad0 X lsA H locs ad g1 g2 g3 g4 g5
  have hT := X.2.2.2.2.2.2.2.1
  have hK := X.2.2.2.2.2.2.2.2.1
  have hR := X.2.2.2.2.2.2.2.2.2.2.2
  obtain ⟨hwn, hs⟩ := wfl_cons.mp hs
  have hmono : sh.length ≤ (sh ++ [(kd, n.toNat)]).length := by simp
  have key : ∀ (q : Nat) (H1 : Heap), va_P D clX (wsO ad z cA σ sh ++ [(q, ent (fun b => if b = sh.length then q else ad b) z cA (nwm σ sh.length kd) sh.length (kd, n.toNat))]) H1 → va_D A (wsO ad z cA σ sh ++ [(q, ent (fun b => if b = sh.length then q else ad b) z cA (nwm σ sh.length kd) sh.length (kd, n.toNat))]) → va_S A s.heap H1 locs → W p l e R s m args below meth c H1 locs (sh.length - sh0.length + 1) (tot sh - tot sh0 + n.toNat) (F args s below D cA A z ad0) (F0 m (pc + 3) lsA (.ref q :: st.map (cv ad z))) := by
    intro q H1 a1 a2 a3
    rw [← wsO_new hm] at a1 a2
    have hag : ∀ b, b < sh.length → (fun b => if b = sh.length then q else ad b) b = ad b := fun b hb => if_neg (by omega)
    have h2 := h (wfl_mono hl hmono) (wfl_cons.mpr ⟨wfv_new hx rfl, wfl_mono hs hmono⟩) (wfm_nwm hm) (by simp; omega) (by rw [tot_new]; omega) p l e R s m args below meth c D cA A z ad0 X lsA H1 locs (fun b => if b = sh.length then q else ad b) (fun b hb => (hag b (by omega)).trans (g1 b hb)) (g2.agree hl hag) a1 a2 a3
    rw [List.map_cons, map_agree hs hag, cv_2 (by omega)] at h2
    rw [show (sh ++ [(kd, n.toNat)]).length - sh0.length = sh.length - sh0.length + 1 by simp; omega, tot_new, show tot sh + n.toNat - tot sh0 = tot sh - tot sh0 + n.toNat by omega] at h2
    have e1 : x.toNat = sh.length := by omega
    rw [e1, if_pos rfl] at h2
    exact h2
  have h30 := (hk.ty cA).2
  have hkt : ∀ j, nwm σ sh.length kd sh.length j = -1 := by
    intro j
    rcases hk with ⟨rfl, -, -⟩ | ⟨rfl, -, -⟩ | ⟨rfl, -, -⟩ <;> simp [nwm, ktag]
  have hent : ∀ q : Nat, ent (fun b => if b = sh.length then q else ad b) z cA (nwm σ sh.length kd) sh.length (kd, n.toNat) = .inl (cA kd, n.toNat, .inr (.inr (.inr (.inr fun _ => none)))) := by
    intro q
    rw [ent_q h30]
    simp only [hkt]
    rfl
  rw [List.map_cons]
  refine va_newq (C := C) (N' := n.toNat) X.1 X.2.1 X.2.2.2.1 (hT _ hw.1 rfl args) (va_AO.of (hT _ hw.2 rfl args)) hK g3 g4 g5 X.2.2.2.2.2.2.2.2.2.2.1 (by rw [i32_lt0 hwn.i]; omega) (by rw [i32_clamp hwn.i]) (by omega) (by have := hR.2.2.1; omega) (by have := hR.2.2.2; omega) hd ?_
  intro q cA' H1 hK' a1 a2 a3
  obtain ⟨_, _, _, _, _, hnew⟩ := (hK'.2 (tyX cA).length (cA', .object C) (by simp)).2
  obtain ⟨_, _, _, _, _, hold⟩ := (hK.2 t0 (cA kd, .object C) (hk.ty cA).1).2
  have ecA : cA' = cA kd := Option.some.inj (Eq.trans (Eq.symm hnew) hold)
  subst ecA
  rw [← hent q] at a1 a2
  exact key q H1 a1 a2 a3
end
