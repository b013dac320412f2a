section
variable {sc : Nat × (Nat → Int32)} {F : FinT} {mt : Mth} {d : Nat} {sh0 shF sh : Shp} {pc : Nat} {ls st : List TV} {σ : Mem}
theorem E_weak {ls' : List TV} (hle : leL ls' ls) (h : E sc F mt d sh0 shF pc ls' st sh σ) : E sc F mt d sh0 shF pc ls st sh σ := by
  intro hl hs hm z1 z2 p l e R s m args below meth c D cA A z ad0 C lsA H locs ad g1 g2 g3 g4 g5
  obtain ⟨a, b⟩ := leL_at _ _ hle
  refine h (fun w hw => ?_) hs hm z1 z2 p l e R s m args below meth c D cA A z ad0 C lsA H locs ad g1 ⟨a.trans g2.1, g2.2.1, g2.2.2.1, fun i v hv h9 => ?_⟩ g3 g4 g5
  · obtain ⟨j, hj⟩ := List.getElem?_of_mem hw
    rcases b j w hj with q | q
    · obtain ⟨t, x⟩ := w
      dsimp only at q
      subst q
      exact wfv_s (by omega)
    · exact hl w (List.mem_of_getElem? q)
  · exact g2.2.2.2 i v ((b i v hv).resolve_left h9) h9
theorem E_istore_n {k : Fin 4} {ls' : List TV} {x : Int} (hd : decode mt.2.1 pc = .ok (.istore_n k, 1)) (hk : (k : Nat) < mt.2.2.1 ∧ stL ls k (0, x) = ls') (h : E sc F mt d sh0 shF (pc + 1) ls' st sh σ) : E sc F mt d sh0 shF pc ls ((0, x) :: st) sh σ := by
  intro hl hs hm z1 z2 p l e R s m args below meth c D cA A z ad0 C lsA H locs ad g1 g2 g3 g4 g5
  obtain ⟨hx, hs⟩ := wfl_cons.mp hs
  obtain ⟨hk, rfl⟩ := hk
  refine lv_istore_n C.1 C.2.1 hd rfl g2.has hk rfl fun lsB hB => ?_
  exact h (wfl_stL hl hx) hs hm z1 z2 p l e R s m args below meth c D cA A z ad0 C lsB H locs ad g1 (LH.st (lsA := lsA) (v := (0, x)) g2.1 hB) g3 g4 g5
theorem E_istore {k : Nat} {ls' : List TV} {x : Int} (hd : decode mt.2.1 pc = .ok (.istore k, 2)) (hk : k < mt.2.2.1 ∧ stL ls k (0, x) = ls') (h : E sc F mt d sh0 shF (pc + 2) ls' st sh σ) : E sc F mt d sh0 shF pc ls ((0, x) :: st) sh σ := by
  intro hl hs hm z1 z2 p l e R s m args below meth c D cA A z ad0 C lsA H locs ad g1 g2 g3 g4 g5
  obtain ⟨hx, hs⟩ := wfl_cons.mp hs
  obtain ⟨hk, rfl⟩ := hk
  refine lv_istore C.1 C.2.1 hd g2.has hk rfl fun lsB hB => ?_
  exact h (wfl_stL hl hx) hs hm z1 z2 p l e R s m args below meth c D cA A z ad0 C lsB H locs ad g1 (LH.st (lsA := lsA) (v := (0, x)) g2.1 hB) g3 g4 g5
theorem E_lstore_n {k : Fin 4} {ls' : List TV} {x : Int} (hd : decode mt.2.1 pc = .ok (.lstore_n k, 1)) (hk : (k : Nat) + 1 < mt.2.2.1 ∧ stL2 ls k (1, x) = ls') (h : E sc F mt d sh0 shF (pc + 1) ls' st sh σ) : E sc F mt d sh0 shF pc ls ((1, x) :: st) sh σ := by
  intro hl hs hm z1 z2 p l e R s m args below meth c D cA A z ad0 C lsA H locs ad g1 g2 g3 g4 g5
  obtain ⟨hx, hs⟩ := wfl_cons.mp hs
  obtain ⟨hk, rfl⟩ := hk
  refine lv_lstore_n C.1 C.2.1 hd rfl g2.has hk rfl fun lsB hB => ?_
  exact h (wfl_stL2 hl hx) hs hm z1 z2 p l e R s m args below meth c D cA A z ad0 C lsB H locs ad g1 (LH.st2 (lsA := lsA) (v := (1, x)) g2.1 hB) g3 g4 g5
theorem E_lstore {k : Nat} {ls' : List TV} {x : Int} (hd : decode mt.2.1 pc = .ok (.lstore k, 2)) (hk : k + 1 < mt.2.2.1 ∧ stL2 ls k (1, x) = ls') (h : E sc F mt d sh0 shF (pc + 2) ls' st sh σ) : E sc F mt d sh0 shF pc ls ((1, x) :: st) sh σ := by
  intro hl hs hm z1 z2 p l e R s m args below meth c D cA A z ad0 C lsA H locs ad g1 g2 g3 g4 g5
  obtain ⟨hx, hs⟩ := wfl_cons.mp hs
  obtain ⟨hk, rfl⟩ := hk
  refine lv_lstore C.1 C.2.1 hd g2.has hk rfl fun lsB hB => ?_
  exact h (wfl_stL2 hl hx) hs hm z1 z2 p l e R s m args below meth c D cA A z ad0 C lsB H locs ad g1 (LH.st2 (lsA := lsA) (v := (1, x)) g2.1 hB) g3 g4 g5
theorem E_astore_n {k : Fin 4} {ls' : List TV} {t : Nat} {x : Int} (hd : decode mt.2.1 pc = .ok (.astore_n k, 1)) (ht : 2 ≤ t) (hk : (k : Nat) < mt.2.2.1 ∧ stL ls k (t, x) = ls') (h : E sc F mt d sh0 shF (pc + 1) ls' st sh σ) : E sc F mt d sh0 shF pc ls ((t, x) :: st) sh σ := by
  intro hl hs hm z1 z2 p l e R s m args below meth c D cA A z ad0 C lsA H locs ad g1 g2 g3 g4 g5
  obtain ⟨hx, hs⟩ := wfl_cons.mp hs
  obtain ⟨hk, rfl⟩ := hk
  have k2 : ∀ lsB : Array Slot, lv_has lsB mt.2.2.1 (((k : Nat), cv ad z (t, x)) :: (kl ad z ls).filter (fun q => !(q.1 == (k : Nat)) && !(q.1 + 1 == (k : Nat) && q.2.category == 2))) → W p l e R s m args below meth c H locs (sh.length - sh0.length) (tot sh - tot sh0) (F args s below D cA A z ad0) (F0 m (pc + 1) lsB (st.map (cv ad z))) := fun lsB hB => h (wfl_stL hl hx) hs hm z1 z2 p l e R s m args below meth c D cA A z ad0 C lsB H locs ad g1 (LH.st (lsA := lsA) (v := (t, x)) g2.1 hB) g3 g4 g5
  rw [List.map_cons]
  rcases cv_ref (ad := ad) (z := z) (x := x) ht with q | ⟨a, q⟩
  · rw [q] at k2 ⊢
    exact lv_astore_nN C.1 C.2.1 hd rfl g2.has hk rfl k2
  · rw [q] at k2 ⊢
    exact lv_astore_n C.1 C.2.1 hd rfl g2.has hk rfl k2
theorem E_astore {k : Nat} {ls' : List TV} {t : Nat} {x : Int} (hd : decode mt.2.1 pc = .ok (.astore k, 2)) (ht : 2 ≤ t) (hk : k < mt.2.2.1 ∧ stL ls k (t, x) = ls') (h : E sc F mt d sh0 shF (pc + 2) ls' st sh σ) : E sc F mt d sh0 shF pc ls ((t, x) :: st) sh σ := by
  intro hl hs hm z1 z2 p l e R s m args below meth c D cA A z ad0 C lsA H locs ad g1 g2 g3 g4 g5
  obtain ⟨hx, hs⟩ := wfl_cons.mp hs
  obtain ⟨hk, rfl⟩ := hk
  have k2 : ∀ lsB : Array Slot, lv_has lsB mt.2.2.1 ((k, cv ad z (t, x)) :: (kl ad z ls).filter (fun q => !(q.1 == k) && !(q.1 + 1 == k && q.2.category == 2))) → W p l e R s m args below meth c H locs (sh.length - sh0.length) (tot sh - tot sh0) (F args s below D cA A z ad0) (F0 m (pc + 2) lsB (st.map (cv ad z))) := fun lsB hB => h (wfl_stL hl hx) hs hm z1 z2 p l e R s m args below meth c D cA A z ad0 C lsB H locs ad g1 (LH.st (lsA := lsA) (v := (t, x)) g2.1 hB) g3 g4 g5
  rw [List.map_cons]
  rcases cv_ref (ad := ad) (z := z) (x := x) ht with q | ⟨a, q⟩
  · rw [q] at k2 ⊢
    exact lv_astoreN C.1 C.2.1 hd g2.has hk rfl k2
  · rw [q] at k2 ⊢
    exact lv_astore C.1 C.2.1 hd g2.has hk rfl k2
theorem E_iinc {i : Nat} {n : Int} {ls' : List TV} {x : Int} (hd : decode mt.2.1 pc = .ok (.iinc i n, 3)) (hi : ls[i]? = some (0, x)) (hk : i < mt.2.2.1 ∧ stL ls i (0, w32 (x + n)) = ls') (h : E sc F mt d sh0 shF (pc + 3) ls' st sh σ) : E sc F mt d sh0 shF pc ls st sh σ := by
  intro hl hs hm z1 z2 p l e R s m args below meth c D cA A z ad0 C lsA H locs ad g1 g2 g3 g4 g5
  obtain ⟨hk, rfl⟩ := hk
  obtain ⟨k, hkk⟩ := List.getElem?_of_mem (kl_in (ad := ad) (z := z) hi (by simp))
  refine lv_iinc (v := Int32.ofInt (w32 (x + n))) C.1 C.2.1 hd g2.has hkk (by rw [w32_of, Int32.ofInt_add]) hk rfl fun lsB hB => ?_
  exact h (wfl_stL hl (wfv_i (w32_R _))) hs hm z1 z2 p l e R s m args below meth c D cA A z ad0 C lsB H locs ad g1 (LH.st (lsA := lsA) (v := (0, w32 (x + n))) g2.1 hB) g3 g4 g5
theorem E_dup {v : TV} (hd : decode mt.2.1 pc = .ok (.dup, 1)) (hv : v.1 ≠ 1) (h : E sc F mt d sh0 shF (pc + 1) ls (v :: v :: st) sh σ) : E sc F mt d sh0 shF pc ls (v :: st) sh σ := by
  intro hl hs hm z1 z2 p l e R s m args below meth c D cA A z ad0 C lsA H locs ad g1 g2 g3 g4 g5
  refine lv_dup C.1 C.2.1 hd ((lv_cat _).resolve_right (fun q => hv (cv_cat.mp q))) ?_
  exact h hl (wfl_cons.mpr ⟨(wfl_cons.mp hs).1, hs⟩) hm z1 z2 p l e R s m args below meth c D cA A z ad0 C lsA H locs ad g1 g2 g3 g4 g5
theorem E_pop {v : TV} (hd : decode mt.2.1 pc = .ok (.pop, 1)) (hv : v.1 ≠ 1) (h : E sc F mt d sh0 shF (pc + 1) ls st sh σ) : E sc F mt d sh0 shF pc ls (v :: st) sh σ := by
  intro hl hs hm z1 z2 p l e R s m args below meth c D cA A z ad0 C lsA H locs ad g1 g2 g3 g4 g5
  refine lv_pop C.1 C.2.1 hd ((lv_cat _).resolve_right (fun q => hv (cv_cat.mp q))) ?_
  exact h hl (wfl_cons.mp hs).2 hm z1 z2 p l e R s m args below meth c D cA A z ad0 C lsA H locs ad g1 g2 g3 g4 g5
theorem E_dup2 {v w : TV} (hd : decode mt.2.1 pc = .ok (.dup2, 1)) (hv : v.1 ≠ 1 ∧ w.1 ≠ 1) (h : E sc F mt d sh0 shF (pc + 1) ls (v :: w :: v :: w :: st) sh σ) : E sc F mt d sh0 shF pc ls (v :: w :: st) sh σ := by
  intro hl hs hm z1 z2 p l e R s m args below meth c D cA A z ad0 C lsA H locs ad g1 g2 g3 g4 g5
  refine lv_dup2_11 C.1 C.2.1 hd ((lv_cat _).resolve_right (fun q => hv.1 (cv_cat.mp q))) ((lv_cat _).resolve_right (fun q => hv.2 (cv_cat.mp q))) ?_
  exact h hl (wfl_cons.mpr ⟨(wfl_cons.mp hs).1, wfl_cons.mpr ⟨(wfl_cons.mp (wfl_cons.mp hs).2).1, hs⟩⟩) hm z1 z2 p l e R s m args below meth c D cA A z ad0 C lsA H locs ad g1 g2 g3 g4 g5
theorem E_goto {off : Int} {tgt : Nat} (hd : decode mt.2.1 pc = .ok (.goto off, 3)) (ht : (pc : Int) + off = (tgt : Int)) (h : E sc F mt d sh0 shF tgt ls st sh σ) : E sc F mt d sh0 shF pc ls st sh σ := by
  intro hl hs hm z1 z2 p l e R s m args below meth c D cA A z ad0 C lsA H locs ad g1 g2 g3 g4 g5
  refine lv_goto C.1 C.2.1 hd ht ?_
  exact h hl hs hm z1 z2 p l e R s m args below meth c D cA A z ad0 C lsA H locs ad g1 g2 g3 g4 g5
theorem E_if_eq {α : Type} {P Q o : α} {x : Int} {off : Int} {tgt : Nat} (hd : decode mt.2.1 pc = .ok (.ifCond .eq off, 3)) (ht : (pc : Int) + off = (tgt : Int)) (h : (if x = 0 then P else Q) = o) (k1 : x = 0 → P = o → E sc F mt d sh0 shF tgt ls st sh σ) (k2 : ¬ x = 0 → Q = o → E sc F mt d sh0 shF (pc + 3) ls st sh σ) : E sc F mt d sh0 shF pc ls ((0, x) :: st) sh σ := by
  intro hl hs hm z1 z2 p l e R s m args below meth c D cA A z ad0 C lsA H locs ad g1 g2 g3 g4 g5
  obtain ⟨hx, hs⟩ := wfl_cons.mp hs
  refine lv_if_eq C.1 C.2.1 hd ht (fun q => ?_) (fun q => ?_)
  · rw [i32_eq0 hx.i] at q
    exact k1 q (by rw [if_pos q] at h; exact h) hl hs hm z1 z2 p l e R s m args below meth c D cA A z ad0 C lsA H locs ad g1 g2 g3 g4 g5
  · rw [i32_eq0 hx.i] at q
    exact k2 q (by rw [if_neg q] at h; exact h) hl hs hm z1 z2 p l e R s m args below meth c D cA A z ad0 C lsA H locs ad g1 g2 g3 g4 g5
theorem E_if_lt {α : Type} {P Q o : α} {x : Int} {off : Int} {tgt : Nat} (hd : decode mt.2.1 pc = .ok (.ifCond .lt off, 3)) (ht : (pc : Int) + off = (tgt : Int)) (h : (if x < 0 then P else Q) = o) (k1 : x < 0 → P = o → E sc F mt d sh0 shF tgt ls st sh σ) (k2 : ¬ x < 0 → Q = o → E sc F mt d sh0 shF (pc + 3) ls st sh σ) : E sc F mt d sh0 shF pc ls ((0, x) :: st) sh σ := by
  intro hl hs hm z1 z2 p l e R s m args below meth c D cA A z ad0 C lsA H locs ad g1 g2 g3 g4 g5
  obtain ⟨hx, hs⟩ := wfl_cons.mp hs
  refine lv_if_lt C.1 C.2.1 hd ht (fun q => ?_) (fun q => ?_)
  · rw [i32_lt0 hx.i] at q
    exact k1 q (by rw [if_pos q] at h; exact h) hl hs hm z1 z2 p l e R s m args below meth c D cA A z ad0 C lsA H locs ad g1 g2 g3 g4 g5
  · rw [i32_lt0 hx.i] at q
    exact k2 q (by rw [if_neg q] at h; exact h) hl hs hm z1 z2 p l e R s m args below meth c D cA A z ad0 C lsA H locs ad g1 g2 g3 g4 g5
theorem E_if_ge {α : Type} {P Q o : α} {x : Int} {off : Int} {tgt : Nat} (hd : decode mt.2.1 pc = .ok (.ifCond .ge off, 3)) (ht : (pc : Int) + off = (tgt : Int)) (h : (if 0 ≤ x then P else Q) = o) (k1 : 0 ≤ x → P = o → E sc F mt d sh0 shF tgt ls st sh σ) (k2 : ¬ 0 ≤ x → Q = o → E sc F mt d sh0 shF (pc + 3) ls st sh σ) : E sc F mt d sh0 shF pc ls ((0, x) :: st) sh σ := by
  intro hl hs hm z1 z2 p l e R s m args below meth c D cA A z ad0 C lsA H locs ad g1 g2 g3 g4 g5
  obtain ⟨hx, hs⟩ := wfl_cons.mp hs
  refine lv_if_ge C.1 C.2.1 hd ht (fun q => ?_) (fun q => ?_)
  · rw [i32_0le hx.i] at q
    exact k1 q (by rw [if_pos q] at h; exact h) hl hs hm z1 z2 p l e R s m args below meth c D cA A z ad0 C lsA H locs ad g1 g2 g3 g4 g5
  · rw [i32_0le hx.i] at q
    exact k2 q (by rw [if_neg q] at h; exact h) hl hs hm z1 z2 p l e R s m args below meth c D cA A z ad0 C lsA H locs ad g1 g2 g3 g4 g5
theorem E_if_gt {α : Type} {P Q o : α} {x : Int} {off : Int} {tgt : Nat} (hd : decode mt.2.1 pc = .ok (.ifCond .gt off, 3)) (ht : (pc : Int) + off = (tgt : Int)) (h : (if 0 < x then P else Q) = o) (k1 : 0 < x → P = o → E sc F mt d sh0 shF tgt ls st sh σ) (k2 : ¬ 0 < x → Q = o → E sc F mt d sh0 shF (pc + 3) ls st sh σ) : E sc F mt d sh0 shF pc ls ((0, x) :: st) sh σ := by
  intro hl hs hm z1 z2 p l e R s m args below meth c D cA A z ad0 C lsA H locs ad g1 g2 g3 g4 g5
  obtain ⟨hx, hs⟩ := wfl_cons.mp hs
  refine lv_if_gt C.1 C.2.1 hd ht (fun q => ?_) (fun q => ?_)
  · rw [i32_0lt hx.i] at q
    exact k1 q (by rw [if_pos q] at h; exact h) hl hs hm z1 z2 p l e R s m args below meth c D cA A z ad0 C lsA H locs ad g1 g2 g3 g4 g5
  · rw [i32_0lt hx.i] at q
    exact k2 q (by rw [if_neg q] at h; exact h) hl hs hm z1 z2 p l e R s m args below meth c D cA A z ad0 C lsA H locs ad g1 g2 g3 g4 g5
theorem E_if_le {α : Type} {P Q o : α} {x : Int} {off : Int} {tgt : Nat} (hd : decode mt.2.1 pc = .ok (.ifCond .le off, 3)) (ht : (pc : Int) + off = (tgt : Int)) (h : (if x ≤ 0 then P else Q) = o) (k1 : x ≤ 0 → P = o → E sc F mt d sh0 shF tgt ls st sh σ) (k2 : ¬ x ≤ 0 → Q = o → E sc F mt d sh0 shF (pc + 3) ls st sh σ) : E sc F mt d sh0 shF pc ls ((0, x) :: st) sh σ := by
  intro hl hs hm z1 z2 p l e R s m args below meth c D cA A z ad0 C lsA H locs ad g1 g2 g3 g4 g5
  obtain ⟨hx, hs⟩ := wfl_cons.mp hs
  refine lv_if_le C.1 C.2.1 hd ht (fun q => ?_) (fun q => ?_)
  · rw [i32_le0 hx.i] at q
    exact k1 q (by rw [if_pos q] at h; exact h) hl hs hm z1 z2 p l e R s m args below meth c D cA A z ad0 C lsA H locs ad g1 g2 g3 g4 g5
  · rw [i32_le0 hx.i] at q
    exact k2 q (by rw [if_neg q] at h; exact h) hl hs hm z1 z2 p l e R s m args below meth c D cA A z ad0 C lsA H locs ad g1 g2 g3 g4 g5
theorem E_if_ne {α : Type} {P Q o : α} {x : Int} {off : Int} {tgt : Nat} (hd : decode mt.2.1 pc = .ok (.ifCond .ne off, 3)) (ht : (pc : Int) + off = (tgt : Int)) (h : (if x = 0 then P else Q) = o) (k1 : x = 0 → P = o → E sc F mt d sh0 shF (pc + 3) ls st sh σ) (k2 : ¬ x = 0 → Q = o → E sc F mt d sh0 shF tgt ls st sh σ) : E sc F mt d sh0 shF pc ls ((0, x) :: st) sh σ := by
  intro hl hs hm z1 z2 p l e R s m args below meth c D cA A z ad0 C lsA H locs ad g1 g2 g3 g4 g5
  obtain ⟨hx, hs⟩ := wfl_cons.mp hs
  refine lv_if_ne C.1 C.2.1 hd ht (fun q => ?_) (fun q => ?_)
  · rw [i32_eq0 hx.i] at q
    exact k2 q (by rw [if_neg q] at h; exact h) hl hs hm z1 z2 p l e R s m args below meth c D cA A z ad0 C lsA H locs ad g1 g2 g3 g4 g5
  · rw [i32_eq0 hx.i] at q
    exact k1 q (by rw [if_pos q] at h; exact h) hl hs hm z1 z2 p l e R s m args below meth c D cA A z ad0 C lsA H locs ad g1 g2 g3 g4 g5
theorem E_icmp_eq {α : Type} {P Q o : α} {x y : Int} {off : Int} {tgt : Nat} (hd : decode mt.2.1 pc = .ok (.if_icmp .eq off, 3)) (ht : (pc : Int) + off = (tgt : Int)) (h : (if x = y then P else Q) = o) (k1 : x = y → P = o → E sc F mt d sh0 shF tgt ls st sh σ) (k2 : ¬ x = y → Q = o → E sc F mt d sh0 shF (pc + 3) ls st sh σ) : E sc F mt d sh0 shF pc ls ((0, y) :: (0, x) :: st) sh σ := by
  intro hl hs hm z1 z2 p l e R s m args below meth c D cA A z ad0 C lsA H locs ad g1 g2 g3 g4 g5
  obtain ⟨hy, hs⟩ := wfl_cons.mp hs
  obtain ⟨hx, hs⟩ := wfl_cons.mp hs
  refine lv_icmp_eq C.1 C.2.1 hd ht (fun q => ?_) (fun q => ?_)
  · rw [i32_eq hx.i hy.i] at q
    exact k1 q (by rw [if_pos q] at h; exact h) hl hs hm z1 z2 p l e R s m args below meth c D cA A z ad0 C lsA H locs ad g1 g2 g3 g4 g5
  · rw [i32_eq hx.i hy.i] at q
    exact k2 q (by rw [if_neg q] at h; exact h) hl hs hm z1 z2 p l e R s m args below meth c D cA A z ad0 C lsA H locs ad g1 g2 g3 g4 g5
theorem E_icmp_lt {α : Type} {P Q o : α} {x y : Int} {off : Int} {tgt : Nat} (hd : decode mt.2.1 pc = .ok (.if_icmp .lt off, 3)) (ht : (pc : Int) + off = (tgt : Int)) (h : (if x < y then P else Q) = o) (k1 : x < y → P = o → E sc F mt d sh0 shF tgt ls st sh σ) (k2 : ¬ x < y → Q = o → E sc F mt d sh0 shF (pc + 3) ls st sh σ) : E sc F mt d sh0 shF pc ls ((0, y) :: (0, x) :: st) sh σ := by
  intro hl hs hm z1 z2 p l e R s m args below meth c D cA A z ad0 C lsA H locs ad g1 g2 g3 g4 g5
  obtain ⟨hy, hs⟩ := wfl_cons.mp hs
  obtain ⟨hx, hs⟩ := wfl_cons.mp hs
  refine lv_icmp_lt C.1 C.2.1 hd ht (fun q => ?_) (fun q => ?_)
  · rw [i32_lt hx.i hy.i] at q
    exact k1 q (by rw [if_pos q] at h; exact h) hl hs hm z1 z2 p l e R s m args below meth c D cA A z ad0 C lsA H locs ad g1 g2 g3 g4 g5
  · rw [i32_lt hx.i hy.i] at q
    exact k2 q (by rw [if_neg q] at h; exact h) hl hs hm z1 z2 p l e R s m args below meth c D cA A z ad0 C lsA H locs ad g1 g2 g3 g4 g5
theorem E_icmp_ge {α : Type} {P Q o : α} {x y : Int} {off : Int} {tgt : Nat} (hd : decode mt.2.1 pc = .ok (.if_icmp .ge off, 3)) (ht : (pc : Int) + off = (tgt : Int)) (h : (if y ≤ x then P else Q) = o) (k1 : y ≤ x → P = o → E sc F mt d sh0 shF tgt ls st sh σ) (k2 : ¬ y ≤ x → Q = o → E sc F mt d sh0 shF (pc + 3) ls st sh σ) : E sc F mt d sh0 shF pc ls ((0, y) :: (0, x) :: st) sh σ := by
  intro hl hs hm z1 z2 p l e R s m args below meth c D cA A z ad0 C lsA H locs ad g1 g2 g3 g4 g5
  obtain ⟨hy, hs⟩ := wfl_cons.mp hs
  obtain ⟨hx, hs⟩ := wfl_cons.mp hs
  refine lv_icmp_ge C.1 C.2.1 hd ht (fun q => ?_) (fun q => ?_)
  · rw [i32_le hy.i hx.i] at q
    exact k1 q (by rw [if_pos q] at h; exact h) hl hs hm z1 z2 p l e R s m args below meth c D cA A z ad0 C lsA H locs ad g1 g2 g3 g4 g5
  · rw [i32_le hy.i hx.i] at q
    exact k2 q (by rw [if_neg q] at h; exact h) hl hs hm z1 z2 p l e R s m args below meth c D cA A z ad0 C lsA H locs ad g1 g2 g3 g4 g5
theorem E_icmp_gt {α : Type} {P Q o : α} {x y : Int} {off : Int} {tgt : Nat} (hd : decode mt.2.1 pc = .ok (.if_icmp .gt off, 3)) (ht : (pc : Int) + off = (tgt : Int)) (h : (if y < x then P else Q) = o) (k1 : y < x → P = o → E sc F mt d sh0 shF tgt ls st sh σ) (k2 : ¬ y < x → Q = o → E sc F mt d sh0 shF (pc + 3) ls st sh σ) : E sc F mt d sh0 shF pc ls ((0, y) :: (0, x) :: st) sh σ := by
  intro hl hs hm z1 z2 p l e R s m args below meth c D cA A z ad0 C lsA H locs ad g1 g2 g3 g4 g5
  obtain ⟨hy, hs⟩ := wfl_cons.mp hs
  obtain ⟨hx, hs⟩ := wfl_cons.mp hs
  refine lv_icmp_gt C.1 C.2.1 hd ht (fun q => ?_) (fun q => ?_)
  · rw [i32_lt hy.i hx.i] at q
    exact k1 q (by rw [if_pos q] at h; exact h) hl hs hm z1 z2 p l e R s m args below meth c D cA A z ad0 C lsA H locs ad g1 g2 g3 g4 g5
  · rw [i32_lt hy.i hx.i] at q
    exact k2 q (by rw [if_neg q] at h; exact h) hl hs hm z1 z2 p l e R s m args below meth c D cA A z ad0 C lsA H locs ad g1 g2 g3 g4 g5
theorem E_icmp_le {α : Type} {P Q o : α} {x y : Int} {off : Int} {tgt : Nat} (hd : decode mt.2.1 pc = .ok (.if_icmp .le off, 3)) (ht : (pc : Int) + off = (tgt : Int)) (h : (if x ≤ y then P else Q) = o) (k1 : x ≤ y → P = o → E sc F mt d sh0 shF tgt ls st sh σ) (k2 : ¬ x ≤ y → Q = o → E sc F mt d sh0 shF (pc + 3) ls st sh σ) : E sc F mt d sh0 shF pc ls ((0, y) :: (0, x) :: st) sh σ := by
  intro hl hs hm z1 z2 p l e R s m args below meth c D cA A z ad0 C lsA H locs ad g1 g2 g3 g4 g5
  obtain ⟨hy, hs⟩ := wfl_cons.mp hs
  obtain ⟨hx, hs⟩ := wfl_cons.mp hs
  refine lv_icmp_le C.1 C.2.1 hd ht (fun q => ?_) (fun q => ?_)
  · rw [i32_le hx.i hy.i] at q
    exact k1 q (by rw [if_pos q] at h; exact h) hl hs hm z1 z2 p l e R s m args below meth c D cA A z ad0 C lsA H locs ad g1 g2 g3 g4 g5
  · rw [i32_le hx.i hy.i] at q
    exact k2 q (by rw [if_neg q] at h; exact h) hl hs hm z1 z2 p l e R s m args below meth c D cA A z ad0 C lsA H locs ad g1 g2 g3 g4 g5
theorem E_icmp_ne {α : Type} {P Q o : α} {x y : Int} {off : Int} {tgt : Nat} (hd : decode mt.2.1 pc = .ok (.if_icmp .ne off, 3)) (ht : (pc : Int) + off = (tgt : Int)) (h : (if x = y then P else Q) = o) (k1 : x = y → P = o → E sc F mt d sh0 shF (pc + 3) ls st sh σ) (k2 : ¬ x = y → Q = o → E sc F mt d sh0 shF tgt ls st sh σ) : E sc F mt d sh0 shF pc ls ((0, y) :: (0, x) :: st) sh σ := by
  intro hl hs hm z1 z2 p l e R s m args below meth c D cA A z ad0 C lsA H locs ad g1 g2 g3 g4 g5
  obtain ⟨hy, hs⟩ := wfl_cons.mp hs
  obtain ⟨hx, hs⟩ := wfl_cons.mp hs
  refine lv_icmp_ne C.1 C.2.1 hd ht (fun q => ?_) (fun q => ?_)
  · rw [i32_eq hx.i hy.i] at q
    exact k2 q (by rw [if_neg q] at h; exact h) hl hs hm z1 z2 p l e R s m args below meth c D cA A z ad0 C lsA H locs ad g1 g2 g3 g4 g5
  · rw [i32_eq hx.i hy.i] at q
    exact k1 q (by rw [if_pos q] at h; exact h) hl hs hm z1 z2 p l e R s m args below meth c D cA A z ad0 C lsA H locs ad g1 g2 g3 g4 g5
end
