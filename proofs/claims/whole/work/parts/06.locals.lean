/-! ===== stores into locals ===== -/
def stL : List TV → Nat → TV → List TV
  | [], _, _ => []
  | _ :: ls, 0, v => v :: ls
  | w :: ls, 1, v => (match w.1 with | 1 => (9, 0) | _ => w) :: stL ls 0 v
  | w :: ls, i + 2, v => w :: stL ls (i + 1) v
def stL2 : List TV → Nat → TV → List TV
  | [], _, _ => []
  | _ :: ls, 0, v => v :: stL ls 0 (9, 0)
  | w :: ls, 1, v => (match w.1 with | 1 => (9, 0) | _ => w) :: stL2 ls 0 v
  | w :: ls, i + 2, v => w :: stL2 ls (i + 1) v
theorem stL_len : ∀ (ls : List TV) (i : Nat) (v : TV), (stL ls i v).length = ls.length
  | [], _, _ => rfl
  | _ :: ls, 0, v => rfl
  | w :: ls, 1, v => congrArg Nat.succ (stL_len ls 0 v)
  | w :: ls, i + 2, v => congrArg Nat.succ (stL_len ls (i + 1) v)
theorem stL2_len : ∀ (ls : List TV) (i : Nat) (v : TV), (stL2 ls i v).length = ls.length
  | [], _, _ => rfl
  | _ :: ls, 0, v => congrArg Nat.succ (stL_len ls 0 _)
  | w :: ls, 1, v => congrArg Nat.succ (stL2_len ls 0 v)
  | w :: ls, i + 2, v => congrArg Nat.succ (stL2_len ls (i + 1) v)
theorem stL_at : ∀ (ls : List TV) (i : Nat) (v : TV) (j : Nat) (w : TV), (stL ls i v)[j]? = some w → w.1 ≠ 9 → (j = i ∧ w = v) ∨ (j ≠ i ∧ ls[j]? = some w ∧ ¬ (j + 1 = i ∧ w.1 = 1))
  | [], _, _, _, _, h, _ => by simp [stL] at h
  | _ :: ls, 0, v, 0, w, h, _ => by simp [stL] at h; exact Or.inl ⟨rfl, h.symm⟩
  | _ :: ls, 0, v, j + 1, w, h, _ => by simp [stL] at h; exact Or.inr ⟨by omega, by simpa using h, by omega⟩
  | u :: ls, 1, v, 0, w, h, h9 => by
    simp only [stL, List.getElem?_cons_zero, Option.some.injEq] at h
    split at h
    · exact absurd (by rw [← h]) h9
    · next q => exact Or.inr ⟨by omega, by simp [h], fun c => q (by rw [h]; exact c.2)⟩
  | u :: ls, 1, v, j + 1, w, h, h9 => by
    simp only [stL, List.getElem?_cons_succ] at h
    rcases stL_at ls 0 v j w h h9 with ⟨a, b⟩ | ⟨a, b, c⟩
    · exact Or.inl ⟨by omega, b⟩
    · exact Or.inr ⟨by omega, by simpa using b, fun q => by omega⟩
  | u :: ls, i + 2, v, 0, w, h, h9 => by
    simp only [stL, List.getElem?_cons_zero] at h
    exact Or.inr ⟨by omega, by simpa using h, fun q => by omega⟩
  | u :: ls, i + 2, v, j + 1, w, h, h9 => by
    simp only [stL, List.getElem?_cons_succ] at h
    rcases stL_at ls (i + 1) v j w h h9 with ⟨a, b⟩ | ⟨a, b, c⟩
    · exact Or.inl ⟨by omega, b⟩
    · exact Or.inr ⟨by omega, by simpa using b, fun q => c ⟨by omega, q.2⟩⟩
theorem stL2_at : ∀ (ls : List TV) (i : Nat) (v : TV) (j : Nat) (w : TV), (stL2 ls i v)[j]? = some w → w.1 ≠ 9 → (j = i ∧ w = v) ∨ (j ≠ i ∧ j ≠ i + 1 ∧ ls[j]? = some w ∧ ¬ (j + 1 = i ∧ w.1 = 1))
  | [], _, _, _, _, h, _ => by simp [stL2] at h
  | _ :: ls, 0, v, 0, w, h, _ => by simp [stL2] at h; exact Or.inl ⟨rfl, h.symm⟩
  | _ :: ls, 0, v, j + 1, w, h, h9 => by
    simp only [stL2, List.getElem?_cons_succ] at h
    rcases stL_at ls 0 (9, 0) j w h h9 with ⟨a, b⟩ | ⟨a, b, c⟩
    · exact absurd (by rw [b]) h9
    · exact Or.inr ⟨by omega, by omega, by simpa using b, fun q => by omega⟩
  | u :: ls, 1, v, 0, w, h, h9 => by
    simp only [stL2, List.getElem?_cons_zero, Option.some.injEq] at h
    split at h
    · exact absurd (by rw [← h]) h9
    · next q => exact Or.inr ⟨by omega, by omega, by simp [h], fun c => q (by rw [h]; exact c.2)⟩
  | u :: ls, 1, v, j + 1, w, h, h9 => by
    simp only [stL2, List.getElem?_cons_succ] at h
    rcases stL2_at ls 0 v j w h h9 with ⟨a, b⟩ | ⟨a, a2, b, c⟩
    · exact Or.inl ⟨by omega, b⟩
    · exact Or.inr ⟨by omega, by omega, by simpa using b, fun q => by omega⟩
  | u :: ls, i + 2, v, 0, w, h, h9 => by
    simp only [stL2, List.getElem?_cons_zero] at h
    exact Or.inr ⟨by omega, by omega, by simpa using h, fun q => by omega⟩
  | u :: ls, i + 2, v, j + 1, w, h, h9 => by
    simp only [stL2, List.getElem?_cons_succ] at h
    rcases stL2_at ls (i + 1) v j w h h9 with ⟨a, b⟩ | ⟨a, a2, b, c⟩
    · exact Or.inl ⟨by omega, b⟩
    · exact Or.inr ⟨by omega, by omega, by simpa using b, fun q => c ⟨by omega, q.2⟩⟩
/-- the known locals as the kit lists them -/
def kl (ad : Nat → Nat) (z : Ats) (ls : List TV) : List (Nat × Value) := (List.range ls.length).filterMap fun i => match ls[i]? with
  | some v => if v.1 = 9 then none else some (i, cv ad z v)
  | none => none
theorem kl_in {ad : Nat → Nat} {z : Ats} {ls : List TV} {i : Nat} {v : TV} (h : ls[i]? = some v) (h9 : v.1 ≠ 9) : (i, cv ad z v) ∈ kl ad z ls := by
  refine List.mem_filterMap.mpr ⟨i, List.mem_range.mpr (List.getElem?_eq_some_iff.mp h).1, ?_⟩
  simp [h, h9]
theorem LH.has {ad : Nat → Nat} {z : Ats} {lsA : Array Slot} {nL : Nat} {ls : List TV} (h : LH ad z lsA nL ls) : lv_has lsA nL (kl ad z ls) := by
  obtain ⟨h0, h1, h2, h3⟩ := h
  refine ⟨h1, h2, fun q hq => ?_⟩
  obtain ⟨i, -, hi⟩ := List.mem_filterMap.mp hq
  split at hi
  · next v hv =>
    split at hi
    · cases hi
    · next h9 =>
      cases hi
      exact h3 i v hv h9
  · cases hi
theorem cv_cat {ad : Nat → Nat} {z : Ats} {v : TV} : (cv ad z v).category = 2 ↔ v.1 = 1 := by
  obtain ⟨t, x⟩ := v
  unfold cv
  split
  · next q => dsimp only at q; subst q; simp [Value.category]
  · next q => dsimp only at q; subst q; simp [Value.category]
  · next q => dsimp only at q; subst q; split <;> simp [Value.category]
  · next q => dsimp only at q; subst q; simp [Value.category]
  · next q => dsimp only at q; subst q; simp [Value.category]
  · next q => dsimp only at q; subst q; simp [Value.category]
  · next q1 q2 q3 q4 q5 q6 =>
    have h1 : ¬ t = 1 := q2
    cases z.2.2.2 <;> simp [va_rf, Value.category, h1]
theorem LH.st {ad : Nat → Nat} {z : Ats} {lsA lsB : Array Slot} {nL i : Nat} {ls : List TV} {v : TV} (h0 : ls.length = nL) (h : lv_has lsB nL ((i, cv ad z v) :: (kl ad z ls).filter (fun q => !(q.1 == i) && !(q.1 + 1 == i && q.2.category == 2)))) : LH ad z lsB nL (stL ls i v) := by
  refine ⟨(stL_len _ _ _).trans h0, h.1, h.2.1, fun j w hj h9 => ?_⟩
  rcases stL_at ls i v j w hj h9 with ⟨a, b⟩ | ⟨a, b, c⟩
  · subst a; subst b
    exact h.2.2 (j, cv ad z w) List.mem_cons_self
  · refine h.2.2 (j, cv ad z w) (List.mem_cons_of_mem _ (List.mem_filter.mpr ⟨kl_in b h9, ?_⟩))
    simp only [Bool.and_eq_true, Bool.not_eq_true', beq_eq_false_iff_ne, ne_eq, Bool.and_eq_false_iff, cv_cat]
    refine ⟨a, ?_⟩
    by_cases q : j + 1 = i
    · exact Or.inr fun r => c ⟨q, r⟩
    · exact Or.inl q
theorem LH.st2 {ad : Nat → Nat} {z : Ats} {lsA lsB : Array Slot} {nL i : Nat} {ls : List TV} {v : TV} (h0 : ls.length = nL) (h : lv_has lsB nL ((i, cv ad z v) :: (kl ad z ls).filter (fun q => !(q.1 == i) && (!(q.1 == i + 1) && !(q.1 + 1 == i && q.2.category == 2))))) : LH ad z lsB nL (stL2 ls i v) := by
  refine ⟨(stL2_len _ _ _).trans h0, h.1, h.2.1, fun j w hj h9 => ?_⟩
  rcases stL2_at ls i v j w hj h9 with ⟨a, b⟩ | ⟨a, a2, b, c⟩
  · subst a; subst b
    exact h.2.2 (j, cv ad z w) List.mem_cons_self
  · refine h.2.2 (j, cv ad z w) (List.mem_cons_of_mem _ (List.mem_filter.mpr ⟨kl_in b h9, ?_⟩))
    simp only [Bool.and_eq_true, Bool.not_eq_true', beq_eq_false_iff_ne, ne_eq, Bool.and_eq_false_iff, cv_cat]
    refine ⟨a, a2, ?_⟩
    by_cases q : j + 1 = i
    · exact Or.inr fun r => c ⟨q, r⟩
    · exact Or.inl q
theorem wfl_stL {n : Nat} {ls : List TV} {i : Nat} {v : TV} (h : wfl n ls) (hv : wfv n v) : wfl n (stL ls i v) := by
  intro w hw
  obtain ⟨j, hj⟩ := List.getElem?_of_mem hw
  by_cases h9 : w.1 = 9
  · obtain ⟨t, x⟩ := w
    dsimp only at h9
    subst h9
    exact wfv_s (by omega)
  · rcases stL_at ls i v j w hj h9 with ⟨a, b⟩ | ⟨a, b, c⟩
    · rw [b]; exact hv
    · exact h w (List.mem_of_getElem? b)
theorem wfl_stL2 {n : Nat} {ls : List TV} {i : Nat} {v : TV} (h : wfl n ls) (hv : wfv n v) : wfl n (stL2 ls i v) := by
  intro w hw
  obtain ⟨j, hj⟩ := List.getElem?_of_mem hw
  by_cases h9 : w.1 = 9
  · obtain ⟨t, x⟩ := w
    dsimp only at h9
    subst h9
    exact wfv_s (by omega)
  · rcases stL2_at ls i v j w hj h9 with ⟨a, b⟩ | ⟨a, a2, b, c⟩
    · rw [b]; exact hv
    · exact h w (List.mem_of_getElem? b)
/-- less is known -/
def leL : List TV → List TV → Prop
  | [], [] => True
  | w :: ws, v :: vs => (w.1 = 9 ∨ w = v) ∧ leL ws vs
  | _, _ => False
theorem leL_at : ∀ (ws vs : List TV), leL ws vs → ws.length = vs.length ∧ ∀ (i : Nat) (w : TV), ws[i]? = some w → w.1 = 9 ∨ vs[i]? = some w
  | [], [], _ => ⟨rfl, fun i w h => by simp at h⟩
  | [], v :: vs, h => h.elim
  | w :: ws, [], h => h.elim
  | w :: ws, v :: vs, ⟨h1, h2⟩ => by
    obtain ⟨a, b⟩ := leL_at ws vs h2
    refine ⟨congrArg Nat.succ a, fun i u hu => ?_⟩
    cases i with
    | zero =>
      simp at hu
      subst hu
      rcases h1 with q | q
      · exact Or.inl q
      · exact Or.inr (by simp [q])
    | succ i => simpa using b i u (by simpa using hu)
