/-! ===== Math.floorMod, whose class has entries of its own: its body walked ===== -/
def fmX : MethodName := ⟨"java/lang/Math", "floorMod", "(II)I"⟩
abbrev fmC : ByteArray := prog_16_method_50_code
theorem fma_0 : decode fmC 0 = .ok (.iload_n 0, 1) := by decide +kernel
theorem fma_1 : decode fmC 1 = .ok (.iload_n 1, 1) := by decide +kernel
theorem fma_2 : decode fmC 2 = .ok (.irem, 1) := by decide +kernel
theorem fma_3 : decode fmC 3 = .ok (.istore_n 2, 1) := by decide +kernel
theorem fma_4 : decode fmC 4 = .ok (.iload_n 0, 1) := by decide +kernel
theorem fma_5 : decode fmC 5 = .ok (.iload_n 1, 1) := by decide +kernel
theorem fma_6 : decode fmC 6 = .ok (.ixor, 1) := by decide +kernel
theorem fma_7 : decode fmC 7 = .ok (.ifCond .ge 11, 3) := by decide +kernel
theorem fma_10 : decode fmC 10 = .ok (.iload_n 2, 1) := by decide +kernel
theorem fma_11 : decode fmC 11 = .ok (.ifCond .eq 7, 3) := by decide +kernel
theorem fma_14 : decode fmC 14 = .ok (.iload_n 2, 1) := by decide +kernel
theorem fma_15 : decode fmC 15 = .ok (.iload_n 1, 1) := by decide +kernel
theorem fma_16 : decode fmC 16 = .ok (.iadd, 1) := by decide +kernel
theorem fma_17 : decode fmC 17 = .ok (.ireturn, 1) := by decide +kernel
theorem fma_18 : decode fmC 18 = .ok (.iload_n 2, 1) := by decide +kernel
theorem fma_19 : decode fmC 19 = .ok (.ireturn, 1) := by decide +kernel
theorem fm_noRow0 : (NativeRow.find? natives fmX.cls fmX.name fmX.desc).isNone = true := by decide +kernel
theorem fm_noRow (p : Program) : NativeRow.find? p.tables.natives fmX.cls fmX.name fmX.desc = none := by
  cases p <;> exact Option.isNone_iff_eq_none.mp fm_noRow0
def fmS (a b r : Int32) : Spec where
  pre := .and (.code fmX fmC 3 (some .int)) (.and (.count 2) (.and (.isInt (.arg 0)) (.and (.isInt (.arg 1)) (.and (.eq (.arg 0) (.int a)) (.eq (.arg 1) (.int b))))))
  post := .and .returned (.eq .result (.int r))
  changes := some []
/-- what it answers -/
def fmR (a b : Int32) : Int32 := if 0 ≤ a ^^^ b then a - a / b * b else if a - a / b * b = 0 then a - a / b * b else (a - a / b * b) + b
theorem fm_meets (l : Launch) (a b : Int32) (hb : ¬ b = 0) : MeetsLoose l fmX (fmS a b (fmR a b)) := by
  refine MeetsLoose.of_body_ov (code := fmC) (maxLocals := 3) (ret := some .int) fm_noRow ?_ ?_
  · intro args s h
    simp only [fmS, Cond.before_and, Bool.and_eq_true] at h
    exact h.1
  · intro p e s m args below meth c s₁ B
    have hpre := B.pre
    simp only [fmS, Cond.before_and, Bool.and_eq_true] at hpre
    obtain ⟨a', b', rfl⟩ := Cond.two_ints hpre.2.1 hpre.2.2.1 hpre.2.2.2.1
    obtain rfl : a' = a := by
      have := hpre.2.2.2.2.1
      simpa [Cond.before, Cond.holds, Cond.value, Term.eval] using this
    obtain rfl : b' = b := by
      have := hpre.2.2.2.2.2
      simpa [Cond.before, Cond.holds, Cond.value, Term.eval] using this
    have hloc : argsToLocals #[.int a', .int b'] 3 = #[.val (.int a'), .val (.int b'), .unset] := rfl
    have fin : ∀ r : Int32, (∀ fs, Steps p.tables e below (s₁.setTop (entryFrame m #[.int a', .int b'] 3)) (s₁.setFrames fs) ∨ handOver s₁ (some (.int r)) below ≠ some fs) →
        ((fmS a' b' (fmR a' b')).post.after #[.int a', .int b'] s (.returned (some (.int r))) = fun _ => true) →
        ∃ s₂ o, Steps p.tables e below (s₁.setTop (entryFrame m #[.int a', .int b'] 3)) s₂ ∧ s₂.status = .running ∧ Ended s₂ below o ∧
          (fmS a' b' (fmR a' b')).ensures #[.int a', .int b'] s o s₂ := by
      intro r hwalk hpost
      obtain ⟨fs, hfs⟩ := handOver_isSome (s := s₁) (some (.int r)) B.hears₁
      refine ⟨s₁.setFrames fs, .returned (some (.int r)), (hwalk fs).resolve_right (fun h => h hfs), B.here.running, B.ended hfs (by intro h; cases h), ?_, State.sameBut_nil.mpr ?_⟩
      · rw [hpost]
      · rw [State.frames_setFrames _ B.cur₁, B.back]
    refine fin (fmR a' b') (fun fs => ?_) (by funext s'; simp [fmS, Cond.after, Cond.holds, Cond.value, Term.eval])
    by_cases hfs : handOver s₁ (some (.int (fmR a' b'))) below = some fs
    · left
      unfold entryFrame; rw [hloc]
      refine Steps.instrAtOv (c := _) (by simpa using B.here) ?_
      simp [jvm, wpRun, exec, B.here.top, B.exec, B.bytes, fma_0]
      refine Steps.instrAtOv (c := _) (by simpa using B.here) ?_
      simp [jvm, wpRun, exec, B.here.top, B.exec, B.bytes, fma_1]
      refine Steps.instrAtOv (c := _) (by simpa using B.here) ?_
      simp [jvm, wpRun, exec, B.here.top, B.exec, B.bytes, fma_2, hb]
      generalize hq : a' - a' / b' * b' = q
      refine Steps.instrAtOv (c := _) (by simpa using B.here) ?_
      simp [jvm, wpRun, exec, B.here.top, B.exec, B.bytes, fma_3, storeLocals, storeSelf, setAt, Value.category]
      refine Steps.instrAtOv (c := _) (by simpa using B.here) ?_
      simp [jvm, wpRun, exec, B.here.top, B.exec, B.bytes, fma_4]
      refine Steps.instrAtOv (c := _) (by simpa using B.here) ?_
      simp [jvm, wpRun, exec, B.here.top, B.exec, B.bytes, fma_5]
      refine Steps.instrAtOv (c := _) (by simpa using B.here) ?_
      simp [jvm, wpRun, exec, B.here.top, B.exec, B.bytes, fma_6]
      by_cases h1 : 0 ≤ a' ^^^ b'
      · have hr : fmR a' b' = q := by simp [fmR, h1, hq]
        rw [hr] at hfs
        refine Steps.instrAtOv (c := _) (by simpa using B.here) ?_
        simp [jvm, wpRun, exec, B.here.top, B.exec, B.bytes, fma_7, Op.ifCond.holds, h1]
        refine Steps.instrAtOv (c := _) (by simpa using B.here) ?_
        simp [jvm, wpRun, exec, B.here.top, B.exec, B.bytes, fma_18]
        refine Steps.instrAtOv (c := _) (by simpa using B.here) ?_
        simp [jvm, wpRun, exec, B.here.top, B.exec, B.bytes, fma_19, B.method₁, B.returns, narrow]
        intro acts
        rw [ret_to B.frames₁ B.method₁ B.notSynchronized rfl rfl hfs]
        exact Steps.refl _
      · refine Steps.instrAtOv (c := _) (by simpa using B.here) ?_
        simp [jvm, wpRun, exec, B.here.top, B.exec, B.bytes, fma_7, Op.ifCond.holds, h1]
        refine Steps.instrAtOv (c := _) (by simpa using B.here) ?_
        simp [jvm, wpRun, exec, B.here.top, B.exec, B.bytes, fma_10]
        by_cases h2 : q = 0
        · have hr : fmR a' b' = q := by simp [fmR, h1, hq, h2]
          rw [hr] at hfs
          refine Steps.instrAtOv (c := _) (by simpa using B.here) ?_
          simp [jvm, wpRun, exec, B.here.top, B.exec, B.bytes, fma_11, Op.ifCond.holds, h2]
          refine Steps.instrAtOv (c := _) (by simpa using B.here) ?_
          simp [jvm, wpRun, exec, B.here.top, B.exec, B.bytes, fma_18]
          refine Steps.instrAtOv (c := _) (by simpa using B.here) ?_
          simp [jvm, wpRun, exec, B.here.top, B.exec, B.bytes, fma_19, B.method₁, B.returns, narrow]
          intro acts
          rw [h2] at hfs
          rw [ret_to B.frames₁ B.method₁ B.notSynchronized rfl rfl hfs]
          exact Steps.refl _
        · have hr : fmR a' b' = q + b' := by simp [fmR, h1, hq, h2]
          rw [hr] at hfs
          refine Steps.instrAtOv (c := _) (by simpa using B.here) ?_
          simp [jvm, wpRun, exec, B.here.top, B.exec, B.bytes, fma_11, Op.ifCond.holds, h2]
          refine Steps.instrAtOv (c := _) (by simpa using B.here) ?_
          simp [jvm, wpRun, exec, B.here.top, B.exec, B.bytes, fma_14]
          refine Steps.instrAtOv (c := _) (by simpa using B.here) ?_
          simp [jvm, wpRun, exec, B.here.top, B.exec, B.bytes, fma_15]
          refine Steps.instrAtOv (c := _) (by simpa using B.here) ?_
          simp [jvm, wpRun, exec, B.here.top, B.exec, B.bytes, fma_16]
          refine Steps.instrAtOv (c := _) (by simpa using B.here) ?_
          simp [jvm, wpRun, exec, B.here.top, B.exec, B.bytes, fma_17, B.method₁, B.returns, narrow]
          intro acts
          rw [ret_to B.frames₁ B.method₁ B.notSynchronized rfl rfl hfs]
          exact Steps.refl _
    · exact Or.inr hfs
