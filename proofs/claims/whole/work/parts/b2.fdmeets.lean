section
theorem fd_meets (l : Launch) (a b : Int32) (hb0 : ¬ b = 0) : Meets l fd_name (fd_spec a b) := by
  refine Meets.of_body_ov (code := prog_16_method_47_code) (maxLocals := 3) (ret := some .int) fd_noRow ?_ ?_
  · intro args s h
    simp only [fd_spec, Cond.before_and, Bool.and_eq_true] at h
    exact h.1
  · intro p e s m args below meth c s₁ B
    have hpre := B.pre
    simp only [fd_spec, Cond.before_and, Bool.and_eq_true] at hpre
    have hargs := fd_args hpre.2.1 hpre.2.2.1 hpre.2.2.2
    subst hargs
    have hloc : argsToLocals #[.int a, .int b] 3 = #[.val (.int a), .val (.int b), .unset] := rfl
    have fin : (∀ fs, Steps p.tables e below (s₁.setTop (entryFrame m #[.int a, .int b] 3)) (s₁.setFrames fs) ∨ handOver s₁ (some (.int (am_fd a b))) below ≠ some fs) →
        ∃ s₂ o, Steps p.tables e below (s₁.setTop (entryFrame m #[.int a, .int b] 3)) s₂ ∧ s₂.status = .running ∧ Ended s₂ below o ∧
          (fd_spec a b).ensures #[.int a, .int b] s o s₂ := by
      intro hwalk
      obtain ⟨fs, hfs⟩ := handOver_isSome (s := s₁) (some (.int (am_fd a b))) B.hears₁
      refine ⟨s₁.setFrames fs, .returned (some (.int (am_fd a b))), (hwalk fs).resolve_right (fun h => h hfs), B.here.running, B.ended hfs (by intro h; cases h), ?_, State.sameBut_nil.mpr ?_⟩
      · simp [fd_spec, Cond.after, Cond.holds, Cond.value, Term.eval]
      · rw [State.frames_setFrames _ B.cur₁, B.back]
    refine fin (fun fs => ?_)
    by_cases hfs : handOver s₁ (some (.int (am_fd a b))) below = some fs
    · left
      unfold entryFrame; rw [hloc]
      refine _root_.Jvm.Steps.instrAtOv (c := c) (f := _) (by simpa using B.here) ?_
      simp [jvm, wpRun, exec, B.here.top, B.exec, B.bytes, fd_at0]
      refine _root_.Jvm.Steps.instrAtOv (c := c) (f := _) (by simpa using B.here) ?_
      simp [jvm, wpRun, exec, B.here.top, B.exec, B.bytes, fd_at1]
      refine _root_.Jvm.Steps.instrAtOv (c := c) (f := _) (by simpa using B.here) ?_
      simp [jvm, wpRun, exec, B.here.top, B.exec, B.bytes, fd_at2, hb0]
      refine _root_.Jvm.Steps.instrAtOv (c := c) (f := _) (by simpa using B.here) ?_
      simp [jvm, wpRun, exec, B.here.top, B.exec, B.bytes, fd_at3]
      refine ⟨#[.val (.int a), .val (.int b), .val (.int (a / b))], rfl, ?_⟩
      refine _root_.Jvm.Steps.instrAtOv (c := c) (f := _) (by simpa using B.here) ?_
      simp [jvm, wpRun, exec, B.here.top, B.exec, B.bytes, fd_at4]
      refine _root_.Jvm.Steps.instrAtOv (c := c) (f := _) (by simpa using B.here) ?_
      simp [jvm, wpRun, exec, B.here.top, B.exec, B.bytes, fd_at5]
      refine _root_.Jvm.Steps.instrAtOv (c := c) (f := _) (by simpa using B.here) ?_
      simp [jvm, wpRun, exec, B.here.top, B.exec, B.bytes, fd_at6]
      by_cases h1 : (a ^^^ b) < 0
      · by_cases h2 : a / b * b = a
        · rw [show am_fd a b = a / b by unfold am_fd; rw [if_pos h1, if_pos h2]] at hfs
          have h1n : ¬ (0 ≤ a ^^^ b) := fun q => absurd h1 (by rw [Int32.lt_iff_toInt_lt]; rw [Int32.le_iff_toInt_le] at q; omega)
          refine _root_.Jvm.Steps.instrAtOv (c := c) (f := _) (by simpa using B.here) ?_
          simp [jvm, wpRun, exec, B.here.top, B.exec, B.bytes, fd_at7, ifCond.holds, h1n]
          refine _root_.Jvm.Steps.instrAtOv (c := c) (f := _) (by simpa using B.here) ?_
          simp [jvm, wpRun, exec, B.here.top, B.exec, B.bytes, fd_at10]
          refine _root_.Jvm.Steps.instrAtOv (c := c) (f := _) (by simpa using B.here) ?_
          simp [jvm, wpRun, exec, B.here.top, B.exec, B.bytes, fd_at11]
          refine _root_.Jvm.Steps.instrAtOv (c := c) (f := _) (by simpa using B.here) ?_
          simp [jvm, wpRun, exec, B.here.top, B.exec, B.bytes, fd_at12]
          refine _root_.Jvm.Steps.instrAtOv (c := c) (f := _) (by simpa using B.here) ?_
          simp [jvm, wpRun, exec, B.here.top, B.exec, B.bytes, fd_at13]
          refine _root_.Jvm.Steps.instrAtOv (c := c) (f := _) (by simpa using B.here) ?_
          simp [jvm, wpRun, exec, B.here.top, B.exec, B.bytes, fd_at14, if_icmp.holds, h2]
          refine _root_.Jvm.Steps.instrAtOv (c := c) (f := _) (by simpa using B.here) ?_
          simp [jvm, wpRun, exec, B.here.top, B.exec, B.bytes, fd_at21]
          refine _root_.Jvm.Steps.instrAtOv (c := c) (f := _) (by simpa using B.here) ?_
          simp [jvm, wpRun, exec, B.here.top, B.exec, B.bytes, fd_at22, B.method₁, B.returns, narrow]
          intro acts
          rw [ret_to B.frames₁ B.method₁ B.notSynchronized rfl rfl hfs]
          exact Steps.refl _
        · rw [show am_fd a b = a / b - 1 by unfold am_fd; rw [if_pos h1, if_neg h2]] at hfs
          have h1n : ¬ (0 ≤ a ^^^ b) := fun q => absurd h1 (by rw [Int32.lt_iff_toInt_lt]; rw [Int32.le_iff_toInt_le] at q; omega)
          refine _root_.Jvm.Steps.instrAtOv (c := c) (f := _) (by simpa using B.here) ?_
          simp [jvm, wpRun, exec, B.here.top, B.exec, B.bytes, fd_at7, ifCond.holds, h1n]
          refine _root_.Jvm.Steps.instrAtOv (c := c) (f := _) (by simpa using B.here) ?_
          simp [jvm, wpRun, exec, B.here.top, B.exec, B.bytes, fd_at10]
          refine _root_.Jvm.Steps.instrAtOv (c := c) (f := _) (by simpa using B.here) ?_
          simp [jvm, wpRun, exec, B.here.top, B.exec, B.bytes, fd_at11]
          refine _root_.Jvm.Steps.instrAtOv (c := c) (f := _) (by simpa using B.here) ?_
          simp [jvm, wpRun, exec, B.here.top, B.exec, B.bytes, fd_at12]
          refine _root_.Jvm.Steps.instrAtOv (c := c) (f := _) (by simpa using B.here) ?_
          simp [jvm, wpRun, exec, B.here.top, B.exec, B.bytes, fd_at13]
          refine _root_.Jvm.Steps.instrAtOv (c := c) (f := _) (by simpa using B.here) ?_
          simp [jvm, wpRun, exec, B.here.top, B.exec, B.bytes, fd_at14, if_icmp.holds, h2]
          refine _root_.Jvm.Steps.instrAtOv (c := c) (f := _) (by simpa using B.here) ?_
          simp [jvm, wpRun, exec, B.here.top, B.exec, B.bytes, fd_at17]
          refine _root_.Jvm.Steps.instrAtOv (c := c) (f := _) (by simpa using B.here) ?_
          simp [jvm, wpRun, exec, B.here.top, B.exec, B.bytes, fd_at18]
          refine _root_.Jvm.Steps.instrAtOv (c := c) (f := _) (by simpa using B.here) ?_
          simp [jvm, wpRun, exec, B.here.top, B.exec, B.bytes, fd_at19]
          refine _root_.Jvm.Steps.instrAtOv (c := c) (f := _) (by simpa using B.here) ?_
          simp [jvm, wpRun, exec, B.here.top, B.exec, B.bytes, fd_at20, B.method₁, B.returns, narrow]
          intro acts
          rw [ret_to B.frames₁ B.method₁ B.notSynchronized rfl rfl hfs]
          exact Steps.refl _
      · rw [show am_fd a b = a / b by unfold am_fd; rw [if_neg h1]] at hfs
        have h1p : (0 ≤ a ^^^ b) := by rw [Int32.lt_iff_toInt_lt] at h1; rw [Int32.le_iff_toInt_le]; omega
        refine _root_.Jvm.Steps.instrAtOv (c := c) (f := _) (by simpa using B.here) ?_
        simp [jvm, wpRun, exec, B.here.top, B.exec, B.bytes, fd_at7, ifCond.holds, h1p]
        refine _root_.Jvm.Steps.instrAtOv (c := c) (f := _) (by simpa using B.here) ?_
        simp [jvm, wpRun, exec, B.here.top, B.exec, B.bytes, fd_at21]
        refine _root_.Jvm.Steps.instrAtOv (c := c) (f := _) (by simpa using B.here) ?_
        simp [jvm, wpRun, exec, B.here.top, B.exec, B.bytes, fd_at22, B.method₁, B.returns, narrow]
        intro acts
        rw [ret_to B.frames₁ B.method₁ B.notSynchronized rfl rfl hfs]
        exact Steps.refl _
    · exact Or.inr hfs
end
