section
theorem fd_at0 : decode prog_16_method_47_code 0 = .ok (.iload_n 0, 1) := by decide +kernel
theorem fd_at1 : decode prog_16_method_47_code 1 = .ok (.iload_n 1, 1) := by decide +kernel
theorem fd_at2 : decode prog_16_method_47_code 2 = .ok (.idiv, 1) := by decide +kernel
theorem fd_at3 : decode prog_16_method_47_code 3 = .ok (.istore_n 2, 1) := by decide +kernel
theorem fd_at4 : decode prog_16_method_47_code 4 = .ok (.iload_n 0, 1) := by decide +kernel
theorem fd_at5 : decode prog_16_method_47_code 5 = .ok (.iload_n 1, 1) := by decide +kernel
theorem fd_at6 : decode prog_16_method_47_code 6 = .ok (.ixor, 1) := by decide +kernel
theorem fd_at7 : decode prog_16_method_47_code 7 = .ok (.ifCond .ge 14, 3) := by decide +kernel
theorem fd_at10 : decode prog_16_method_47_code 10 = .ok (.iload_n 2, 1) := by decide +kernel
theorem fd_at11 : decode prog_16_method_47_code 11 = .ok (.iload_n 1, 1) := by decide +kernel
theorem fd_at12 : decode prog_16_method_47_code 12 = .ok (.imul, 1) := by decide +kernel
theorem fd_at13 : decode prog_16_method_47_code 13 = .ok (.iload_n 0, 1) := by decide +kernel
theorem fd_at14 : decode prog_16_method_47_code 14 = .ok (.if_icmp .eq 7, 3) := by decide +kernel
theorem fd_at17 : decode prog_16_method_47_code 17 = .ok (.iload_n 2, 1) := by decide +kernel
theorem fd_at18 : decode prog_16_method_47_code 18 = .ok (.iconst 1, 1) := by decide +kernel
theorem fd_at19 : decode prog_16_method_47_code 19 = .ok (.isub, 1) := by decide +kernel
theorem fd_at20 : decode prog_16_method_47_code 20 = .ok (.ireturn, 1) := by decide +kernel
theorem fd_at21 : decode prog_16_method_47_code 21 = .ok (.iload_n 2, 1) := by decide +kernel
theorem fd_at22 : decode prog_16_method_47_code 22 = .ok (.ireturn, 1) := by decide +kernel
def fd_name : MethodName := ⟨"java/lang/Math", "floorDiv", "(II)I"⟩
theorem fd_noRow0 : (NativeRow.find? natives fd_name.cls fd_name.name fd_name.desc).isNone = true := by decide +kernel
theorem fd_noRow (p : Program) : NativeRow.find? p.tables.natives fd_name.cls fd_name.name fd_name.desc = none := by
  cases p <;> exact Option.isNone_iff_eq_none.mp fd_noRow0
def fd_spec (a b : Int32) : Spec where
  pre := .and (.code fd_name prog_16_method_47_code 3 (some .int)) (.and (.count 2) (.and (.eq (.arg 0) (.int a)) (.eq (.arg 1) (.int b))))
  post := .and .returned (.eq .result (.int (am_fd a b)))
  changes := some []
theorem fd_args {args : Array Value} {s : State} {a b : Int32} (h1 : (Cond.count 2).before args s = true) (h2 : (Cond.eq (.arg 0) (.int a)).before args s = true) (h3 : (Cond.eq (.arg 1) (.int b)).before args s = true) : args = #[.int a, .int b] := by
  have h1' : args.size = 2 := by simpa [Cond.before, Cond.holds, Cond.value] using h1
  obtain ⟨as⟩ := args
  match as, h1' with
  | [u, v], _ =>
    cases u <;> cases v <;> simp [Cond.before, Cond.holds, Cond.value, Term.eval] at h2 h3 ⊢
    exact ⟨h2, h3⟩
end
