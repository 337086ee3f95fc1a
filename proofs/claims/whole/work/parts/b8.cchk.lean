/-! every op of the constructors against its bytes and links -/
def khd (l : List kop) : Nat := match l with
  | [] => 0
  | o :: _ => o.1
def kisret (i : Jvm.ClassFile.Instr) : Bool := match i with
  | .return_ => true
  | _ => false
def kcf (own : Nat) (pc len : Nat) (nx : Nat) (i : Jvm.ClassFile.Instr) (a b q : Nat) : Bool :=
  (kisret i || Nat.beq nx (pc + len)) && match i with
  | .iconst _ => Nat.beq len 1
  | .bipush _ => Nat.beq len 2
  | .sipush _ => Nat.beq len 3
  | .lconst _ => Nat.beq len 1
  | .aload_n _ => Nat.beq len 1
  | .iload_n _ => Nat.beq len 1
  | .istore_n _ => Nat.beq len 1
  | .iinc _ _ => Nat.beq len 3
  | .dup => Nat.beq len 1
  | .goto off => Nat.beq len 3 && decide ((pc : Int) + off = (a : Int))
  | .if_icmp .ge off => Nat.beq len 3 && decide ((pc : Int) + off = (a : Int))
  | .new x => Nat.beq len 3 && (Nat.blt a 13 && decide (tables_1[q]? = some (Cond.classLink (am_R own) x (am_R a))))
  | .newarray _ => Nat.beq len 2
  | .anewarray x => Nat.beq len 3 && decide (tables_1[q]? = some (Cond.classLink (am_R own) x "WordEach$Witness"))
  | .multianewarray x d => Nat.beq len 4 && (Nat.beq d 2 && decide (tables_1[q]? = some (Cond.classLink (am_R own) x "[[I")))
  | .putfield x => Nat.beq len 3 && (Nat.blt a 13 && (Nat.blt b (am_N a) && (decide (tables_1[q]? = some (Cond.fieldLink (am_R own) x (am_R a) (am_T a b).2.1 (am_T a b).2.2.1)) && (Nat.beq own a || !(am_T a b).2.2.2))))
  | .getfield x => Nat.beq len 3 && (Nat.blt a 13 && (Nat.blt b (am_N a) && decide (tables_1[q]? = some (Cond.fieldLink (am_R own) x (am_R a) (am_T a b).2.1 (am_T a b).2.2.1))))
  | .iastore => Nat.beq len 1
  | .castore => Nat.beq len 1
  | .bastore => Nat.beq len 1
  | .aastore => Nat.beq len 1
  | .invokespecial x => Nat.beq len 3 && (bif Nat.beq a 99 then decide (tables_1[q]? = some (Cond.methodLink (am_R own) x Lib.objectInit)) else Nat.blt a 14 && (!Nat.beq a 6 && (Nat.beq (b % 10) (khead a).2.2.1 && (decide (tables_1[q]? = some (Cond.methodLink (am_R own) x (kY a))) || knls.any (fun e => Nat.beq e.1 own && (Nat.beq e.2.1 x && Nat.beq e.2.2.1 a))))))
  | .invokevirtual x => Nat.beq len 3 && (Nat.beq a 6 && decide (tables_1[q]? = some (Cond.methodLink (am_R own) x (kY 6))))
  | .return_ => Nat.beq len 1
  | _ => false
def kchk1 (own : Nat) (bytes : ByteArray) (nx : Nat) (o : kop) : Bool := match decode bytes o.1 with
  | .ok (i, len) => decide (i = o.2.1) && (Nat.beq len o.2.2.1 && kcf own o.1 len nx i o.2.2.2.1 o.2.2.2.2.1 o.2.2.2.2.2)
  | .error _ => false
def knx (nx : Nat) (l : List kop) : Nat := match l with
  | [] => nx
  | o :: _ => o.1
/-- a stretch of a method, and the place behind it (0: its end) -/
def kchks (own : Nat) (bytes : ByteArray) (nx : Nat) : List kop → Bool
  | [] => true
  | o :: tl => kchk1 own bytes (knx nx tl) o && kchks own bytes nx tl
theorem kchks_app {own : Nat} {bytes : ByteArray} {nx : Nat} : ∀ (a b : List kop), kchks own bytes (knx nx b) a = true → kchks own bytes nx b = true → kchks own bytes nx (a ++ b) = true
  | [], b, _, h => h
  | [o], b, h1, h2 => by
    have h1 := (Bool.and_eq_true_iff.mp h1).1
    show (kchk1 own bytes (knx nx ([] ++ b)) o && kchks own bytes nx b) = true
    rw [h2, Bool.and_true]
    exact h1
  | o :: o2 :: l, b, h1, h2 => by
    have h3 := (Bool.and_eq_true_iff.mp h1).1
    have h4 := kchks_app (o2 :: l) b (Bool.and_eq_true_iff.mp h1).2 h2
    show (kchk1 own bytes o2.1 o && kchks own bytes nx (o2 :: l ++ b)) = true
    rw [h4, Bool.and_true]
    exact h3
def kchk (y : Nat) : Bool := kchks (khead y).1 (kB y) 0 (kprog y)
theorem kchk_0 : kchk 0 = true := by decide +kernel
theorem kchk_1 : kchk 1 = true := by decide +kernel
theorem kchk_2 : kchk 2 = true := by decide +kernel
theorem kchk_3 : kchk 3 = true := by decide +kernel
theorem kchk_4 : kchk 4 = true := by decide +kernel
theorem kchk_5 : kchk 5 = true := by decide +kernel
theorem kchk_6 : kchk 6 = true := by decide +kernel
theorem kchk_7 : kchk 7 = true := by decide +kernel
theorem kchk_8 : kchk 8 = true := by decide +kernel
theorem kchk_9 : kchk 9 = true := by decide +kernel
theorem kchk_10 : kchk 10 = true := by decide +kernel
theorem kchk_11 : kchk 11 = true := by decide +kernel
theorem kchk_12 : kchk 12 = true := by decide +kernel
theorem kchk_13_0 : kchks 12 (kB 13) 89 kprog13_0 = true := by decide +kernel
theorem kchk_13_1 : kchks 12 (kB 13) 169 kprog13_1 = true := by decide +kernel
theorem kchk_13_2 : kchks 12 (kB 13) 250 kprog13_2 = true := by decide +kernel
theorem kchk_13_3 : kchks 12 (kB 13) 334 kprog13_3 = true := by decide +kernel
theorem kchk_13_4 : kchks 12 (kB 13) 414 kprog13_4 = true := by decide +kernel
theorem kchk_13_5 : kchks 12 (kB 13) 497 kprog13_5 = true := by decide +kernel
theorem kchk_13_6 : kchks 12 (kB 13) 605 kprog13_6 = true := by decide +kernel
theorem kchk_13_7 : kchks 12 (kB 13) 711 kprog13_7 = true := by decide +kernel
theorem kchk_13_8 : kchks 12 (kB 13) 792 kprog13_8 = true := by decide +kernel
theorem kchk_13_9 : kchks 12 (kB 13) 871 kprog13_9 = true := by decide +kernel
theorem kchk_13_10 : kchks 12 (kB 13) 954 kprog13_10 = true := by decide +kernel
theorem kchk_13_11 : kchks 12 (kB 13) 1036 kprog13_11 = true := by decide +kernel
theorem kchk_13_12 : kchks 12 (kB 13) 1118 kprog13_12 = true := by decide +kernel
theorem kchk_13_13 : kchks 12 (kB 13) 1214 kprog13_13 = true := by decide +kernel
theorem kchk_13_14 : kchks 12 (kB 13) 0 kprog13_14 = true := by decide +kernel
theorem kchk_13 : kchk 13 = true := kchks_app kprog13_0 _ kchk_13_0 (kchks_app kprog13_1 _ kchk_13_1 (kchks_app kprog13_2 _ kchk_13_2 (kchks_app kprog13_3 _ kchk_13_3 (kchks_app kprog13_4 _ kchk_13_4 (kchks_app kprog13_5 _ kchk_13_5 (kchks_app kprog13_6 _ kchk_13_6 (kchks_app kprog13_7 _ kchk_13_7 (kchks_app kprog13_8 _ kchk_13_8 (kchks_app kprog13_9 _ kchk_13_9 (kchks_app kprog13_10 _ kchk_13_10 (kchks_app kprog13_11 _ kchk_13_11 (kchks_app kprog13_12 _ kchk_13_12 (kchks_app kprog13_13 _ kchk_13_13 (kchk_13_14))))))))))))))
theorem kchk_ok {y : Nat} (h : y < 14) : kchk y = true := by
  match y, h with
  | 0, _ => exact kchk_0
  | 1, _ => exact kchk_1
  | 2, _ => exact kchk_2
  | 3, _ => exact kchk_3
  | 4, _ => exact kchk_4
  | 5, _ => exact kchk_5
  | 6, _ => exact kchk_6
  | 7, _ => exact kchk_7
  | 8, _ => exact kchk_8
  | 9, _ => exact kchk_9
  | 10, _ => exact kchk_10
  | 11, _ => exact kchk_11
  | 12, _ => exact kchk_12
  | 13, _ => exact kchk_13
  | n + 14, h => exact absurd h (by omega)
/-- the methods' own words -/
def kwok (y : Nat) : Bool := decide (tables_1[(khead y).2.2.2.2.1]? = some (Cond.instanceMethod (kY y))) && (decide (tables_1[(khead y).2.2.2.2.2]? = some (Cond.initialized (kY y).cls)) && (decide ((parseMethodDescriptor (kY y).desc).map (fun d => d.parameters.length + 1) = some (khead y).2.2.1) && (decide ((kY y).cls = am_R (khead y).1) && (decide ((kY y).cls ≠ "java/lang/invoke/MethodHandle" ∧ (kY y).cls ≠ "java/lang/invoke/VarHandle") && (Nat.ble (khead y).2.1 9 && (Nat.blt (khead y).1 13 && ((Nat.beq y 6 || decide ((kY y).name = "<init>")) && (Jvm.plainName (kY y).cls && Nat.beq (khd (kprog y)) 0))))))))
theorem kwok_0 : kwok 0 = true := by decide +kernel
theorem kwok_1 : kwok 1 = true := by decide +kernel
theorem kwok_2 : kwok 2 = true := by decide +kernel
theorem kwok_3 : kwok 3 = true := by decide +kernel
theorem kwok_4 : kwok 4 = true := by decide +kernel
theorem kwok_5 : kwok 5 = true := by decide +kernel
theorem kwok_6 : kwok 6 = true := by decide +kernel
theorem kwok_7 : kwok 7 = true := by decide +kernel
theorem kwok_8 : kwok 8 = true := by decide +kernel
theorem kwok_9 : kwok 9 = true := by decide +kernel
theorem kwok_10 : kwok 10 = true := by decide +kernel
theorem kwok_11 : kwok 11 = true := by decide +kernel
theorem kwok_12 : kwok 12 = true := by decide +kernel
theorem kwok_13 : kwok 13 = true := by decide +kernel
theorem kwok_ok {y : Nat} (h : y < 14) : kwok y = true := by
  match y, h with
  | 0, _ => exact kwok_0
  | 1, _ => exact kwok_1
  | 2, _ => exact kwok_2
  | 3, _ => exact kwok_3
  | 4, _ => exact kwok_4
  | 5, _ => exact kwok_5
  | 6, _ => exact kwok_6
  | 7, _ => exact kwok_7
  | 8, _ => exact kwok_8
  | 9, _ => exact kwok_9
  | 10, _ => exact kwok_10
  | 11, _ => exact kwok_11
  | 12, _ => exact kwok_12
  | 13, _ => exact kwok_13
  | n + 14, h => exact absurd h (by omega)
def kcodeok (y : Nat) : Prop := tables_1[(khead y).2.2.2.1]? = some (Cond.code (kY y) (kB y) (khead y).2.1 none)
theorem kcode_0 : kcodeok 0 := by unfold kcodeok; decide +kernel
theorem kcode_1 : kcodeok 1 := by unfold kcodeok; decide +kernel
theorem kcode_2 : kcodeok 2 := by unfold kcodeok; decide +kernel
theorem kcode_3 : kcodeok 3 := by unfold kcodeok; decide +kernel
theorem kcode_4 : kcodeok 4 := by unfold kcodeok; decide +kernel
theorem kcode_5 : kcodeok 5 := by unfold kcodeok; decide +kernel
theorem kcode_6 : kcodeok 6 := by unfold kcodeok; decide +kernel
theorem kcode_7 : kcodeok 7 := by unfold kcodeok; decide +kernel
theorem kcode_8 : kcodeok 8 := by unfold kcodeok; decide +kernel
theorem kcode_9 : kcodeok 9 := by unfold kcodeok; decide +kernel
theorem kcode_10 : kcodeok 10 := by unfold kcodeok; decide +kernel
theorem kcode_11 : kcodeok 11 := by unfold kcodeok; decide +kernel
theorem kcode_12 : kcodeok 12 := by unfold kcodeok; decide +kernel
set_option maxRecDepth 1000000 in
theorem kcode_13 : kcodeok 13 := by
  have h : ∀ w : Option Cond, tables_1[(khead 13).2.2.2.1]? = w → (match w with | some (Cond.code n b m r) => decide (n = kY 13) && (Nat.beq m 1 && decide (r = none)) | _ => false) = true → ∃ b, w = some (Cond.code (kY 13) b 1 none) := by
    intro w _ h
    split at h
    · simp only [Bool.and_eq_true, decide_eq_true_eq] at h
      obtain ⟨rfl, h2, rfl⟩ := h
      rw [Nat.eq_of_beq_eq_true h2]
      exact ⟨_, rfl⟩
    · cases h
  exact rfl
theorem kcode_ok {y : Nat} (h : y < 14) : kcodeok y := by
  match y, h with
  | 0, _ => exact kcode_0
  | 1, _ => exact kcode_1
  | 2, _ => exact kcode_2
  | 3, _ => exact kcode_3
  | 4, _ => exact kcode_4
  | 5, _ => exact kcode_5
  | 6, _ => exact kcode_6
  | 7, _ => exact kcode_7
  | 8, _ => exact kcode_8
  | 9, _ => exact kcode_9
  | 10, _ => exact kcode_10
  | 11, _ => exact kcode_11
  | 12, _ => exact kcode_12
  | 13, _ => exact kcode_13
  | n + 14, h => exact absurd h (by omega)
theorem knl_ok : (knls.all fun e => decide (tables_1[e.2.2.2]? = some (Cond.methodLinkNest (am_R e.1) e.2.1 (kY e.2.2.1) "WordEach"))) = true := by decide +kernel
def kinsok (C : Nat) : Bool := decide (tables_1[kins.getD C 0]? = some (Cond.instantiable (am_R C) (am_N C))) && decide (tables_1[kini.getD C 0]? = some (Cond.initialized (am_R C)))
theorem kins_all : ((List.range 13).all kinsok) = true := by decide +kernel
theorem kins_ok {C : Nat} (h : C < 13) : tables_1[kins.getD C 0]? = some (Cond.instantiable (am_R C) (am_N C)) ∧ tables_1[kini.getD C 0]? = some (Cond.initialized (am_R C)) := by
  have h := List.all_eq_true.mp kins_all C (List.mem_range.mpr h)
  unfold kinsok at h
  rw [Bool.and_eq_true] at h
  exact ⟨of_decide_eq_true h.1, of_decide_eq_true h.2⟩
theorem kac_ok : tables_1[66]? = some (Cond.arrayClass .byte) ∧ tables_1[123]? = some (Cond.arrayClass .int) ∧ tables_1[260]? = some (Cond.arrayClass .boolean) ∧ tables_1[1418]? = some (Cond.arrayClass .char) ∧ tables_1[1419]? = some (Cond.arrayClass .long) ∧ tables_1[26]? = some (Cond.instanceMethod Lib.objectInit) ∧ tables_1[27]? = some (Cond.code Lib.objectInit ⟨#[0xb1]⟩ 1 none) := by decide +kernel
theorem kfl_sel : ∃ q : Nat, lw_tbl[q]? = some (Cond.selects "WordEach$Judge" (kY 6) (kY 6)) := ⟨0, by decide +kernel⟩
theorem kdef_ok : ((List.range 13).all fun C => (List.range (am_N C)).all fun s => match parseFieldDescriptor (am_T C s).2.2.1 with
  | some ty => decide (defaultValue ty = match am_fty C s with | 1 => Value.long 0 | 2 => .null | _ => .int 0)
  | none => false) = true := by decide +kernel
