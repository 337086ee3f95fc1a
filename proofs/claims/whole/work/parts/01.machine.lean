/-! the small machine: values, heap, tables of families, one op -/
abbrev mv : Type := Int32 ⊕ (Int64 ⊕ (Nat × Nat))
abbrev vi (x : Int32) : mv := .inl x
abbrev vl (x : Int64) : mv := .inr (.inl x)
abbrev vr (k i : Nat) : mv := .inr (.inr (k, i))
/-- ints by family, place in it, slot; longs by family, slot; which Court the judge has, which the reader -/
abbrev mg : Type := (Nat → Nat → Nat → Int32) × (Nat → Nat → Int64) × Nat × Nat
abbrev ml : Type := List (Option mv)
abbrev mr : Type := Option mv × mg
abbrev mo : Type := Jvm.ClassFile.Instr × Nat × Nat × Nat × mv
def am_nth {α : Type} : List α → Nat → Option α
  | [], _ => none
  | a :: _, 0 => some a
  | _ :: l, n + 1 => am_nth l n
def am_fams : List (Nat × Nat) := [(11, 11), (9, 7), (22, 1600), (3, 2), (2, 16), (20, 20), (20, 20), (26, 6), (20, 3), (20, 6), (26, 6), (20, 3), (26, 16), (20, 3), (25, 7), (26, 8), (20, 8), (20, 8), (10, 5), (20, 4), (4, 4), (20, 16), (23, 16), (7, 5), (20, 7), (20, 7), (20, 17), (5, 8), (20, 6), (26, 6), (20, 4), (26, 6), (20, 4), (1, 4), (8, 3), (20, 7), (0, 7), (20, 3), (26, 3), (20, 28), (26, 3), (20, 7), (20, 7), (23, 7), (6, 6), (20, 8), (20, 6), (20, 8), (12, 89), (20, 1600), (20, 6), (24, 4), (24, 4), (24, 4), (24, 4), (24, 6), (24, 5), (24, 4), (24, 3), (24, 3), (24, 4), (24, 4), (24, 7), (24, 3), (24, 4), (24, 4), (24, 7), (24, 4), (20, 10), (21, 40), (20, 40), (21, 14), (20, 36), (20, 96), (20, 98), (20, 144), (20, 4), (20, 8), (20, 8), (20, 16), (20, 16), (20, 16), (20, 96), (20, 3), (20, 5), (20, 3), (20, 3), (20, 3), (20, 7), (20, 7), (24, 5), (24, 4), (24, 5), (24, 5), (24, 4), (24, 5), (24, 3), (24, 3), (24, 2), (24, 3), (24, 3), (24, 3), (24, 6), (24, 5), (24, 6), (24, 4), (24, 2), (24, 3), (20, 1700), (20, 1700), (21, 1700), (20, 17)]
/-- of a family: its type (a class, or 20 and on an array), its length -/
def am_fam (k : Nat) : Nat × Nat := match am_nth am_fams k with
  | some t => t
  | none => (99, 0)
def am_cnts : List Nat := [1, 1, 1, 1, 2, 2, 2, 2, 12, 2, 2, 12, 2, 32, 2, 2, 16, 2, 14, 14, 1, 1, 1, 1, 1, 1, 1, 1, 1, 1, 6, 1, 6, 1, 1, 1, 1, 1, 1, 3, 1, 3, 1, 1, 1, 1, 1, 1, 1, 1, 1, 1, 1, 1, 1, 1, 1, 1, 1, 1, 1, 1, 1, 1, 1, 1, 1, 1, 1, 1, 1, 1, 1, 1, 1, 1, 1, 1, 1, 1, 1, 1, 1, 1, 1, 1, 1, 1, 1, 1, 1, 1, 1, 1, 1, 1, 1, 1, 1, 1, 1, 1, 1, 1, 1, 1, 1, 1, 1, 1, 1, 1]
def am_cnt (k : Nat) : Nat := match am_nth am_cnts k with
  | some t => t
  | none => 0
def am_rfs : List (List (Option (Nat × Nat))) := [[some (1, 1), some (3, 1), some (20, 1), some (23, 1), some (27, 1), some (33, 1), some (34, 1), some (36, 1), some (44, 1), some (46, 1), some (47, 1)], [some (2, 1)], [], [some (1, 1), some (4, 3)], [some (5, 0), some (6, 0), some (7, 0), some (9, 0), some (10, 0), some (12, 0), some (14, 0), some (15, 0), some (17, 0)], [], [], [], [], [], [], [], [], [], [], [], [], [], [some (19, 0)], [], [some (21, 1), some (22, 1), some (4, 2)], [], [], [some (24, 1), some (25, 1), some (26, 1)], [], [], [], [some (20, 1), some (28, 1), some (29, 1), some (31, 1)], [], [], [], [], [], [some (20, 1)], [some (20, 1), some (35, 1)], [], [some (20, 1), some (37, 1), some (38, 1), some (40, 1), some (42, 1), some (43, 1)], [], [], [], [], [], [], [], [some (1, 1), some (20, 1), some (45, 1)], [], [], [], [some (49, 1), none, none, none, none, none, none, none, none, some (50, 1), some (51, 1), some (52, 1), some (53, 1), some (54, 1), some (55, 1), some (56, 1), some (57, 1), some (58, 1), some (59, 1), some (60, 1), some (61, 1), some (62, 1), some (63, 1), some (64, 1), some (65, 1), some (66, 1), some (67, 1), none, some (68, 1), some (69, 1), some (70, 1), some (71, 1), some (72, 1), some (73, 1), some (74, 1), some (75, 1), some (76, 1), none, none, none, some (77, 1), some (78, 1), none, some (79, 1), none, some (80, 1), some (81, 1), none, none, some (82, 1), none, some (83, 1), some (84, 1), some (85, 1), some (86, 1), some (87, 1), some (88, 1), none, some (89, 1), some (90, 1), some (91, 1), some (92, 1), some (93, 1), some (94, 1), some (95, 1), some (96, 1), some (97, 1), some (98, 1), some (99, 1), some (100, 1), some (101, 1), some (102, 1), some (103, 1), some (104, 1), some (105, 1), some (106, 1), some (107, 1), some (108, 1), none, some (109, 1), none, none, none, some (110, 1), none, none, none, some (111, 1)], [], [], [], [], [], [], [], [], [], [], [], [], [], [], [], [], [], [], [], [], [], [], [], [], [], [], [], [], [], [], [], [], [], [], [], [], [], [], [], [], [], [], [], [], [], [], [], [], [], [], [], [], [], [], [], [], [], [], [], [], [], [], []]
/-- what a field of references holds -/
def am_rf (k s i x y : Nat) : Option (Nat × Nat) := match am_nth am_rfs k with
  | none => none
  | some r => match am_nth r s with
    | some (some (k2, 0)) => some (k2, i)
    | some (some (k2, 1)) => some (k2, 0)
    | some (some (k2, 2)) => some (k2, x)
    | some (some (k2, 3)) => some (k2, y)
    | _ => none
def am_res : List (Option (Nat × Nat)) := [none, none, none, none, none, none, none, some (8, 6), none, none, some (11, 6), none, some (13, 16), none, some (18, 7), some (16, 8), none, none, none, none, none, none, none, none, none, none, none, none, none, some (30, 6), none, some (32, 6), none, none, none, none, none, none, some (39, 3), none, some (41, 3), none, none, none, none, none, none, none, none, none, none, none, none, none, none, none, none, none, none, none, none, none, none, none, none, none, none, none, none, none, none, none, none, none, none, none, none, none, none, none, none, none, none, none, none, none, none, none, none, none, none, none, none, none, none, none, none, none, none, none, none, none, none, none, none, none, none, none, none, none, none, none]
/-- what an array of references holds -/
def am_re (k i j : Nat) : Option (Nat × Nat) := match am_nth am_res k with
  | some (some (k2, n)) => some (k2, j + i * n)
  | _ => none
def am_sws : List (List (Int32 × Nat) × Nat) := [([(0, 2), (1, 2), (2, 2), (3, 10), (4, 12), (5, 16)], 22), ([(10, 2), (11, 5), (12, 8), (13, 11)], 22), ([(0, 6), (1, 9), (2, 12), (3, 15), (4, 18), (5, 21), (6, 25), (7, 29), (8, 32)], 35), ([(0, 14), (1, 19), (2, 23)], 32), ([(0, 17), (1, 20), (2, 23), (3, 26)], 31), ([(0, 13), (1, 15), (2, 17)], 24), ([(0, 14), (1, 19), (2, 31)], 36), ([(0, 2), (1, 2), (2, 2), (3, 2), (4, 2), (5, 9), (6, 12), (7, 15), (8, 18)], 29), ([(0, 10), (1, 14), (2, 30)], 47), ([(0, 2), (1, 5), (2, 8)], 17), ([(0, 14), (1, 18), (2, 30)], 39), ([(0, 2), (1, 7), (2, 12), (3, 17), (4, 22)], 27), ([(0, 2)], 32), ([(0, 2), (1, 5), (2, 15)], 20), ([(1, 24), (2, 31), (3, 38), (4, 45), (5, 51), (6, 61), (7, 71), (8, 81), (9, 91), (10, 101)], 107)]
def am_strs : List (List Int32) := [[110, 97, 109, 101, 32, 100, 101, 101, 100, 32, 116, 117, 114, 110, 32, 98, 111, 116, 104, 32, 101, 105, 116, 104, 101, 114, 32, 101, 109, 112, 116, 121, 32, 108, 105, 110, 101, 32, 119, 104, 111, 32, 100, 105, 100, 32, 119, 104, 111, 109, 32, 102, 97, 99, 116, 32, 119, 105, 116, 110, 101, 115, 115, 32, 97, 103, 101, 32, 115, 105, 100, 101, 32, 115, 97, 121, 115, 32, 97, 99, 99, 117, 115, 101, 100, 32, 99, 97, 115, 101], [102, 105, 114, 115, 116, 32, 108, 97, 115, 116, 32, 111, 102, 116, 101, 110, 32, 116, 111, 116, 97, 108, 32, 109, 111, 115, 116, 32, 108, 101, 97, 115, 116, 32, 111, 114, 32, 97, 110, 100, 32, 110, 111, 116, 32, 97, 108, 108, 32, 110, 117, 109, 98, 101, 114, 32, 119, 111, 114, 100, 115, 32, 114, 117, 108, 105, 110, 103, 32, 102, 97, 105, 114, 32, 97, 116, 32, 104, 97, 115, 32, 109, 105, 110, 32, 109, 97, 120]]
def am_str (i : Nat) : List Int32 := match am_nth am_strs i with
  | some t => t
  | none => []
def am_ui (c : Nat → Nat → Nat → Int32) (k i j : Nat) (v : Int32) : Nat → Nat → Nat → Int32 := fun k2 i2 j2 => if k2 = k ∧ i2 = i ∧ j2 = j then v else c k2 i2 j2
def am_ul (l : Nat → Nat → Int64) (k j : Nat) (v : Int64) : Nat → Nat → Int64 := fun k2 j2 => if k2 = k ∧ j2 = j then v else l k2 j2
def am_ld : ml → Nat → Option mv
  | [], _ => none
  | v :: _, 0 => v
  | _ :: l, n + 1 => am_ld l n
def am_set : ml → Nat → Option mv → ml
  | [], _, _ => []
  | _ :: l, 0, v => v :: l
  | a :: l, n + 1, v => a :: am_set l n v
/-- the place ahead: a long there is no more -/
def am_kill : ml → Nat → ml
  | ls, 0 => ls
  | ls, n + 1 => match am_ld ls n with
    | some (.inr (.inl _)) => am_set ls n none
    | _ => ls
def am_s1 (ls : ml) (a : Nat) (v : mv) : ml := am_set (am_kill ls a) a (some v)
def am_s2 (ls : ml) (a : Nat) (v : mv) : ml := am_set (am_set (am_kill ls a) a (some v)) (a + 1) none
def am_mask : List Bool → ml → ml
  | b :: bs, v :: vs => (match b with | true => v | false => none) :: am_mask bs vs
  | _, _ => []
def am_cat1 (v : mv) : Nat := match v with
  | .inr (.inl _) => 2
  | _ => 1
def am_cat : List mv → Nat
  | [] => 0
  | v :: l => am_cat1 v + am_cat l
def am_swf {α : Type} (x : Int32) : List (Int32 × Nat) → Nat → (Nat → α) → α
  | [], d, f => f d
  | (v, t) :: l, d, f => if x = v then f t else am_swf x l d f
/-- behind a call that answers nothing, an int, a long -/
def am_bv (o : Option mr) (f : mg → Option mr) : Option mr := match o with
  | some (none, g) => f g
  | _ => none
def am_bi (o : Option mr) (f : Int32 → mg → Option mr) : Option mr := match o with
  | some (some (.inl v), g) => f v g
  | _ => none
def am_bl (o : Option mr) (f : Int64 → mg → Option mr) : Option mr := match o with
  | some (some (.inr (.inl v)), g) => f v g
  | _ => none
def am_inv (K : Nat → ml → List mv → mg → Option mr) (C : Nat → List mv → mg → Option mr) (a b c k : Nat) (ls : ml) (st : List mv) (g : mg) : Option mr :=
  if am_cat (st.drop b) ≤ 8 then
    match c with
    | 0 => am_bv (C a (st.take b).reverse g) (fun g => K (k + 1) ls (st.drop b) g)
    | 1 => am_bi (C a (st.take b).reverse g) (fun v g => K (k + 1) ls (vi v :: st.drop b) g)
    | 2 => am_bl (C a (st.take b).reverse g) (fun v g => K (k + 1) ls (vl v :: st.drop b) g)
    | _ => none
  else none
def am_do (K : Nat → ml → List mv → mg → Option mr) (C : Nat → List mv → mg → Option mr) (o : mo) (k : Nat) (ls : ml) (st : List mv) (g : mg) : Option mr :=
  match o with
  | (i, a, b, c, z) => match i with
    | .iconst _ => K (k + 1) ls (z :: st) g
    | .bipush _ => K (k + 1) ls (z :: st) g
    | .sipush _ => K (k + 1) ls (z :: st) g
    | .lconst _ => K (k + 1) ls (z :: st) g
    | .ldc _ => K (k + 1) ls (z :: st) g
    | .ldc_w _ => K (k + 1) ls (z :: st) g
    | .ldc2_w _ => K (k + 1) ls (z :: st) g
    | .iload _ => match am_ld ls a with | some (.inl v) => K (k + 1) ls (.inl v :: st) g | _ => none
    | .iload_n _ => match am_ld ls a with | some (.inl v) => K (k + 1) ls (.inl v :: st) g | _ => none
    | .lload _ => match am_ld ls a with | some (.inr (.inl v)) => K (k + 1) ls (.inr (.inl v) :: st) g | _ => none
    | .lload_n _ => match am_ld ls a with | some (.inr (.inl v)) => K (k + 1) ls (.inr (.inl v) :: st) g | _ => none
    | .aload _ => match am_ld ls a with | some (.inr (.inr v)) => K (k + 1) ls (.inr (.inr v) :: st) g | _ => none
    | .aload_n _ => match am_ld ls a with | some (.inr (.inr v)) => K (k + 1) ls (.inr (.inr v) :: st) g | _ => none
    | .istore _ => match st with | .inl v :: st => K (k + 1) (am_s1 ls a (.inl v)) st g | _ => none
    | .istore_n _ => match st with | .inl v :: st => K (k + 1) (am_s1 ls a (.inl v)) st g | _ => none
    | .astore _ => match st with | .inr (.inr v) :: st => K (k + 1) (am_s1 ls a (.inr (.inr v))) st g | _ => none
    | .astore_n _ => match st with | .inr (.inr v) :: st => K (k + 1) (am_s1 ls a (.inr (.inr v))) st g | _ => none
    | .lstore _ => match st with | .inr (.inl v) :: st => K (k + 1) (am_s2 ls a (.inr (.inl v))) st g | _ => none
    | .lstore_n _ => match st with | .inr (.inl v) :: st => K (k + 1) (am_s2 ls a (.inr (.inl v))) st g | _ => none
    | .iinc _ _ => match am_ld ls a, z with | some (.inl v), .inl n => K (k + 1) (am_s1 ls a (.inl (v + n))) st g | _, _ => none
    | .iadd => match st with | .inl y :: .inl x :: st => K (k + 1) ls (.inl (x + y) :: st) g | _ => none
    | .isub => match st with | .inl y :: .inl x :: st => K (k + 1) ls (.inl (x - y) :: st) g | _ => none
    | .imul => match st with | .inl y :: .inl x :: st => K (k + 1) ls (.inl (x * y) :: st) g | _ => none
    | .idiv => match st with | .inl y :: .inl x :: st => if y = 0 then none else K (k + 1) ls (.inl (x / y) :: st) g | _ => none
    | .irem => match st with | .inl y :: .inl x :: st => if y = 0 then none else K (k + 1) ls (.inl (x - x / y * y) :: st) g | _ => none
    | .iand => match st with | .inl y :: .inl x :: st => K (k + 1) ls (.inl (x &&& y) :: st) g | _ => none
    | .ior => match st with | .inl y :: .inl x :: st => K (k + 1) ls (.inl (x ||| y) :: st) g | _ => none
    | .ixor => match st with | .inl y :: .inl x :: st => K (k + 1) ls (.inl (x ^^^ y) :: st) g | _ => none
    | .ishl => match st with | .inl y :: .inl x :: st => K (k + 1) ls (.inl (x <<< (y &&& 31)) :: st) g | _ => none
    | .ishr => match st with | .inl y :: .inl x :: st => K (k + 1) ls (.inl (x >>> (y &&& 31)) :: st) g | _ => none
    | .iushr => match st with | .inl y :: .inl x :: st => K (k + 1) ls (.inl ((x.toUInt32 >>> (y.toUInt32 &&& Int32.toUInt32 31)).toInt32) :: st) g | _ => none
    | .ladd => match st with | .inr (.inl y) :: .inr (.inl x) :: st => K (k + 1) ls (.inr (.inl (x + y)) :: st) g | _ => none
    | .lsub => match st with | .inr (.inl y) :: .inr (.inl x) :: st => K (k + 1) ls (.inr (.inl (x - y)) :: st) g | _ => none
    | .lmul => match st with | .inr (.inl y) :: .inr (.inl x) :: st => K (k + 1) ls (.inr (.inl (x * y)) :: st) g | _ => none
    | .land => match st with | .inr (.inl y) :: .inr (.inl x) :: st => K (k + 1) ls (.inr (.inl (x &&& y)) :: st) g | _ => none
    | .ldiv => match st with | .inr (.inl y) :: .inr (.inl x) :: st => if y = 0 then none else K (k + 1) ls (.inr (.inl (x / y)) :: st) g | _ => none
    | .lrem => match st with | .inr (.inl y) :: .inr (.inl x) :: st => if y = 0 then none else K (k + 1) ls (.inr (.inl (x - x / y * y)) :: st) g | _ => none
    | .i2l => match st with | .inl x :: st => K (k + 1) ls (.inr (.inl x.toInt64) :: st) g | _ => none
    | .l2i => match st with | .inr (.inl x) :: st => K (k + 1) ls (.inl x.toInt32 :: st) g | _ => none
    | .i2b => match st with | .inl x :: st => K (k + 1) ls (.inl x.toInt8.toInt32 :: st) g | _ => none
    | .lcmp => match st with | .inr (.inl y) :: .inr (.inl x) :: st => K (k + 1) ls (.inl (lg_cmp x y) :: st) g | _ => none
    | .dup => match st with
      | .inl v :: st => K (k + 1) ls (.inl v :: .inl v :: st) g
      | .inr (.inr v) :: st => K (k + 1) ls (.inr (.inr v) :: .inr (.inr v) :: st) g
      | _ => none
    | .dup2 => match st with
      | .inl v :: .inr (.inr r) :: st => K (k + 1) ls (.inl v :: .inr (.inr r) :: .inl v :: .inr (.inr r) :: st) g
      | _ => none
    | .pop => match st with | .inl _ :: st => K (k + 1) ls st g | _ => none
    | .ifCond .eq _ => match st with | .inl x :: st => if x = 0 then K a ls st g else K (k + 1) ls st g | _ => none
    | .ifCond .ne _ => match st with | .inl x :: st => if x = 0 then K (k + 1) ls st g else K a ls st g | _ => none
    | .ifCond .lt _ => match st with | .inl x :: st => if x < 0 then K a ls st g else K (k + 1) ls st g | _ => none
    | .ifCond .ge _ => match st with | .inl x :: st => if x < 0 then K (k + 1) ls st g else K a ls st g | _ => none
    | .ifCond .gt _ => match st with | .inl x :: st => if 0 < x then K a ls st g else K (k + 1) ls st g | _ => none
    | .ifCond .le _ => match st with | .inl x :: st => if 0 < x then K (k + 1) ls st g else K a ls st g | _ => none
    | .if_icmp .eq _ => match st with | .inl y :: .inl x :: st => if x = y then K a ls st g else K (k + 1) ls st g | _ => none
    | .if_icmp .ne _ => match st with | .inl y :: .inl x :: st => if x = y then K (k + 1) ls st g else K a ls st g | _ => none
    | .if_icmp .lt _ => match st with | .inl y :: .inl x :: st => if x < y then K a ls st g else K (k + 1) ls st g | _ => none
    | .if_icmp .ge _ => match st with | .inl y :: .inl x :: st => if x < y then K (k + 1) ls st g else K a ls st g | _ => none
    | .if_icmp .gt _ => match st with | .inl y :: .inl x :: st => if y < x then K a ls st g else K (k + 1) ls st g | _ => none
    | .if_icmp .le _ => match st with | .inl y :: .inl x :: st => if y < x then K (k + 1) ls st g else K a ls st g | _ => none
    | .goto _ => K a ls st g
    | .tableswitch _ _ _ _ => match st with
      | .inl x :: st => match am_nth am_sws a with
        | some (l, d) => am_swf x l d (fun t => K t ls st g)
        | none => none
      | _ => none
    | .lookupswitch _ _ => match st with
      | .inl x :: st => match am_nth am_sws a with
        | some (l, d) => am_swf x l d (fun t => K t ls st g)
        | none => none
      | _ => none
    | .getfield _ => match st with
      | .inr (.inr (kd, i)) :: st => if (am_fam kd).1 = a then
          match c with
          | 1 => K (k + 1) ls (vl (g.2.1 kd b) :: st) g
          | 2 => match am_rf kd b i g.2.2.1 g.2.2.2 with
            | some r => K (k + 1) ls (.inr (.inr r) :: st) g
            | none => none
          | _ => K (k + 1) ls (vi (g.1 kd i b) :: st) g
        else none
      | _ => none
    | .putfield _ => match c with
      | 0 => match st with
        | .inl v :: .inr (.inr (kd, i)) :: st => if (am_fam kd).1 = a then K (k + 1) ls st (am_ui g.1 kd i b v, g.2) else none
        | _ => none
      | 3 => match st with
        | .inl v :: .inr (.inr (kd, i)) :: st => if (am_fam kd).1 = a then (if v = 0 ∨ v = 1 then K (k + 1) ls st (am_ui g.1 kd i b v, g.2) else none) else none
        | _ => none
      | 1 => match st with
        | .inr (.inl v) :: .inr (.inr (kd, _)) :: st => if (am_fam kd).1 = a then K (k + 1) ls st (g.1, am_ul g.2.1 kd b v, g.2.2) else none
        | _ => none
      | 2 => match st with
        | .inr (.inr (kv, j)) :: .inr (.inr (kd, _)) :: st => if (am_fam kd).1 = a ∧ kv = 4 then
            match am_nth am_rfs kd with
            | none => none
            | some r => match am_nth r b with
              | some (some (_, 2)) => K (k + 1) ls st (g.1, g.2.1, j, g.2.2.2)
              | some (some (_, 3)) => K (k + 1) ls st (g.1, g.2.1, g.2.2.1, j)
              | _ => none
          else none
        | _ => none
      | _ => none
    | .iaload => match st with
      | .inl j :: .inr (.inr (kd, i)) :: st => if (am_fam kd).1 = 20 then (if j < 0 ∨ (am_fam kd).2 ≤ j.toNatClampNeg then none else K (k + 1) ls (vi (g.1 kd i j.toNatClampNeg) :: st) g) else none
      | _ => none
    | .baload => match st with
      | .inl j :: .inr (.inr (kd, i)) :: st => if (am_fam kd).1 = 22 ∨ (am_fam kd).1 = 23 then (if j < 0 ∨ (am_fam kd).2 ≤ j.toNatClampNeg then none else K (k + 1) ls (vi (g.1 kd i j.toNatClampNeg) :: st) g) else none
      | _ => none
    | .caload => match st with
      | .inl j :: .inr (.inr (kd, i)) :: st => if (am_fam kd).1 = 24 then (if j < 0 ∨ (am_fam kd).2 ≤ j.toNatClampNeg then none else K (k + 1) ls (vi (g.1 kd i j.toNatClampNeg) :: st) g) else none
      | _ => none
    | .laload => match st with
      | .inl j :: .inr (.inr (kd, _)) :: st => if (am_fam kd).1 = 21 then (if j < 0 ∨ (am_fam kd).2 ≤ j.toNatClampNeg then none else K (k + 1) ls (vl (g.2.1 kd j.toNatClampNeg) :: st) g) else none
      | _ => none
    | .aaload => match st with
      | .inl j :: .inr (.inr (kd, i)) :: st => if (am_fam kd).1 = 25 ∨ (am_fam kd).1 = 26 then (if j < 0 ∨ (am_fam kd).2 ≤ j.toNatClampNeg then none else
          match am_re kd i j.toNatClampNeg with
          | some r => K (k + 1) ls (.inr (.inr r) :: st) g
          | none => none) else none
      | _ => none
    | .iastore => match st with
      | .inl v :: .inl j :: .inr (.inr (kd, i)) :: st => if (am_fam kd).1 = 20 then (if j < 0 ∨ (am_fam kd).2 ≤ j.toNatClampNeg then none else K (k + 1) ls st (am_ui g.1 kd i j.toNatClampNeg v, g.2)) else none
      | _ => none
    | .bastore => match st with
      | .inl v :: .inl j :: .inr (.inr (kd, i)) :: st =>
        if (am_fam kd).1 = 22 then (if j < 0 ∨ (am_fam kd).2 ≤ j.toNatClampNeg then none else K (k + 1) ls st (am_ui g.1 kd i j.toNatClampNeg (vp_nar .byte v), g.2))
        else if (am_fam kd).1 = 23 then (if j < 0 ∨ (am_fam kd).2 ≤ j.toNatClampNeg then none else K (k + 1) ls st (am_ui g.1 kd i j.toNatClampNeg (vp_nar .boolean v), g.2)) else none
      | _ => none
    | .lastore => match st with
      | .inr (.inl v) :: .inl j :: .inr (.inr (kd, _)) :: st => if (am_fam kd).1 = 21 then (if j < 0 ∨ (am_fam kd).2 ≤ j.toNatClampNeg then none else K (k + 1) ls st (g.1, am_ul g.2.1 kd j.toNatClampNeg v, g.2.2)) else none
      | _ => none
    | .arraylength => match st with
      | .inr (.inr (kd, _)) :: st => if 20 ≤ (am_fam kd).1 ∧ (am_fam kd).1 ≤ 26 then K (k + 1) ls (vi (Int32.ofNat (am_fam kd).2) :: st) g else none
      | _ => none
    | .invokestatic _ => am_inv K C a b c k ls st g
    | .invokevirtual _ =>
      if a = 900 then match st with
        | .inr (.inr (kd, i)) :: st => if kd = 200 then K (k + 1) ls (vi (Int32.ofNat (am_str i).length) :: st) g else none
        | _ => none
      else if a = 901 then match st with
        | .inl j :: .inr (.inr (kd, i)) :: st => if kd = 200 then (if j < 0 ∨ (am_str i).length ≤ j.toNatClampNeg then none else K (k + 1) ls (vi ((am_str i).getD j.toNatClampNeg 0) :: st) g) else none
        | _ => none
      else am_inv K C a b c k ls st g
    | .ireturn => match st with
      | [.inl v] => if a = 1 then (if v = 0 ∨ v = 1 then some (some (vi v), g) else none) else some (some (vi v), g)
      | _ => none
    | .lreturn => match st with
      | [.inr (.inl v)] => some (some (vl v), g)
      | _ => none
    | .return_ => match st with
      | [] => some (none, g)
      | _ => none
    | _ => none
