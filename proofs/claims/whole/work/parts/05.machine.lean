/-! cuts; one op of the small machine -/
def am_kutss : List (List (List (Nat × List Bool))) := [[[(5, [true, true])], [], [(9, [true, true, false]), (19, [true, true, true])], [(26, [true, true, true, true, true])], [(13, [true, true, true])], [(4, [true, true, true])], [], [(12, [true, true, true, true])], [(46, [true, true, true, true, true, true, true, false])], [], [(35, [true, true, true, true, true, true, true])], [(9, [true, true, true, true, true, true, true])], [], [(2, [true, true, true])], [(2, [true, true, true])], [(16, [true, true, true]), (31, [true, true, true])], [], [(4, [true, true, true, true])]], [[(4, [true, true, true, true])], [], [], [], [(2, [true, true, true, true, true, false])], [], [(8, [true, true])], [], [], [], [], [(14, [true, true, true, true, false])], [], [], [(46, [true, true, true, false, false])], [], [], [(12, [true, true, true])]], [[(2, [true, true])], [(11, [true, false, true, false, false]), (29, [true, false, true, false, true])], [], [(6, [true, true, true, true, true, true])], [], [], [], [], [], [], [], [(8, [true, true, true, true, true, true, true, true, true])], [], [(4, [true, true, true, true, true, true])], [], [], [], [(2, [true, true])]], [[], [(3, [true])], [(28, [true, true, true, true, true])], [(15, [true, true, true, true, true, true, false])], [(31, [true, true, true, true])], [], [(5, [true, true, true])], [(5, [true, true, true])], [], [], [], [(5, [true, true, true, false, false])], [(5, [true, true, true, false, false])], [], [], [], [], []], [[], [], [], [(6, [true, true, true, true, true, true])], [(15, [true, true, true, true, false, true, true, true])], [(2, [true, true, true])], [], [(4, [true, true, true])], [(9, [true, true, true, false]), (34, [true, false, true, true])], [], [(21, [true, true, true, true, true])], [(4, [true, true, true, true, true, false])], [(5, [true, true, true])], [(2, [true, true, true, false]), (10, [true, true, true, true])], [], [(4, [true, true, true])], [(5, [true, true, false, false, false]), (29, [true, true, false, true, true])], []], [[(2, [true, true, true])], [], [(21, [true, true, true]), (72, [true, true, true])], [], [(12, [true, true, true, true, true, false])], [], [(38, [true, true, true])], [(33, [true, true, true, true])], [], [], [], [], [], [], [(4, [true, true, true, true, true])], [], [], []], [[], [], [], [], [], [], [], [], [], [], [], [], [], [], [], [], [(21, [true, true, true, true, true, true, true, false, false]), (30, [true, true, true, true, true, true, true, true, true])], [(4, [true, true, true, true, true])]], [[(10, [true, true, true, true, true, false]), (17, [true, true, true, true, true, true])], [], [], [], [(15, [true, true, true, true, true, false])], [(33, [true, false, true, true, true])], [(2, [true, true])], [], [], [], [(17, [true, true, true, true, true])], [], [], [], [], [], [], []], [[], [], [], [(18, [true, true, true, true, true, true, true, false])], [], [(34, [true, true]), (44, [true, false])], [(0, [true])], [], [], [], [(17, [true, true, true, false]), (40, [true, true, false, true])], [], [], [], [], [(30, [true, true, false])], [], [(2, [true, true, false, true])]], [[(2, [true, true, false, true])], [(18, [true, false, true, true, true, false, false]), (79, [true, false, true, false, false, true, false])], [], [], [], [], [(49, [true, false, true, true, false, true, false, false]), (64, [true, false, true, true, false, true, true, true])], [(26, [true, true, true, true, true])], [], [], [], [(16, [true, false, true, true, false])], [], [], [(2, [true, true]), (19, [true, true]), (46, [true, true]), (63, [true, true]), (80, [true, true]), (97, [true, true]), (114, [true, true])], [], [], []], [[], [(16, [true, true, false, true, true]), (32, [true, true, false, true, true])], [], [], [], [], [(2, [true, true, true, true])], [], [], [(6, [false, false, true, true, false, true, true, false]), (25, [false, false, true, true, false, false, true, false])], [], [], [(2, [true, true, true])], [], [], [], [], []], [[], [], [], [], [(5, [true, true, true])], [], [(5, [true, true, false, false]), (51, [true, true, true, false])], [(2, [true, true, true, true, false, false, false, false]), (18, [true, true, true, true, true, false, false, false]), (46, [true, true, true, true, true, true, true, true])], [(13, [true, true, false, true, true])], [], [], [], [(7, [true, true, true, true])], [], [(2, [true, true, true, true, true])], [], [], []], [[], [], [], [], [(11, [true, false, true, true, true])], [(26, [true, true, true, true, true, true])], [(7, [true, true, true, true, true, true]), (17, [true, true, true, true, true, true])], [(29, [true, true, false, true, true])], [], [], [(5, [true, true, true])], [(2, [true, true, true, true])], [(8, [true, false, true])], [(2, [true, true, true, true, false]), (7, [true, true, true, true, true])], [(3, [true, true, true, true])], [(19, [true, true, true, true, true, true, true, false, false]), (27, [true, true, true, true, true, true, true, true, true]), (67, [false, false, false, false, false, false, true, true, false])], [], [(7, [true, true, true, true, true, false]), (13, [true, true, true, true, true, true])]], [[], [], [], [(20, [true, true, true]), (41, [true, true, true])], [], [], [], [(12, [true, true, true, true, false])], [(25, [true, true, true, true, false])], [(12, [true, true, true, true])], [], [(2, [true, true, true, false, false]), (10, [true, true, true, true, true])], [], [(5, [true, true])], [], [(12, [true, true, true, true])], [(4, [true, true, true, false, false]), (17, [true, true, true, true, true])], []], [[(12, [true, true, true, true])], [(4, [true, true, true])], [(4, [true, false, true, true])], [(5, [true, true, true])], [(29, [true, true, true, true, true, true, true])], [(16, [true, true, true, true, true])], [(86, [true, true, true])], [], [(2, [true, true, false]), (55, [true, false, false])], [], [], [], [(9, [true, true, true]), (27, [true, true, false])], [(2, [true, true, false, false, false, false])], [], [], [], [(0, [true])]], [[], [(0, [true, false]), (82, [true, true]), (128, [true, true])], [(5, [true, true])], [], [(0, [true])], [], [(0, [true])], [(0, [true]), (16, [true]), (43, [true]), (69, [true])], [(2, [true, true])], [(5, [true, true, true, false])], [], [], [(4, [true, true, false, true, true, true])], [], [], [], [], []], [[(8, [true, true])], [(4, [true, true, true, true])], [], [(25, [true, true, true])], [(50, [true, true, true, true])], [], [], [], [], [], [], []]]
def am_kuts (m : Nat) : List (Nat × List Bool) := match am_nth am_kutss (m / 18) with
  | none => []
  | some g => match am_nth g (m % 18) with
    | none => []
    | some c => c
def am_ui (c : Nat → Nat → Nat → Int32) (k i j : Nat) (v : Int32) : Nat → Nat → Nat → Int32 := fun k2 i2 j2 => if k2 = k ∧ i2 = i ∧ j2 = j then v else c k2 i2 j2
def am_ul (l : Nat → Nat → Int64) (k j : Nat) (v : Int64) : Nat → Nat → Int64 := fun k2 j2 => if k2 = k ∧ j2 = j then v else l k2 j2
def am_ld : ml → Nat → Option mv
  | [], _ => none
  | v :: _, 0 => v
  | _ :: l, n + 1 => am_ld l n
def am_set : ml → Nat → Option mv → ml
  | [], _, _ => []
  | _ :: l, 0, v => v :: l
  | a :: l, n + 1, v => a :: am_set l n v
/-- the place ahead: a long there is no more -/
def am_kill : ml → Nat → ml
  | ls, 0 => ls
  | ls, n + 1 => match am_ld ls n with
    | some (.inr (.inl _)) => am_set ls n none
    | _ => ls
def am_s1 (ls : ml) (a : Nat) (v : mv) : ml := am_set (am_kill ls a) a (some v)
def am_s2 (ls : ml) (a : Nat) (v : mv) : ml := am_set (am_set (am_kill ls a) a (some v)) (a + 1) none
def am_mask : List Bool → ml → ml
  | b :: bs, v :: vs => (match b with | true => v | false => none) :: am_mask bs vs
  | _, _ => []
def am_cat1 (v : mv) : Nat := match v with
  | .inr (.inl _) => 2
  | _ => 1
def am_cat : List mv → Nat
  | [] => 0
  | v :: l => am_cat1 v + am_cat l
def am_swf {α : Type} (x : Int32) : List (Int32 × Nat) → Nat → (Nat → α) → α
  | [], d, f => f d
  | (v, t) :: l, d, f => if x = v then f t else am_swf x l d f
/-- behind a call that answers nothing, an int, a long -/
def am_bv (o : Option mr) (f : mg → Option mr) : Option mr := match o with
  | some (none, g) => f g
  | _ => none
def am_bi (o : Option mr) (f : Int32 → mg → Option mr) : Option mr := match o with
  | some (some (.inl v), g) => f v g
  | _ => none
def am_bl (o : Option mr) (f : Int64 → mg → Option mr) : Option mr := match o with
  | some (some (.inr (.inl v)), g) => f v g
  | _ => none
def am_inv (K : Nat → ml → List mv → mg → Option mr) (C : Nat → List mv → mg → Option mr) (a b c k : Nat) (ls : ml) (st : List mv) (g : mg) : Option mr :=
  if b ≤ st.length ∧ am_cat (st.drop b) ≤ 8 ∧ am_cat (st.take b).reverse ≤ (am_head a).2.1 then
    match c with
    | 0 => am_bv (C a (st.take b).reverse g) (fun g => K (k + 1) ls (st.drop b) g)
    | 1 => am_bi (C a (st.take b).reverse g) (fun v g => K (k + 1) ls (vi v :: st.drop b) g)
    | 2 => am_bl (C a (st.take b).reverse g) (fun v g => K (k + 1) ls (vl v :: st.drop b) g)
    | _ => none
  else none
def am_fd (x y : Int32) : Int32 := if (x ^^^ y) < 0 then (if x / y * y = x then x / y else x / y - 1) else x / y
def am_m2i (f : Int32 → Int32 → Int32) (K : Nat → ml → List mv → mg → Option mr) (k : Nat) (ls : ml) (st : List mv) (g : mg) : Option mr := match st with
  | .inl y :: .inl x :: st => if am_cat st ≤ 8 then K (k + 1) ls (vi (f x y) :: st) g else none
  | _ => none
def am_m2l (f : Int64 → Int64 → Int64) (K : Nat → ml → List mv → mg → Option mr) (k : Nat) (ls : ml) (st : List mv) (g : mg) : Option mr := match st with
  | .inr (.inl y) :: .inr (.inl x) :: st => if am_cat st ≤ 8 then K (k + 1) ls (vl (f x y) :: st) g else none
  | _ => none
/-- Math's own: min, max, floorDiv -/
def am_math (K : Nat → ml → List mv → mg → Option mr) (a k : Nat) (ls : ml) (st : List mv) (g : mg) : Option mr :=
  if a = 294 then am_m2i (fun x y => if y < x then y else x) K k ls st g
  else if a = 295 then am_m2i (fun x y => if x < y then y else x) K k ls st g
  else if a = 296 then am_m2l (fun x y => if y < x then y else x) K k ls st g
  else if a = 297 then am_m2l (fun x y => if y < x then x else y) K k ls st g
  else match st with
    | .inl y :: .inl x :: st => if y = 0 then none else if am_cat st ≤ 8 then K (k + 1) ls (vi (am_fd x y) :: st) g else none
    | _ => none
/-- the receiver is of the method's own class -/
def am_rcv (a : Nat) (as : List mv) : Bool := match as with
  | .inr (.inr (kd, _)) :: _ => Nat.beq (am_fam kd).1 (am_head a).1
  | _ => false
def am_do (K : Nat → ml → List mv → mg → Option mr) (C : Nat → List mv → mg → Option mr) (o : mo) (k : Nat) (ls : ml) (st : List mv) (g : mg) : Option mr :=
  match o with
  | (i, a, b, c, z) => match i with
    | .iconst _ => K (k + 1) ls (z :: st) g
    | .bipush _ => K (k + 1) ls (z :: st) g
    | .sipush _ => K (k + 1) ls (z :: st) g
    | .lconst _ => K (k + 1) ls (z :: st) g
    | .ldc _ => K (k + 1) ls (z :: st) g
    | .ldc_w _ => K (k + 1) ls (z :: st) g
    | .ldc2_w _ => K (k + 1) ls (z :: st) g
    | .iload _ => match am_ld ls a with | some (.inl v) => K (k + 1) ls (.inl v :: st) g | _ => none
    | .iload_n _ => match am_ld ls a with | some (.inl v) => K (k + 1) ls (.inl v :: st) g | _ => none
    | .lload _ => match am_ld ls a with | some (.inr (.inl v)) => K (k + 1) ls (.inr (.inl v) :: st) g | _ => none
    | .lload_n _ => match am_ld ls a with | some (.inr (.inl v)) => K (k + 1) ls (.inr (.inl v) :: st) g | _ => none
    | .aload _ => match am_ld ls a with | some (.inr (.inr v)) => K (k + 1) ls (.inr (.inr v) :: st) g | _ => none
    | .aload_n _ => match am_ld ls a with | some (.inr (.inr v)) => K (k + 1) ls (.inr (.inr v) :: st) g | _ => none
    | .istore _ => match st with | .inl v :: st => K (k + 1) (am_s1 ls a (.inl v)) st g | _ => none
    | .istore_n _ => match st with | .inl v :: st => K (k + 1) (am_s1 ls a (.inl v)) st g | _ => none
    | .astore _ => match st with | .inr (.inr v) :: st => K (k + 1) (am_s1 ls a (.inr (.inr v))) st g | _ => none
    | .astore_n _ => match st with | .inr (.inr v) :: st => K (k + 1) (am_s1 ls a (.inr (.inr v))) st g | _ => none
    | .lstore _ => match st with | .inr (.inl v) :: st => K (k + 1) (am_s2 ls a (.inr (.inl v))) st g | _ => none
    | .lstore_n _ => match st with | .inr (.inl v) :: st => K (k + 1) (am_s2 ls a (.inr (.inl v))) st g | _ => none
    | .iinc _ _ => match am_ld ls a, z with | some (.inl v), .inl n => K (k + 1) (am_s1 ls a (.inl (v + n))) st g | _, _ => none
    | .iadd => match st with | .inl y :: .inl x :: st => K (k + 1) ls (.inl (x + y) :: st) g | _ => none
    | .isub => match st with | .inl y :: .inl x :: st => K (k + 1) ls (.inl (x - y) :: st) g | _ => none
    | .imul => match st with | .inl y :: .inl x :: st => K (k + 1) ls (.inl (x * y) :: st) g | _ => none
    | .idiv => match st with | .inl y :: .inl x :: st => if y = 0 then none else K (k + 1) ls (.inl (x / y) :: st) g | _ => none
    | .irem => match st with | .inl y :: .inl x :: st => if y = 0 then none else K (k + 1) ls (.inl (x - x / y * y) :: st) g | _ => none
    | .iand => match st with | .inl y :: .inl x :: st => K (k + 1) ls (.inl (x &&& y) :: st) g | _ => none
    | .ior => match st with | .inl y :: .inl x :: st => K (k + 1) ls (.inl (x ||| y) :: st) g | _ => none
    | .ixor => match st with | .inl y :: .inl x :: st => K (k + 1) ls (.inl (x ^^^ y) :: st) g | _ => none
    | .ishl => match st with | .inl y :: .inl x :: st => K (k + 1) ls (.inl (x <<< (y &&& 31)) :: st) g | _ => none
    | .ishr => match st with | .inl y :: .inl x :: st => K (k + 1) ls (.inl (x >>> (y &&& 31)) :: st) g | _ => none
    | .iushr => match st with | .inl y :: .inl x :: st => K (k + 1) ls (.inl ((x.toUInt32 >>> (y.toUInt32 &&& Int32.toUInt32 31)).toInt32) :: st) g | _ => none
    | .ladd => match st with | .inr (.inl y) :: .inr (.inl x) :: st => K (k + 1) ls (.inr (.inl (x + y)) :: st) g | _ => none
    | .lsub => match st with | .inr (.inl y) :: .inr (.inl x) :: st => K (k + 1) ls (.inr (.inl (x - y)) :: st) g | _ => none
    | .lmul => match st with | .inr (.inl y) :: .inr (.inl x) :: st => K (k + 1) ls (.inr (.inl (x * y)) :: st) g | _ => none
    | .land => match st with | .inr (.inl y) :: .inr (.inl x) :: st => K (k + 1) ls (.inr (.inl (x &&& y)) :: st) g | _ => none
    | .ldiv => match st with | .inr (.inl y) :: .inr (.inl x) :: st => if y = 0 then none else K (k + 1) ls (.inr (.inl (x / y)) :: st) g | _ => none
    | .lrem => match st with | .inr (.inl y) :: .inr (.inl x) :: st => if y = 0 then none else K (k + 1) ls (.inr (.inl (x - x / y * y)) :: st) g | _ => none
    | .i2l => match st with | .inl x :: st => K (k + 1) ls (.inr (.inl x.toInt64) :: st) g | _ => none
    | .l2i => match st with | .inr (.inl x) :: st => K (k + 1) ls (.inl x.toInt32 :: st) g | _ => none
    | .i2b => match st with | .inl x :: st => K (k + 1) ls (.inl x.toInt8.toInt32 :: st) g | _ => none
    | .lcmp => match st with | .inr (.inl y) :: .inr (.inl x) :: st => K (k + 1) ls (.inl (lg_cmp x y) :: st) g | _ => none
    | .dup => match st with
      | .inl v :: st => K (k + 1) ls (.inl v :: .inl v :: st) g
      | .inr (.inr v) :: st => K (k + 1) ls (.inr (.inr v) :: .inr (.inr v) :: st) g
      | _ => none
    | .dup2 => match st with
      | .inl v :: .inr (.inr r) :: st => K (k + 1) ls (.inl v :: .inr (.inr r) :: .inl v :: .inr (.inr r) :: st) g
      | _ => none
    | .pop => match st with | .inl _ :: st => K (k + 1) ls st g | _ => none
    | .ifCond .eq _ => match st with | .inl x :: st => if x = 0 then K a ls st g else K (k + 1) ls st g | _ => none
    | .ifCond .ne _ => match st with | .inl x :: st => if x = 0 then K (k + 1) ls st g else K a ls st g | _ => none
    | .ifCond .lt _ => match st with | .inl x :: st => if x < 0 then K a ls st g else K (k + 1) ls st g | _ => none
    | .ifCond .ge _ => match st with | .inl x :: st => if x < 0 then K (k + 1) ls st g else K a ls st g | _ => none
    | .ifCond .gt _ => match st with | .inl x :: st => if 0 < x then K a ls st g else K (k + 1) ls st g | _ => none
    | .ifCond .le _ => match st with | .inl x :: st => if 0 < x then K (k + 1) ls st g else K a ls st g | _ => none
    | .if_icmp .eq _ => match st with | .inl y :: .inl x :: st => if x = y then K a ls st g else K (k + 1) ls st g | _ => none
    | .if_icmp .ne _ => match st with | .inl y :: .inl x :: st => if x = y then K (k + 1) ls st g else K a ls st g | _ => none
    | .if_icmp .lt _ => match st with | .inl y :: .inl x :: st => if x < y then K a ls st g else K (k + 1) ls st g | _ => none
    | .if_icmp .ge _ => match st with | .inl y :: .inl x :: st => if x < y then K (k + 1) ls st g else K a ls st g | _ => none
    | .if_icmp .gt _ => match st with | .inl y :: .inl x :: st => if y < x then K a ls st g else K (k + 1) ls st g | _ => none
    | .if_icmp .le _ => match st with | .inl y :: .inl x :: st => if y < x then K (k + 1) ls st g else K a ls st g | _ => none
    | .goto _ => K a ls st g
    | .tableswitch _ _ _ _ => match st with
      | .inl x :: st => match am_nth am_sws a with
        | some (l, d) => am_swf x l d (fun t => K t ls st g)
        | none => none
      | _ => none
    | .lookupswitch _ _ => match st with
      | .inl x :: st => match am_nth am_sws a with
        | some (l, d) => am_swf x l d (fun t => K t ls st g)
        | none => none
      | _ => none
    | .getfield _ => match st with
      | .inr (.inr (kd, i)) :: st => if (am_fam kd).1 = a then
          match c with
          | 1 => K (k + 1) ls (vl (g.2.1 kd b) :: st) g
          | 2 => match am_rf kd b i g.2.2.1 g.2.2.2 with
            | some r => K (k + 1) ls (.inr (.inr r) :: st) g
            | none => none
          | _ => K (k + 1) ls (vi (g.1 kd i b) :: st) g
        else none
      | _ => none
    | .putfield _ => match c with
      | 0 => match st with
        | .inl v :: .inr (.inr (kd, i)) :: st => if (am_fam kd).1 = a then K (k + 1) ls st (am_ui g.1 kd i b v, g.2) else none
        | _ => none
      | 3 => match st with
        | .inl v :: .inr (.inr (kd, i)) :: st => if (am_fam kd).1 = a then (if v = 0 ∨ v = 1 then K (k + 1) ls st (am_ui g.1 kd i b v, g.2) else none) else none
        | _ => none
      | 1 => match st with
        | .inr (.inl v) :: .inr (.inr (kd, _)) :: st => if (am_fam kd).1 = a then K (k + 1) ls st (g.1, am_ul g.2.1 kd b v, g.2.2) else none
        | _ => none
      | 2 => match st with
        | .inr (.inr (kv, j)) :: .inr (.inr (kd, _)) :: st => if (am_fam kd).1 = a ∧ kv = 4 then
            match am_nth am_rfs kd with
            | none => none
            | some r => match am_nth r b with
              | some (some (_, 2)) => K (k + 1) ls st (g.1, g.2.1, j, g.2.2.2)
              | some (some (_, 3)) => K (k + 1) ls st (g.1, g.2.1, g.2.2.1, j)
              | _ => none
          else none
        | _ => none
      | _ => none
    | .iaload => match st with
      | .inl j :: .inr (.inr (kd, i)) :: st => if (am_fam kd).1 = 20 then (if j < 0 ∨ (am_fam kd).2 ≤ j.toNatClampNeg then none else K (k + 1) ls (vi (g.1 kd i j.toNatClampNeg) :: st) g) else none
      | _ => none
    | .baload => match st with
      | .inl j :: .inr (.inr (kd, i)) :: st => if (am_fam kd).1 = 22 ∨ (am_fam kd).1 = 23 then (if j < 0 ∨ (am_fam kd).2 ≤ j.toNatClampNeg then none else K (k + 1) ls (vi (g.1 kd i j.toNatClampNeg) :: st) g) else none
      | _ => none
    | .caload => match st with
      | .inl j :: .inr (.inr (kd, i)) :: st => if (am_fam kd).1 = 24 then (if j < 0 ∨ (am_fam kd).2 ≤ j.toNatClampNeg then none else K (k + 1) ls (vi (g.1 kd i j.toNatClampNeg) :: st) g) else none
      | _ => none
    | .laload => match st with
      | .inl j :: .inr (.inr (kd, _)) :: st => if (am_fam kd).1 = 21 then (if j < 0 ∨ (am_fam kd).2 ≤ j.toNatClampNeg then none else K (k + 1) ls (vl (g.2.1 kd j.toNatClampNeg) :: st) g) else none
      | _ => none
    | .aaload => match st with
      | .inl j :: .inr (.inr (kd, i)) :: st => if (am_fam kd).1 = 25 ∨ (am_fam kd).1 = 26 then (if j < 0 ∨ (am_fam kd).2 ≤ j.toNatClampNeg then none else
          match am_re kd i j.toNatClampNeg with
          | some r => K (k + 1) ls (.inr (.inr r) :: st) g
          | none => none) else none
      | _ => none
    | .iastore => match st with
      | .inl v :: .inl j :: .inr (.inr (kd, i)) :: st => if (am_fam kd).1 = 20 then (if j < 0 ∨ (am_fam kd).2 ≤ j.toNatClampNeg then none else K (k + 1) ls st (am_ui g.1 kd i j.toNatClampNeg v, g.2)) else none
      | _ => none
    | .bastore => match st with
      | .inl v :: .inl j :: .inr (.inr (kd, i)) :: st =>
        if (am_fam kd).1 = 22 then (if j < 0 ∨ (am_fam kd).2 ≤ j.toNatClampNeg then none else K (k + 1) ls st (am_ui g.1 kd i j.toNatClampNeg (vp_nar .byte v), g.2))
        else if (am_fam kd).1 = 23 then (if j < 0 ∨ (am_fam kd).2 ≤ j.toNatClampNeg then none else K (k + 1) ls st (am_ui g.1 kd i j.toNatClampNeg (vp_nar .boolean v), g.2)) else none
      | _ => none
    | .lastore => match st with
      | .inr (.inl v) :: .inl j :: .inr (.inr (kd, _)) :: st => if (am_fam kd).1 = 21 then (if j < 0 ∨ (am_fam kd).2 ≤ j.toNatClampNeg then none else K (k + 1) ls st (g.1, am_ul g.2.1 kd j.toNatClampNeg v, g.2.2)) else none
      | _ => none
    | .arraylength => match st with
      | .inr (.inr (kd, _)) :: st => if 20 ≤ (am_fam kd).1 ∧ (am_fam kd).1 ≤ 26 then K (k + 1) ls (vi (Int32.ofNat (am_fam kd).2) :: st) g else none
      | _ => none
    | .invokestatic _ => if 294 ≤ a ∧ a ≤ 298 then am_math K a k ls st g else am_inv K C a b c k ls st g
    | .invokevirtual _ =>
      if a = 900 then match st with
        | .inr (.inr (kd, i)) :: st => if kd = 200 ∧ am_cat st ≤ 8 then K (k + 1) ls (vi (Int32.ofNat (am_str i).length) :: st) g else none
        | _ => none
      else if a = 901 then match st with
        | .inl j :: .inr (.inr (kd, i)) :: st => if kd = 200 ∧ am_cat st ≤ 8 then (if j < 0 ∨ (am_str i).length ≤ j.toNatClampNeg then none else K (k + 1) ls (vi ((am_str i).getD j.toNatClampNeg 0) :: st) g) else none
        | _ => none
      else if am_rcv a (st.take b).reverse = true then am_inv K C a b c k ls st g else none
    | .ireturn => match st with
      | [.inl v] => if a = 1 then (if v = 0 ∨ v = 1 then some (some (vi v), g) else none) else some (some (vi v), g)
      | _ => none
    | .lreturn => match st with
      | [.inr (.inl v)] => some (some (vl v), g)
      | _ => none
    | .return_ => match st with
      | [] => some (none, g)
      | _ => none
    | _ => none
