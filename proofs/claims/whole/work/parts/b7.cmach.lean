/-! the machine of the constructors: cells in the order of their making; a reference is vr 200 (its place) -/
abbrev kcell : Type := (Nat × List (Option mv)) ⊕ (Nat × Nat × List (Nat × mv))
abbrev kh : Type := List kcell × Nat × Nat
def kdef (C : Nat) : List (Option mv) := (List.range (am_N C)).map (fun s => match am_fty C s with
  | 1 => some (vl 0)
  | 2 => none
  | _ => some (vi 0))
def karr : ArrayType → Nat
  | .int => 20
  | .long => 21
  | .byte => 22
  | .boolean => 23
  | .char => 24
  | _ => 99
def kfit (ty : Nat) (v : mv) : Bool := match v with
  | .inl x => Nat.beq ty 0 || (Nat.beq ty 3 && (decide (x = 0) || decide (x = 1)))
  | .inr (.inl _) => Nat.beq ty 1
  | .inr (.inr r) => Nat.beq ty 2 && Nat.beq r.1 200
def kmul (h : Nat) : Nat → List (Nat × mv)
  | 0 => []
  | n + 1 => (n, vr 200 (h + 1 + n)) :: kmul h n
def kinner (m : Nat) : Nat → List kcell
  | 0 => []
  | n + 1 => .inr (20, m, []) :: kinner m n
def kfrom : List kop → Nat → List kop
  | [], _ => []
  | o :: l, t => bif Nat.beq o.1 t then o :: l else kfrom l t
def kin (i : Int32) (n : Nat) : Bool := !decide (i < 0) && Nat.blt i.toNatClampNeg n
/-- room for one more cell of n slots -/
def kroom (y c s n k : Nat) : Bool := Nat.ble (c + k) (klim y).1 && Nat.ble (s + n) (klim y).2
def kst (t : Nat) (x : Int32) : Int32 := match t with
  | 20 => x
  | 23 => vp_nar .boolean x
  | 24 => vp_nar .char x
  | _ => 0
def kput (K : List kop → ml → List mv → kh → Option kh) (t : Nat) (tl : List kop) (ls : ml) (st : List mv) (g : kh) : Option kh := match st with
  | .inl x :: .inl i :: .inr (.inr (k, r)) :: st => match g.1[r]? with
    | some (.inr (t2, n, u)) => bif Nat.beq k 200 && (Nat.beq t2 t && kin i n) then K tl ls st (g.1.set r (.inr (t2, n, (i.toNatClampNeg, vi (kst t x)) :: u)), g.2) else none
    | _ => none
  | _ => none
def kisr (as : List mv) : Bool := match as with
  | .inr (.inr _) :: _ => true
  | _ => false
def kcal (K : List kop → ml → List mv → kh → Option kh) (C : Nat → List mv → List kcell → Option (List kcell)) (y a n : Nat) (tl : List kop) (ls : ml) (st : List mv) (g : kh) : Option kh :=
  bif Nat.ble n st.length && (kisr (st.take n).reverse && (Nat.ble (am_cat (st.drop n)) 8 && (Nat.ble (am_cat (st.take n).reverse) (khead a).2.1 && kroom y g.2.1 g.2.2 (klim a).2 (klim a).1))) then
    match C a (st.take n).reverse g.1 with
    | some hs => bif Nat.beq hs.length (g.1.length + (klim a).1) then K tl ls (st.drop n) (hs, g.2.1 + (klim a).1, g.2.2 + (klim a).2) else none
    | none => none
  else none
def kstep (K : List kop → ml → List mv → kh → Option kh) (C : Nat → List mv → List kcell → Option (List kcell)) (y : Nat) (o : kop) (tl : List kop) (ls : ml) (st : List mv) (g : kh) : Option kh :=
  match o with
  | (_, i, _, a, b, _) => match i with
    | .iconst n => K tl ls (vi (Int32.ofInt n) :: st) g
    | .bipush n => K tl ls (vi (Int8.ofInt n).toInt32 :: st) g
    | .sipush n => K tl ls (vi (Int16.ofInt n).toInt32 :: st) g
    | .lconst n => K tl ls (vl (Int64.ofNat n.val) :: st) g
    | .aload_n k => match am_ld ls k.val with
      | some (.inr (.inr v)) => K tl ls (.inr (.inr v) :: st) g
      | _ => none
    | .iload_n k => match am_ld ls k.val with
      | some (.inl v) => K tl ls (.inl v :: st) g
      | _ => none
    | .istore_n k => match st with
      | .inl v :: st => bif Nat.blt k.val (khead y).2.1 then K tl (am_s1 ls k.val (.inl v)) st g else none
      | _ => none
    | .iinc k n => match am_ld ls k with
      | some (.inl v) => K tl (am_s1 ls k (.inl (v + Int32.ofInt n))) st g
      | _ => none
    | .dup => match st with
      | .inl v :: st => K tl ls (.inl v :: .inl v :: st) g
      | .inr (.inr v) :: st => K tl ls (.inr (.inr v) :: .inr (.inr v) :: st) g
      | _ => none
    | .goto _ => K (kfrom (kprog y) a) ls st g
    | .if_icmp .ge _ => match st with
      | .inl v :: .inl u :: st => if u < v then K tl ls st g else K (kfrom (kprog y) a) ls st g
      | _ => none
    | .new _ => bif kroom y g.2.1 g.2.2 (am_N a) 1 then K tl ls (vr 200 g.1.length :: st) (g.1 ++ [.inl (a, kdef a)], g.2.1 + 1, g.2.2 + am_N a) else none
    | .newarray t => match st with
      | .inl n :: st => bif !decide (n < 0) && (Nat.ble n.toNatClampNeg 60000000 && (Nat.blt (karr t) 90 && kroom y g.2.1 g.2.2 n.toNatClampNeg 1)) then K tl ls (vr 200 g.1.length :: st) (g.1 ++ [.inr (karr t, n.toNatClampNeg, [])], g.2.1 + 1, g.2.2 + n.toNatClampNeg) else none
      | _ => none
    | .anewarray _ => match st with
      | .inl n :: st => bif !decide (n < 0) && (Nat.ble n.toNatClampNeg 60000000 && kroom y g.2.1 g.2.2 n.toNatClampNeg 1) then K tl ls (vr 200 g.1.length :: st) (g.1 ++ [.inr (25, n.toNatClampNeg, [])], g.2.1 + 1, g.2.2 + n.toNatClampNeg) else none
      | _ => none
    | .multianewarray _ d => match st with
      | .inl m :: .inl n :: st => bif Nat.beq d 2 && (!decide (n < 0) && (!decide (m < 0) && (Nat.ble n.toNatClampNeg 60000000 && (Nat.ble m.toNatClampNeg 60000000 && kroom y g.2.1 g.2.2 (n.toNatClampNeg + n.toNatClampNeg * m.toNatClampNeg) (1 + n.toNatClampNeg))))) then
          K tl ls (vr 200 g.1.length :: st) (g.1 ++ (.inr (26, n.toNatClampNeg, kmul g.1.length n.toNatClampNeg) :: kinner m.toNatClampNeg n.toNatClampNeg), g.2.1 + (1 + n.toNatClampNeg), g.2.2 + (n.toNatClampNeg + n.toNatClampNeg * m.toNatClampNeg))
        else none
      | _ => none
    | .putfield _ => match st with
      | v :: .inr (.inr (k, r)) :: st => match g.1[r]? with
        | some (.inl (C2, fs)) => bif Nat.beq k 200 && (Nat.beq C2 a && (kfit (am_fty a b) v && Nat.blt b fs.length)) then K tl ls st (g.1.set r (.inl (C2, fs.set b (some v))), g.2) else none
        | _ => none
      | _ => none
    | .getfield _ => match st with
      | .inr (.inr (k, r)) :: st => match g.1[r]? with
        | some (.inl (C2, fs)) => match fs[b]? with
          | some (some v) => bif Nat.beq k 200 && Nat.beq C2 a then K tl ls (v :: st) g else none
          | _ => none
        | _ => none
      | _ => none
    | .iastore => kput K 20 tl ls st g
    | .castore => kput K 24 tl ls st g
    | .bastore => kput K 23 tl ls st g
    | .aastore => match st with
      | .inr (.inr (k2, q)) :: .inl i :: .inr (.inr (k, r)) :: st => match g.1[r]?, g.1[q]? with
        | some (.inr (t, n, u)), some (.inl (C2, _)) => bif Nat.beq k 200 && (Nat.beq k2 200 && (Nat.beq t 25 && (Nat.beq C2 10 && kin i n))) then K tl ls st (g.1.set r (.inr (t, n, (i.toNatClampNeg, vr 200 q) :: u)), g.2) else none
        | _, _ => none
      | _ => none
    | .invokespecial _ => bif Nat.beq a 99 then (match st with
        | .inr (.inr _) :: st => bif Nat.ble (am_cat st) 8 then K tl ls st g else none
        | _ => none) else kcal K C y a (b % 10) tl ls st g
    | .invokevirtual _ => bif Nat.beq a 6 then (match st with
        | [.inr (.inr (k, r))] => match g.1[r]? with
          | some (.inl (C2, _)) => bif Nat.beq k 200 && Nat.beq C2 4 then kcal K C y 6 1 tl ls st g else none
          | _ => none
        | _ => none) else none
    | .return_ => match st with
      | [] => some g
      | _ => none
    | _ => none
def kend (y : Nat) (r : Option kh) : Option (List kcell) := match r with
  | some (hs, c, s) => bif Nat.beq c (klim y).1 && Nat.beq s (klim y).2 then some hs else none
  | none => none
def kent (y : Nat) (as : List mv) : ml := am_pad (khead y).2.1 (am_entA as)
def kcx (f : Nat → Nat → List kop → ml → List mv → kh → Option kh) (d a : Nat) (as : List mv) (hs : List kcell) : Option (List kcell) := match d with
  | 0 => none
  | d2 + 1 => kend a (f d2 a (kprog a) (kent a as) [] (hs, 0, 0))
def kx : Nat → Nat → Nat → List kop → ml → List mv → kh → Option kh
  | 0 => fun _ _ _ _ _ _ => none
  | n + 1 => fun d y rest ls st g => match rest with
    | [] => none
    | o :: tl => kstep (kx n d y) (kcx (kx n) d) y o tl ls st g
/-- a method's run, from a heap to a heap -/
def krun (n d y : Nat) (as : List mv) (hs : List kcell) : Option (List kcell) := kend y (kx n d y (kprog y) (kent y as) [] (hs, 0, 0))
