/-! every op against its bytes and links -/
def am_tgt (bps : List Nat) (b : Nat) (off : Int) (t : Nat) : Bool := match am_nth bps t with
  | some q => decide ((b : Int) + off = (q : Int))
  | none => false
def am_nx (bps : List Nat) (k b len : Nat) : Bool := match am_nth bps (k + 1) with
  | some q => Nat.beq q (b + len)
  | none => false
def am_tsw (bps : List Nat) (b : Nat) : Int → List Int → List (Int32 × Nat) → Bool
  | _, [], [] => true
  | v, off :: offs, (x, t) :: l => decide (x.toInt = v) && (am_tgt bps b off t && am_tsw bps b (v + 1) offs l)
  | _, _, _ => false
def am_lsw (bps : List Nat) (b : Nat) : List (Int × Int) → List (Int32 × Nat) → Bool
  | [], [] => true
  | (v, off) :: offs, (x, t) :: l => decide (x.toInt = v) && (am_tgt bps b off t && am_lsw bps b offs l)
  | _, _ => false
def am_cf (own ret : Nat) (bps : List Nat) (k b len : Nat) (o : mo) : Bool :=
  match o with
  | (i, a, bb, c, z) => match i with
    | .iconst n => Nat.beq len 1 && (am_nx bps k b 1 && decide (z = vi (Int32.ofInt n)))
    | .bipush n => Nat.beq len 2 && (am_nx bps k b 2 && decide (z = vi (Int8.ofInt n).toInt32))
    | .sipush n => Nat.beq len 3 && (am_nx bps k b 3 && decide (z = vi (Int16.ofInt n).toInt32))
    | .lconst n => Nat.beq len 1 && (am_nx bps k b 1 && decide (z = vl (Int64.ofNat n.val)))
    | .ldc x => Nat.beq len 2 && (am_nx bps k b 2 && (match z with
      | .inl v => am_cis.any (fun e => Nat.beq e.1 own && (Nat.beq e.2.1 x && decide (e.2.2.1 = v)))
      | .inr (.inr (kd, j)) => Nat.beq kd 200 && am_srs.any (fun e => Nat.beq e.1 own && (Nat.beq e.2.1 x && Nat.beq e.2.2.1 j))
      | _ => false))
    | .ldc_w x => Nat.beq len 3 && (am_nx bps k b 3 && (match z with
      | .inl v => am_cis.any (fun e => Nat.beq e.1 own && (Nat.beq e.2.1 x && decide (e.2.2.1 = v)))
      | _ => false))
    | .ldc2_w x => Nat.beq len 3 && (am_nx bps k b 3 && (match z with
      | .inr (.inl v) => am_cls.any (fun e => Nat.beq e.1 own && (Nat.beq e.2.1 x && decide (e.2.2.1 = v)))
      | _ => false))
    | .iload n => Nat.beq len 2 && (am_nx bps k b 2 && Nat.beq n a)
    | .lload n => Nat.beq len 2 && (am_nx bps k b 2 && Nat.beq n a)
    | .aload n => Nat.beq len 2 && (am_nx bps k b 2 && Nat.beq n a)
    | .istore n => Nat.beq len 2 && (am_nx bps k b 2 && Nat.beq n a)
    | .lstore n => Nat.beq len 2 && (am_nx bps k b 2 && Nat.beq n a)
    | .astore n => Nat.beq len 2 && (am_nx bps k b 2 && Nat.beq n a)
    | .iload_n n => Nat.beq len 1 && (am_nx bps k b 1 && Nat.beq n.val a)
    | .lload_n n => Nat.beq len 1 && (am_nx bps k b 1 && Nat.beq n.val a)
    | .aload_n n => Nat.beq len 1 && (am_nx bps k b 1 && Nat.beq n.val a)
    | .istore_n n => Nat.beq len 1 && (am_nx bps k b 1 && Nat.beq n.val a)
    | .lstore_n n => Nat.beq len 1 && (am_nx bps k b 1 && Nat.beq n.val a)
    | .astore_n n => Nat.beq len 1 && (am_nx bps k b 1 && Nat.beq n.val a)
    | .iinc n x => Nat.beq len 3 && (am_nx bps k b 3 && (Nat.beq n a && decide (z = vi (Int32.ofInt x))))
    | .ifCond _ off => Nat.beq len 3 && (am_nx bps k b 3 && am_tgt bps b off a)
    | .if_icmp _ off => Nat.beq len 3 && (am_nx bps k b 3 && am_tgt bps b off a)
    | .goto off => Nat.beq len 3 && am_tgt bps b off a
    | .tableswitch d lo hi offs => match am_nth am_sws a with
      | some (l, t) => am_tgt bps b d t && (decide ((offs.size : Int) = hi - lo + 1) && am_tsw bps b lo offs.toList l)
      | none => false
    | .lookupswitch d ps => match am_nth am_sws a with
      | some (l, t) => am_tgt bps b d t && ((ps.toList.zip (ps.toList.drop 1)).all (fun (a, next) => a.1 < next.1) && am_lsw bps b ps.toList l)
      | none => false
    | .getfield x => Nat.beq len 3 && (am_nx bps k b 3 && (Nat.beq (am_fty a bb) c && am_fls.any (fun e => Nat.beq e.1 own && (Nat.beq e.2.1 x && (Nat.beq e.2.2.1 a && Nat.beq e.2.2.2.1 bb)))))
    | .putfield x => Nat.beq len 3 && (am_nx bps k b 3 && (!(am_T a bb).2.2.2 && (Nat.beq (am_fty a bb) c && am_fls.any (fun e => Nat.beq e.1 own && (Nat.beq e.2.1 x && (Nat.beq e.2.2.1 a && Nat.beq e.2.2.2.1 bb))))))
    | .invokestatic x => Nat.beq len 3 && (am_nx bps k b 3 && ((am_P a).1 && (Nat.beq (am_P a).2.1 bb && (am_mls.any (fun e => Nat.beq e.1 own && (Nat.beq e.2.1 x && Nat.beq e.2.2.1 a)) || am_nls.any (fun e => Nat.beq e.1 own && (Nat.beq e.2.1 x && Nat.beq e.2.2.1 a))))))
    | .invokevirtual x => Nat.beq len 3 && (am_nx bps k b 3 && (if a = 900 then Nat.beq own 9 && Nat.beq x 45 else if a = 901 then Nat.beq own 9 && Nat.beq x 50 else
      !(am_P a).1 && (Nat.beq ((am_P a).2.1 + 1) bb && am_mls.any (fun e => Nat.beq e.1 own && (Nat.beq e.2.1 x && Nat.beq e.2.2.1 a)))))
    | .ireturn => Nat.beq len 1 && ((Nat.beq ret 1 && Nat.beq a 0) || (Nat.beq ret 2 && Nat.beq a 1))
    | .lreturn => Nat.beq len 1 && Nat.beq ret 3
    | .return_ => Nat.beq len 1 && Nat.beq ret 0
    | _ => Nat.beq len 1 && am_nx bps k b 1
def am_chk1 (own ret : Nat) (bytes : ByteArray) (bps : List Nat) (k : Nat) (o : mo) : Bool := match am_nth bps k with
  | none => false
  | some b => match decode bytes b with
    | .ok (i, len) => decide (i = o.1) && am_cf own ret bps k b len o
    | .error _ => false
def am_chks (own ret : Nat) (bytes : ByteArray) (bps : List Nat) : Nat → List mo → Bool
  | _, [] => true
  | k, o :: l => am_chk1 own ret bytes bps k o && am_chks own ret bytes bps (k + 1) l
def am_chk (m : Nat) : Bool := am_chks (am_head m).1 (am_head m).2.2 (am_B m) (am_bp m) 0 (am_prog m)
theorem am_chks_at {own ret : Nat} {bytes : ByteArray} {bps : List Nat} : ∀ (l : List mo) (k0 k : Nat) (o : mo), am_chks own ret bytes bps k0 l = true → am_nth l k = some o → am_chk1 own ret bytes bps (k0 + k) o = true
  | [], _, _, _, _, h => by cases h
  | o :: l, k0, 0, o2, h, h2 => by
    cases h2
    exact (Bool.and_eq_true_iff.mp h).1
  | o :: l, k0, k + 1, o2, h, h2 => by
    have := am_chks_at l (k0 + 1) k o2 (Bool.and_eq_true_iff.mp h).2 h2
    rw [show k0 + 1 + k = k0 + (k + 1) by omega] at this
    exact this
/-- the method's own words stand in the tables -/
def am_wok (m : Nat) : Bool := decide (tables_1[(am_P m).2.2.1]? = some (Cond.code (am_Y m) (am_B m) (am_head m).2.1 (am_ret m))) &&
  (decide (tables_1[(am_P m).2.2.2.1]? = some (if (am_P m).1 then Cond.static (am_Y m) else Cond.instanceMethod (am_Y m))) &&
  ((am_P m).1 || decide (lw_tbl[(am_P m).2.2.2.2.1]? = some (Cond.selects (am_Y m).cls (am_Y m) (am_Y m)))) &&
  (decide (tables_1[(am_P m).2.2.2.2.2]? = some (Cond.initialized (am_Y m).cls)) &&
  (decide ((parseMethodDescriptor (am_Y m).desc).map (fun d => d.parameters.length) = some (am_P m).2.1) &&
  (decide ((am_Y m).cls = am_R (am_head m).1) && decide ((am_Y m).cls ≠ "java/lang/invoke/MethodHandle" ∧ (am_Y m).cls ≠ "java/lang/invoke/VarHandle")))))
