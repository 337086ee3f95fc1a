/-! the machine of the constructors is sound -/
section KSD
variable {l : Launch} {dC : Nat → ClassId} {dI : Nat → Nat → Nat} {aC : Nat → ClassId} {base : Nat} {p : Program} {e : Env} {s : State} {m : MethodId} {args : Array Value} {below : List Frame} {meth : Method} {c : Code} {y d : Nat} {out : kh} {K : List kop → ml → List mv → kh → Option kh} {C : Nat → List mv → List kcell → Option (List kcell)} {i : Jvm.ClassFile.Instr} {pc len a b q : Nat} {tl : List kop} {ls : ml} {st : List mv} {g : kh} {H : Heap} {locs : List Loc} {LS : Array Slot}
theorem k_cond {b : Bool} {o : Option kh} {r : kh} (h : (bif b then o else none) = some r) : b = true ∧ o = some r := by
  cases b with
  | false => cases h
  | true => exact ⟨rfl, h⟩
theorem kput_some {t : Nat} (h : kput K t tl ls st g = some out) : ∃ x j r n u st1, st = .inl x :: .inl j :: .inr (.inr (200, r)) :: st1 ∧ g.1[r]? = some (.inr (t, n, u)) ∧ kin j n = true ∧ K tl ls st1 (g.1.set r (.inr (t, n, (j.toNatClampNeg, vi (kst t x)) :: u)), g.2) = some out := by
  unfold kput at h
  split at h
  next x j k r st1 =>
    split at h
    next t2 n u hr =>
      obtain ⟨h1, h2⟩ := k_cond h
      obtain ⟨h3, h4⟩ := Bool.and_eq_true_iff.mp h1
      obtain ⟨h5, h6⟩ := Bool.and_eq_true_iff.mp h4
      have e1 := Nat.eq_of_beq_eq_true h3
      have e2 := Nat.eq_of_beq_eq_true h5
      subst e1
      subst e2
      exact ⟨x, j, r, n, u, st1, rfl, hr, h6, h2⟩
    next => cases h
  next => cases h
theorem k_lt {n : Int32} (h : (!decide (n < 0)) = true) : ¬ n < 0 := by simpa using h
theorem k_disp (X : kX l dC dI aC base p e s m args below meth c y d out K (pc, i, len, a, b, q) tl ls g H locs LS) (hC : kCok l dC dI aC base d C) (hfin6 : y = 6 → ∀ x, i = .putfield x → (am_T a b).2.2.2 = false) (h : kstep K C y (pc, i, len, a, b, q) tl ls st g = some out) : kGo l dC dI aC base p e s m args below meth c y d out.1 H locs g pc LS st := by
  cases i
  case iconst n => exact k_r_iconst X h
  case bipush n => exact k_r_bipush X h
  case sipush n => exact k_r_sipush X h
  case lconst n => exact k_r_lconst X h
  case aload_n n =>
    change (match (generalizing := false) am_ld ls n.val with
      | some (.inr (.inr v)) => K tl ls (.inr (.inr v) :: st) g
      | _ => none) = some out at h
    split at h
    next v hv => exact k_r_aload X hv h
    next => cases h
  case iload_n n =>
    change (match (generalizing := false) am_ld ls n.val with
      | some (.inl v) => K tl ls (.inl v :: st) g
      | _ => none) = some out at h
    split at h
    next v hv => exact k_r_iload X hv h
    next => cases h
  case istore_n n =>
    change (match (generalizing := false) st with
      | .inl v :: st => bif Nat.blt n.val (khead y).2.1 then K tl (am_s1 ls n.val (.inl v)) st g else none
      | _ => none) = some out at h
    split at h
    next v st1 =>
      obtain ⟨h1, h2⟩ := k_cond h
      exact k_r_istore X (Nat.le_of_ble_eq_true h1) h2
    next => cases h
  case iinc n z =>
    change (match (generalizing := false) am_ld ls n with
      | some (.inl v) => K tl (am_s1 ls n (.inl (v + Int32.ofInt z))) st g
      | _ => none) = some out at h
    split at h
    next v hv => exact k_r_iinc X hv h
    next => cases h
  case dup =>
    change (match (generalizing := false) st with
      | .inl v :: st => K tl ls (.inl v :: .inl v :: st) g
      | .inr (.inr v) :: st => K tl ls (.inr (.inr v) :: .inr (.inr v) :: st) g
      | _ => none) = some out at h
    split at h
    next v st1 => exact k_r_dup rfl X h
    next v st1 => exact k_r_dup rfl X h
    next => cases h
  case goto off => exact k_r_goto X h
  case if_icmp cond off =>
    cases cond
    case ge =>
      change (match (generalizing := false) st with
        | .inl v :: .inl u :: st => if u < v then K tl ls st g else K (kfrom (kprog y) a) ls st g
        | _ => none) = some out at h
      split at h
      next v u st1 => exact k_r_icmp X h
      next => cases h
    all_goals cases h
  case new x =>
    obtain ⟨h1, h2⟩ := k_cond h
    exact k_r_new X h1 h2
  case newarray t =>
    change (match (generalizing := false) st with
      | .inl n :: st => bif !decide (n < 0) && (Nat.ble n.toNatClampNeg 60000000 && (Nat.blt (karr t) 90 && kroom y g.2.1 g.2.2 n.toNatClampNeg 1)) then K tl ls (vr 200 g.1.length :: st) (g.1 ++ [.inr (karr t, n.toNatClampNeg, [])], g.2.1 + 1, g.2.2 + n.toNatClampNeg) else none
      | _ => none) = some out at h
    split at h
    next n st1 =>
      obtain ⟨h1, h2⟩ := k_cond h
      obtain ⟨h3, h4⟩ := Bool.and_eq_true_iff.mp h1
      obtain ⟨h5, h6⟩ := Bool.and_eq_true_iff.mp h4
      obtain ⟨h7, h8⟩ := Bool.and_eq_true_iff.mp h6
      exact k_r_newarray X (k_lt h3) (Nat.le_of_ble_eq_true h5) (Nat.le_of_ble_eq_true h7) h8 h2
    next => cases h
  case anewarray x =>
    change (match (generalizing := false) st with
      | .inl n :: st => bif !decide (n < 0) && (Nat.ble n.toNatClampNeg 60000000 && kroom y g.2.1 g.2.2 n.toNatClampNeg 1) then K tl ls (vr 200 g.1.length :: st) (g.1 ++ [.inr (25, n.toNatClampNeg, [])], g.2.1 + 1, g.2.2 + n.toNatClampNeg) else none
      | _ => none) = some out at h
    split at h
    next n st1 =>
      obtain ⟨h1, h2⟩ := k_cond h
      obtain ⟨h3, h4⟩ := Bool.and_eq_true_iff.mp h1
      obtain ⟨h5, h6⟩ := Bool.and_eq_true_iff.mp h4
      exact k_r_anewarray X (k_lt h3) (Nat.le_of_ble_eq_true h5) h6 h2
    next => cases h
  case multianewarray x dd =>
    change (match (generalizing := false) st with
      | .inl m :: .inl n :: st => bif Nat.beq dd 2 && (!decide (n < 0) && (!decide (m < 0) && (Nat.ble n.toNatClampNeg 60000000 && (Nat.ble m.toNatClampNeg 60000000 && kroom y g.2.1 g.2.2 (n.toNatClampNeg + n.toNatClampNeg * m.toNatClampNeg) (1 + n.toNatClampNeg))))) then
          K tl ls (vr 200 g.1.length :: st) (g.1 ++ (.inr (26, n.toNatClampNeg, kmul g.1.length n.toNatClampNeg) :: kinner m.toNatClampNeg n.toNatClampNeg), g.2.1 + (1 + n.toNatClampNeg), g.2.2 + (n.toNatClampNeg + n.toNatClampNeg * m.toNatClampNeg))
        else none
      | _ => none) = some out at h
    split at h
    next k n st1 =>
      obtain ⟨h1, h2⟩ := k_cond h
      obtain ⟨h3, h4⟩ := Bool.and_eq_true_iff.mp h1
      obtain ⟨h5, h6⟩ := Bool.and_eq_true_iff.mp h4
      obtain ⟨h7, h8⟩ := Bool.and_eq_true_iff.mp h6
      obtain ⟨h9, h10⟩ := Bool.and_eq_true_iff.mp h8
      obtain ⟨h11, h12⟩ := Bool.and_eq_true_iff.mp h10
      exact k_r_multi X (k_lt h5) (k_lt h7) (Nat.le_of_ble_eq_true h9) (Nat.le_of_ble_eq_true h11) h12 h2
    next => cases h
  case putfield x =>
    change (match (generalizing := false) st with
      | v :: .inr (.inr (k, r)) :: st => match (generalizing := false) g.1[r]? with
        | some (.inl (C2, fs)) => bif Nat.beq k 200 && (Nat.beq C2 a && (kfit (am_fty a b) v && Nat.blt b fs.length)) then K tl ls st (g.1.set r (.inl (C2, fs.set b (some v))), g.2) else none
        | _ => none
      | _ => none) = some out at h
    split at h
    next v k r st1 =>
      split at h
      next C2 fs hr =>
        obtain ⟨h1, h2⟩ := k_cond h
        obtain ⟨h3, h4⟩ := Bool.and_eq_true_iff.mp h1
        obtain ⟨h5, h6⟩ := Bool.and_eq_true_iff.mp h4
        obtain ⟨h7, h8⟩ := Bool.and_eq_true_iff.mp h6
        have e1 := Nat.eq_of_beq_eq_true h3
        have e2 := Nat.eq_of_beq_eq_true h5
        subst e1
        subst e2
        refine k_r_putfield X hr h7 (Nat.le_of_ble_eq_true h8) h2 ?_
        by_cases hy : y = 6
        · exact Or.inr (hfin6 hy x rfl)
        · exact Or.inl hy
      next => cases h
    next => cases h
  case getfield x =>
    change (match (generalizing := false) st with
      | .inr (.inr (k, r)) :: st => match (generalizing := false) g.1[r]? with
        | some (.inl (C2, fs)) => match (generalizing := false) fs[b]? with
          | some (some v) => bif Nat.beq k 200 && Nat.beq C2 a then K tl ls (v :: st) g else none
          | _ => none
        | _ => none
      | _ => none) = some out at h
    split at h
    next k r st1 =>
      split at h
      next C2 fs hr =>
        split at h
        next v hv =>
          obtain ⟨h1, h2⟩ := k_cond h
          obtain ⟨h3, h4⟩ := Bool.and_eq_true_iff.mp h1
          have e1 := Nat.eq_of_beq_eq_true h3
          have e2 := Nat.eq_of_beq_eq_true h4
          subst e1
          subst e2
          exact k_r_getfield X hr hv h2
        next => cases h
      next => cases h
    next => cases h
  case iastore =>
    obtain ⟨x, j, r, n, u, st1, rfl, hr, hj, h2⟩ := kput_some (show kput K 20 tl ls st g = some out from h)
    exact k_r_iastore X hr hj h2
  case castore =>
    obtain ⟨x, j, r, n, u, st1, rfl, hr, hj, h2⟩ := kput_some (show kput K 24 tl ls st g = some out from h)
    exact k_r_castore X hr hj h2
  case bastore =>
    obtain ⟨x, j, r, n, u, st1, rfl, hr, hj, h2⟩ := kput_some (show kput K 23 tl ls st g = some out from h)
    exact k_r_bastore X hr hj h2
  case aastore =>
    change (match (generalizing := false) st with
      | .inr (.inr (k2, q)) :: .inl i :: .inr (.inr (k, r)) :: st => match (generalizing := false) g.1[r]?, g.1[q]? with
        | some (.inr (t, n, u)), some (.inl (C2, _)) => bif Nat.beq k 200 && (Nat.beq k2 200 && (Nat.beq t 25 && (Nat.beq C2 10 && kin i n))) then K tl ls st (g.1.set r (.inr (t, n, (i.toNatClampNeg, vr 200 q) :: u)), g.2) else none
        | _, _ => none
      | _ => none) = some out at h
    split at h
    next k2 w j k r st1 =>
      split at h
      next t n u C2 fs hr hw =>
        obtain ⟨h1, h2⟩ := k_cond h
        obtain ⟨h3, h4⟩ := Bool.and_eq_true_iff.mp h1
        obtain ⟨h5, h6⟩ := Bool.and_eq_true_iff.mp h4
        obtain ⟨h7, h8⟩ := Bool.and_eq_true_iff.mp h6
        obtain ⟨h9, h10⟩ := Bool.and_eq_true_iff.mp h8
        have e1 := Nat.eq_of_beq_eq_true h3
        have e2 := Nat.eq_of_beq_eq_true h5
        have e3 := Nat.eq_of_beq_eq_true h7
        have e4 := Nat.eq_of_beq_eq_true h9
        subst e1
        subst e2
        subst e3
        subst e4
        exact k_r_aastore X hr hw h10 h2
      next => cases h
    next => cases h
  case invokespecial x =>
    change (bif Nat.beq a 99 then (match (generalizing := false) st with
        | .inr (.inr _) :: st => bif Nat.ble (am_cat st) 8 then K tl ls st g else none
        | _ => none) else kcal K C y a (b % 10) tl ls st g) = some out at h
    cases h99 : Nat.beq a 99 with
    | true =>
      rw [h99, cond_true] at h
      split at h
      next r st1 =>
        obtain ⟨h1, h2⟩ := k_cond h
        exact k_r_objinit X h99 (Nat.le_of_ble_eq_true h1) h2
      next => cases h
    | false =>
      rw [h99, cond_false] at h
      exact k_r_special X hC h99 h
  case invokevirtual x =>
    obtain ⟨h6, h2⟩ := k_cond (show (bif Nat.beq a 6 then (match (generalizing := false) st with
        | [.inr (.inr (k, r))] => match (generalizing := false) g.1[r]? with
          | some (.inl (C2, _)) => bif Nat.beq k 200 && Nat.beq C2 4 then kcal K C y 6 1 tl ls st g else none
          | _ => none
        | _ => none) else none) = some out from h)
    split at h2
    next k r =>
      split at h2
      next C2 fs hr =>
        obtain ⟨h1, h3⟩ := k_cond h2
        obtain ⟨h4, h5⟩ := Bool.and_eq_true_iff.mp h1
        have e1 := Nat.eq_of_beq_eq_true h4
        have e2 := Nat.eq_of_beq_eq_true h5
        subst e1
        subst e2
        exact k_r_virtual X hC hr h3
      next => cases h2
    next => cases h2
  case return_ =>
    change (match (generalizing := false) st with
      | [] => some g
      | _ => none) = some out at h
    split at h
    next => cases h; exact k_r_return X
    next => cases h
  all_goals cases h
theorem kfin6_ok : ((kprog 6).all fun o => match o.2.1 with
  | .putfield _ => !(am_T o.2.2.2.1 o.2.2.2.2.1).2.2.2
  | _ => true) = true := by decide +kernel
theorem kx_nil (n d y : Nat) (ls : ml) (st : List mv) (g : kh) : kx n d y [] ls st g = none := by
  cases n <;> rfl
theorem k_met {n : Nat} {as : List mv} {hs : List kcell} {hs1 : List kcell} (hn : ∀ (p : Program) (e : Env) (s : State) (m : MethodId) (args : Array Value) (below : List Frame) (meth : Method) (c : Code) (out : kh), out.2.1 = (klim y).1 ∧ out.2.2 = (klim y).2 → kFix dC dI aC base p s m args meth c y → kK l dC dI aC base p e s m args below meth c y d out (kx n d y)) (hy : y < 14) (hcat : am_cat as ≤ (khead y).2.1) (h : kend y (kx n d y (kprog y) (kent y as) [] (hs, 0, 0)) = some hs1) : Met l (kY y) (kW y) (krm d y) (kPc dC dI aC base as hs) (kQc dC dI aC base hs1) (klim y).1 (klim y).2 (fun q => base ≤ q) := by
  obtain ⟨w1, w2, w3, w4, w5, w6, w7, w8, w9, w10⟩ := kwok_sp hy
  obtain ⟨out, ho, ho2, rfl⟩ : ∃ out, kx n d y (kprog y) (kent y as) [] (hs, 0, 0) = some out ∧ (out.2.1 = (klim y).1 ∧ out.2.2 = (klim y).2) ∧ hs1 = out.1 := by
    unfold kend at h
    split at h
    next hs2 c2 s2 hk =>
      cases hb : (Nat.beq c2 (klim y).1 && Nat.beq s2 (klim y).2) with
      | false => rw [hb] at h; cases h
      | true =>
        rw [hb] at h
        cases h
        obtain ⟨h1, h2⟩ := Bool.and_eq_true_iff.mp hb
        exact ⟨_, hk, ⟨Nat.eq_of_beq_eq_true h1, Nat.eq_of_beq_eq_true h2⟩, rfl⟩
    next => cases h
  refine Met.ofW (cc := kB y) (maxL := (khead y).2.1) (ret := none) w9 rfl ?_
  intro p e s m args below meth c s₁ B hml hPc
  obtain ⟨rfl, hS, hsz, hP⟩ := hPc
  have hts := atoms_spec (ws := kW y) B.pre
  have hown : s.vm.findClass (kY y).cls = some m.cls := findClass_of_methodNamed B.named
  rw [w4] at hown
  have hl := lv_entry (as.map (am_t base (kadK base))) (n := (khead y).2.1) (by rw [am_lg_len]; exact hcat)
  rw [lg_entry_eq]
  generalize (lg_sl (as.map (am_t base (kadK base))) ++ List.replicate ((khead y).2.1 - (lg_sl (as.map (am_t base (kadK base)))).length) Slot.unset).toArray = LS at hl ⊢
  have hname : meth.name = (kY y).name := (name_of_methodNamed B.named B.method).1
  have hK := hn p e s m (as.map (am_t base (kadK base))).toArray below meth c out ho2 ⟨B.exec, B.bytes, hml, hown, hts, B.returns, B.notSynchronized, fun hy6 => by rw [hname]; exact w8.resolve_left hy6, hS, by rw [hsz]; exact Nat.le_add_right _ _⟩
  have w := hK.2 (kprog y) (kent y as) [] (hs, 0, 0) ho ⟨[], rfl⟩ s.heap [] LS ⟨hl.1, hl.2.1, fun i v q => by
    have q2 := (am_entA_ld (base := base) (adK := kadK base) as 0 i v (am_pad_ld _ _ _ _ q)).1
    rw [Nat.zero_add] at q2
    exact hl.2.2 _ q2⟩ hP (by show base + hs.length = s.heap.size + 0; omega) va_S.rf
  rw [w10] at w
  exact w
theorem k_sound_n : ∀ (n d y : Nat) (p : Program) (e : Env) (s : State) (m : MethodId) (args : Array Value) (below : List Frame) (meth : Method) (c : Code) (out : kh), y < 14 → out.2.1 = (klim y).1 ∧ out.2.2 = (klim y).2 → kFix dC dI aC base p s m args meth c y → kK l dC dI aC base p e s m args below meth c y d out (kx n d y) := by
  intro n
  induction n with
  | zero => intro d y p e s m args below meth c out hy ho hF; exact ⟨fun _ _ _ => rfl, fun rest ls st g h => by cases h⟩
  | succ n ih =>
    intro d y p e s m args below meth c out hy ho hF
    refine ⟨fun _ _ _ => rfl, fun rest ls st g h hsuf H locs LS hL hP hz hV => ?_⟩
    match rest, h, hsuf with
    | [], h, _ => cases h
    | (pc, i, len, a, b, q) :: tl, h, hsuf =>
      refine k_disp (K := kx n d y) (C := kcx (kx n) d) ⟨hy, hF, ih d y p e s m args below meth c out hy ho hF, ho, hsuf, hL, hP, hz, hV⟩ ?_ ?_ h
      · intro a as hs hs1 hc
        cases d with
        | zero => cases hc
        | succ d2 => exact ⟨d2, rfl, fun ha hcat => k_met (fun p e s m args below meth c out ho hF => ih d2 a p e s m args below meth c out ha ho hF) ha hcat hc⟩
      · intro hy6 x hi
        subst hy6
        obtain ⟨pre, hpre⟩ := hsuf
        have h1 := List.all_eq_true.mp kfin6_ok (pc, i, len, a, b, q) (by rw [hpre]; exact List.mem_append_right _ List.mem_cons_self)
        dsimp only at h1
        rw [hi] at h1
        simpa using h1
/-- THE CONSTRUCTORS: a run of the machine is a contract -/
theorem k_sound {n : Nat} {as : List mv} {hs hs1 : List kcell} (h : krun n d y as hs = some hs1) (hy : y < 14) (hcat : am_cat as ≤ (khead y).2.1) : Met l (kY y) (kW y) (krm d y) (kPc dC dI aC base as hs) (kQc dC dI aC base hs1) (klim y).1 (klim y).2 (fun q => base ≤ q) :=
  k_met (fun p e s m args below meth c out ho hF => k_sound_n n d y p e s m args below meth c out hy ho hF) hy hcat h
end KSD
