theorem am_mls_lt : (am_mls.all fun e => decide (e.2.2.1 < 300)) = true ∧ (am_nls.all fun e => decide (e.2.2.1 < 300)) = true := by decide +kernel
theorem am_mls_any {o x a : Nat} (h : am_mls.any (fun e => Nat.beq e.1 o && (Nat.beq e.2.1 x && Nat.beq e.2.2.1 a)) = true) : a < 300 ∧ ∃ q, (o, x, a, q) ∈ am_mls := by
  obtain ⟨e, he, h2⟩ := List.any_eq_true.mp h
  simp only [Bool.and_eq_true] at h2
  obtain ⟨h3, h4, h5⟩ := h2
  have e1 := Nat.eq_of_beq_eq_true h3
  have e2 := Nat.eq_of_beq_eq_true h4
  have e3 := Nat.eq_of_beq_eq_true h5
  have hlt := of_decide_eq_true (List.all_eq_true.mp am_mls_lt.1 e he)
  obtain ⟨p1, p2, p3, p4⟩ := e
  dsimp only at e1 e2 e3 hlt
  subst e1; subst e2; subst e3
  exact ⟨hlt, p4, he⟩
theorem am_nls_any {o x a : Nat} (h : am_nls.any (fun e => Nat.beq e.1 o && (Nat.beq e.2.1 x && Nat.beq e.2.2.1 a)) = true) : a < 300 ∧ ∃ q, (o, x, a, q) ∈ am_nls := by
  obtain ⟨e, he, h2⟩ := List.any_eq_true.mp h
  simp only [Bool.and_eq_true] at h2
  obtain ⟨h3, h4, h5⟩ := h2
  have e1 := Nat.eq_of_beq_eq_true h3
  have e2 := Nat.eq_of_beq_eq_true h4
  have e3 := Nat.eq_of_beq_eq_true h5
  have hlt := of_decide_eq_true (List.all_eq_true.mp am_mls_lt.2 e he)
  obtain ⟨p1, p2, p3, p4⟩ := e
  dsimp only at e1 e2 e3 hlt
  subst e1; subst e2; subst e3
  exact ⟨hlt, p4, he⟩
theorem am_nls_nm {o x a : Nat} (h : am_nls.any (fun e => Nat.beq e.1 o && (Nat.beq e.2.1 x && Nat.beq e.2.2.1 a)) = true) : ¬ (294 ≤ a ∧ a ≤ 298) := by
  obtain ⟨e, he, h2⟩ := List.any_eq_true.mp h
  simp only [Bool.and_eq_true] at h2
  rw [← Nat.eq_of_beq_eq_true h2.2.2]
  have t : (am_nls.all fun e => decide (e.2.2.1 < 294)) = true := by decide +kernel
  have := of_decide_eq_true (List.all_eq_true.mp t e he)
  omega
theorem am_nm_virt {a : Nat} (h : (am_P a).1 = false) : ¬ (294 ≤ a ∧ a ≤ 298) := by
  intro hm
  have q : a = 294 ∨ a = 295 ∨ a = 296 ∨ a = 297 ∨ a = 298 := by omega
  rcases q with rfl | rfl | rfl | rfl | rfl <;> cases h
theorem am_fls_any {o x a b : Nat} (h : am_fls.any (fun e => Nat.beq e.1 o && (Nat.beq e.2.1 x && (Nat.beq e.2.2.1 a && Nat.beq e.2.2.2.1 b))) = true) : ∃ q, (o, x, a, b, q) ∈ am_fls := by
  obtain ⟨e, he, h2⟩ := List.any_eq_true.mp h
  simp only [Bool.and_eq_true] at h2
  obtain ⟨h3, h4, h5, h6⟩ := h2
  have e1 := Nat.eq_of_beq_eq_true h3
  have e2 := Nat.eq_of_beq_eq_true h4
  have e3 := Nat.eq_of_beq_eq_true h5
  have e4 := Nat.eq_of_beq_eq_true h6
  obtain ⟨p1, p2, p3, p4, p5⟩ := e
  dsimp only at e1 e2 e3 e4
  subst e1; subst e2; subst e3; subst e4
  exact ⟨p5, he⟩
theorem am_cis_any {o x : Nat} {v : Int32} (h : am_cis.any (fun e => Nat.beq e.1 o && (Nat.beq e.2.1 x && decide (e.2.2.1 = v))) = true) : ∃ q : Nat, tables_1[q]? = some (Cond.constant (am_R o) x v) := by
  obtain ⟨e, he, h2⟩ := List.any_eq_true.mp h
  simp only [Bool.and_eq_true, decide_eq_true_eq] at h2
  obtain ⟨h3, h4, h5⟩ := h2
  have e1 := Nat.eq_of_beq_eq_true h3
  have e2 := Nat.eq_of_beq_eq_true h4
  have hw := of_decide_eq_true (List.all_eq_true.mp am_ci_ok e he)
  rw [e1, e2, h5] at hw
  exact ⟨_, hw⟩
theorem am_cls_any {o x : Nat} {v : Int64} (h : am_cls.any (fun e => Nat.beq e.1 o && (Nat.beq e.2.1 x && decide (e.2.2.1 = v))) = true) : ∃ q : Nat, tables_1[q]? = some (Cond.constantLong (am_R o) x v) := by
  obtain ⟨e, he, h2⟩ := List.any_eq_true.mp h
  simp only [Bool.and_eq_true, decide_eq_true_eq] at h2
  obtain ⟨h3, h4, h5⟩ := h2
  have e1 := Nat.eq_of_beq_eq_true h3
  have e2 := Nat.eq_of_beq_eq_true h4
  have hw := of_decide_eq_true (List.all_eq_true.mp am_cl_ok e he)
  rw [e1, e2, h5] at hw
  exact ⟨_, hw⟩
theorem am_chk_at {mi k b : Nat} {o : mo} (hmi : mi < 300) (ho : am_nth (am_prog mi) k = some o) (hb : am_nth (am_bp mi) k = some b) : ∃ len, decode (am_B mi) b = .ok (o.1, len) ∧ am_cf (am_head mi).1 (am_head mi).2.2 (am_bp mi) k b len o = true := by
  have h := am_chks_at (am_prog mi) 0 k o (am_chk_ok hmi) ho
  rw [Nat.zero_add] at h
  unfold am_chk1 at h
  rw [hb] at h
  dsimp only at h
  split at h
  · rename_i i len hd
    simp only [Bool.and_eq_true, decide_eq_true_eq] at h
    rw [h.1] at hd
    exact ⟨len, hd, h.2⟩
  · cases h
theorem am_loc_at {mi k : Nat} {o : mo} (hmi : mi < 300) (ho : am_nth (am_prog mi) k = some o) : (match o.1 with
  | .istore _ => Nat.blt o.2.1 (am_head mi).2.1
  | .istore_n _ => Nat.blt o.2.1 (am_head mi).2.1
  | .astore _ => Nat.blt o.2.1 (am_head mi).2.1
  | .astore_n _ => Nat.blt o.2.1 (am_head mi).2.1
  | .lstore _ => Nat.blt (o.2.1 + 1) (am_head mi).2.1
  | .lstore_n _ => Nat.blt (o.2.1 + 1) (am_head mi).2.1
  | _ => true) = true := List.all_eq_true.mp (am_loc_ok hmi) o (am_nth_mem _ _ _ ho)
section AMD
variable {l : Launch} {dC : Nat → ClassId} {dI : Nat → Nat → Nat} {aC : Nat → ClassId} {base : Nat} {adK adV : Nat → Nat} {p : Program} {e : Env} {s : State} {m : MethodId} {args : Array Value} {below : List Frame} {meth : Method} {c : Code} {mi d : Nat} {r : Option mv} {g2 : mg} {K : Nat → ml → List mv → mg → Option mr} {C : Nat → List mv → mg → Option mr} {k : Nat} {ls : ml} {st : List mv} {g : mg} {H : Heap} {locs : List Loc} {b : Nat} {LS : Array Slot} {a bb cc : Nat} {z : mv}
set_option maxHeartbeats 4000000 in
theorem am_disp (X : am_X l dC dI aC base adK adV p e s m args below meth c mi d r g2 K k ls st g H locs b LS) (hC : am_Cok l dC dI aC base adK adV d C) (hSL : am_SL l dC dI aC base adK adV) (hSA : am_SA l dC dI aC base adK adV) (hFD : am_FD l) {o : mo} (ho : am_nth (am_prog mi) k = some o) (h : am_do K C o k ls st g = some (r, g2)) : am_Go l dC dI aC base adK p e s m args below meth c mi d r g2 H locs b LS st := by
  have hmi := X.1.1
  have hbk := X.2.2.2.2.2.2.2
  obtain ⟨len, hd, hcf⟩ := am_chk_at hmi ho hbk
  have hlc := am_loc_at hmi ho
  obtain ⟨i, a, bb, cc, z⟩ := o
  dsimp only at hd hlc
  cases i
  case iadd =>
    have hcf := hcf
    simp only [am_cf, Bool.and_eq_true] at hcf
    obtain ⟨hl, hnx⟩ := hcf
    have hl := Nat.eq_of_beq_eq_true hl
    subst hl
    exact am_r_iadd X hd (am_nx_some hnx) h
  case isub =>
    have hcf := hcf
    simp only [am_cf, Bool.and_eq_true] at hcf
    obtain ⟨hl, hnx⟩ := hcf
    have hl := Nat.eq_of_beq_eq_true hl
    subst hl
    exact am_r_isub X hd (am_nx_some hnx) h
  case imul =>
    have hcf := hcf
    simp only [am_cf, Bool.and_eq_true] at hcf
    obtain ⟨hl, hnx⟩ := hcf
    have hl := Nat.eq_of_beq_eq_true hl
    subst hl
    exact am_r_imul X hd (am_nx_some hnx) h
  case iand =>
    have hcf := hcf
    simp only [am_cf, Bool.and_eq_true] at hcf
    obtain ⟨hl, hnx⟩ := hcf
    have hl := Nat.eq_of_beq_eq_true hl
    subst hl
    exact am_r_iand X hd (am_nx_some hnx) h
  case ior =>
    have hcf := hcf
    simp only [am_cf, Bool.and_eq_true] at hcf
    obtain ⟨hl, hnx⟩ := hcf
    have hl := Nat.eq_of_beq_eq_true hl
    subst hl
    exact am_r_ior X hd (am_nx_some hnx) h
  case ixor =>
    have hcf := hcf
    simp only [am_cf, Bool.and_eq_true] at hcf
    obtain ⟨hl, hnx⟩ := hcf
    have hl := Nat.eq_of_beq_eq_true hl
    subst hl
    exact am_r_ixor X hd (am_nx_some hnx) h
  case ishl =>
    have hcf := hcf
    simp only [am_cf, Bool.and_eq_true] at hcf
    obtain ⟨hl, hnx⟩ := hcf
    have hl := Nat.eq_of_beq_eq_true hl
    subst hl
    exact am_r_ishl X hd (am_nx_some hnx) h
  case ishr =>
    have hcf := hcf
    simp only [am_cf, Bool.and_eq_true] at hcf
    obtain ⟨hl, hnx⟩ := hcf
    have hl := Nat.eq_of_beq_eq_true hl
    subst hl
    exact am_r_ishr X hd (am_nx_some hnx) h
  case iushr =>
    have hcf := hcf
    simp only [am_cf, Bool.and_eq_true] at hcf
    obtain ⟨hl, hnx⟩ := hcf
    have hl := Nat.eq_of_beq_eq_true hl
    subst hl
    exact am_r_iushr X hd (am_nx_some hnx) h
  case idiv =>
    have hcf := hcf
    simp only [am_cf, Bool.and_eq_true] at hcf
    obtain ⟨hl, hnx⟩ := hcf
    have hl := Nat.eq_of_beq_eq_true hl
    subst hl
    exact am_r_idiv X hd (am_nx_some hnx) h
  case irem =>
    have hcf := hcf
    simp only [am_cf, Bool.and_eq_true] at hcf
    obtain ⟨hl, hnx⟩ := hcf
    have hl := Nat.eq_of_beq_eq_true hl
    subst hl
    exact am_r_irem X hd (am_nx_some hnx) h
  case ladd =>
    have hcf := hcf
    simp only [am_cf, Bool.and_eq_true] at hcf
    obtain ⟨hl, hnx⟩ := hcf
    have hl := Nat.eq_of_beq_eq_true hl
    subst hl
    exact am_r_ladd X hd (am_nx_some hnx) h
  case lsub =>
    have hcf := hcf
    simp only [am_cf, Bool.and_eq_true] at hcf
    obtain ⟨hl, hnx⟩ := hcf
    have hl := Nat.eq_of_beq_eq_true hl
    subst hl
    exact am_r_lsub X hd (am_nx_some hnx) h
  case lmul =>
    have hcf := hcf
    simp only [am_cf, Bool.and_eq_true] at hcf
    obtain ⟨hl, hnx⟩ := hcf
    have hl := Nat.eq_of_beq_eq_true hl
    subst hl
    exact am_r_lmul X hd (am_nx_some hnx) h
  case land =>
    have hcf := hcf
    simp only [am_cf, Bool.and_eq_true] at hcf
    obtain ⟨hl, hnx⟩ := hcf
    have hl := Nat.eq_of_beq_eq_true hl
    subst hl
    exact am_r_land X hd (am_nx_some hnx) h
  case ldiv =>
    have hcf := hcf
    simp only [am_cf, Bool.and_eq_true] at hcf
    obtain ⟨hl, hnx⟩ := hcf
    have hl := Nat.eq_of_beq_eq_true hl
    subst hl
    exact am_r_ldiv X hd (am_nx_some hnx) h
  case lrem =>
    have hcf := hcf
    simp only [am_cf, Bool.and_eq_true] at hcf
    obtain ⟨hl, hnx⟩ := hcf
    have hl := Nat.eq_of_beq_eq_true hl
    subst hl
    exact am_r_lrem X hd (am_nx_some hnx) h
  case i2l =>
    have hcf := hcf
    simp only [am_cf, Bool.and_eq_true] at hcf
    obtain ⟨hl, hnx⟩ := hcf
    have hl := Nat.eq_of_beq_eq_true hl
    subst hl
    exact am_r_i2l X hd (am_nx_some hnx) h
  case l2i =>
    have hcf := hcf
    simp only [am_cf, Bool.and_eq_true] at hcf
    obtain ⟨hl, hnx⟩ := hcf
    have hl := Nat.eq_of_beq_eq_true hl
    subst hl
    exact am_r_l2i X hd (am_nx_some hnx) h
  case i2b =>
    have hcf := hcf
    simp only [am_cf, Bool.and_eq_true] at hcf
    obtain ⟨hl, hnx⟩ := hcf
    have hl := Nat.eq_of_beq_eq_true hl
    subst hl
    exact am_r_i2b X hd (am_nx_some hnx) h
  case lcmp =>
    have hcf := hcf
    simp only [am_cf, Bool.and_eq_true] at hcf
    obtain ⟨hl, hnx⟩ := hcf
    have hl := Nat.eq_of_beq_eq_true hl
    subst hl
    exact am_r_lcmp X hd (am_nx_some hnx) h
  case pop =>
    have hcf := hcf
    simp only [am_cf, Bool.and_eq_true] at hcf
    obtain ⟨hl, hnx⟩ := hcf
    have hl := Nat.eq_of_beq_eq_true hl
    subst hl
    exact am_r_pop X hd (am_nx_some hnx) h
  case dup =>
    have hcf := hcf
    simp only [am_cf, Bool.and_eq_true] at hcf
    obtain ⟨hl, hnx⟩ := hcf
    have hl := Nat.eq_of_beq_eq_true hl
    subst hl
    exact am_r_dup X hd (am_nx_some hnx) h
  case dup2 =>
    have hcf := hcf
    simp only [am_cf, Bool.and_eq_true] at hcf
    obtain ⟨hl, hnx⟩ := hcf
    have hl := Nat.eq_of_beq_eq_true hl
    subst hl
    exact am_r_dup2 X hd (am_nx_some hnx) h
  case iaload =>
    have hcf := hcf
    simp only [am_cf, Bool.and_eq_true] at hcf
    obtain ⟨hl, hnx⟩ := hcf
    have hl := Nat.eq_of_beq_eq_true hl
    subst hl
    exact am_r_iaload X hd (am_nx_some hnx) h
  case baload =>
    have hcf := hcf
    simp only [am_cf, Bool.and_eq_true] at hcf
    obtain ⟨hl, hnx⟩ := hcf
    have hl := Nat.eq_of_beq_eq_true hl
    subst hl
    exact am_r_baload X hd (am_nx_some hnx) h
  case caload =>
    have hcf := hcf
    simp only [am_cf, Bool.and_eq_true] at hcf
    obtain ⟨hl, hnx⟩ := hcf
    have hl := Nat.eq_of_beq_eq_true hl
    subst hl
    exact am_r_caload X hd (am_nx_some hnx) h
  case laload =>
    have hcf := hcf
    simp only [am_cf, Bool.and_eq_true] at hcf
    obtain ⟨hl, hnx⟩ := hcf
    have hl := Nat.eq_of_beq_eq_true hl
    subst hl
    exact am_r_laload X hd (am_nx_some hnx) h
  case aaload =>
    have hcf := hcf
    simp only [am_cf, Bool.and_eq_true] at hcf
    obtain ⟨hl, hnx⟩ := hcf
    have hl := Nat.eq_of_beq_eq_true hl
    subst hl
    exact am_r_aaload X hd (am_nx_some hnx) h
  case iastore =>
    have hcf := hcf
    simp only [am_cf, Bool.and_eq_true] at hcf
    obtain ⟨hl, hnx⟩ := hcf
    have hl := Nat.eq_of_beq_eq_true hl
    subst hl
    exact am_r_iastore X hd (am_nx_some hnx) h
  case bastore =>
    have hcf := hcf
    simp only [am_cf, Bool.and_eq_true] at hcf
    obtain ⟨hl, hnx⟩ := hcf
    have hl := Nat.eq_of_beq_eq_true hl
    subst hl
    exact am_r_bastore X hd (am_nx_some hnx) h
  case lastore =>
    have hcf := hcf
    simp only [am_cf, Bool.and_eq_true] at hcf
    obtain ⟨hl, hnx⟩ := hcf
    have hl := Nat.eq_of_beq_eq_true hl
    subst hl
    exact am_r_lastore X hd (am_nx_some hnx) h
  case arraylength =>
    have hcf := hcf
    simp only [am_cf, Bool.and_eq_true] at hcf
    obtain ⟨hl, hnx⟩ := hcf
    have hl := Nat.eq_of_beq_eq_true hl
    subst hl
    exact am_r_arraylength X hd (am_nx_some hnx) h
  case iconst n =>
    have hcf := hcf
    simp only [am_cf, Bool.and_eq_true] at hcf
    obtain ⟨hl, hnx, hz⟩ := hcf
    have hl := Nat.eq_of_beq_eq_true hl
    subst hl
    exact am_r_iconst X (of_decide_eq_true hz) hd (am_nx_some hnx) h
  case bipush n =>
    have hcf := hcf
    simp only [am_cf, Bool.and_eq_true] at hcf
    obtain ⟨hl, hnx, hz⟩ := hcf
    have hl := Nat.eq_of_beq_eq_true hl
    subst hl
    exact am_r_bipush X (of_decide_eq_true hz) hd (am_nx_some hnx) h
  case sipush n =>
    have hcf := hcf
    simp only [am_cf, Bool.and_eq_true] at hcf
    obtain ⟨hl, hnx, hz⟩ := hcf
    have hl := Nat.eq_of_beq_eq_true hl
    subst hl
    exact am_r_sipush X (of_decide_eq_true hz) hd (am_nx_some hnx) h
  case lconst n =>
    have hcf := hcf
    simp only [am_cf, Bool.and_eq_true] at hcf
    obtain ⟨hl, hnx, hz⟩ := hcf
    have hl := Nat.eq_of_beq_eq_true hl
    subst hl
    exact am_r_lconst X (of_decide_eq_true hz) hd (am_nx_some hnx) h
  case iload n =>
    have hcf := hcf
    simp only [am_cf, Bool.and_eq_true] at hcf
    obtain ⟨hl, hnx, ha⟩ := hcf
    have hl := Nat.eq_of_beq_eq_true hl
    subst hl
    exact am_r_iload X (Nat.eq_of_beq_eq_true ha) hd (am_nx_some hnx) h
  case iload_n n =>
    have hcf := hcf
    simp only [am_cf, Bool.and_eq_true] at hcf
    obtain ⟨hl, hnx, ha⟩ := hcf
    have hl := Nat.eq_of_beq_eq_true hl
    subst hl
    exact am_r_iload_n X (Nat.eq_of_beq_eq_true ha) hd (am_nx_some hnx) h
  case lload n =>
    have hcf := hcf
    simp only [am_cf, Bool.and_eq_true] at hcf
    obtain ⟨hl, hnx, ha⟩ := hcf
    have hl := Nat.eq_of_beq_eq_true hl
    subst hl
    exact am_r_lload X (Nat.eq_of_beq_eq_true ha) hd (am_nx_some hnx) h
  case lload_n n =>
    have hcf := hcf
    simp only [am_cf, Bool.and_eq_true] at hcf
    obtain ⟨hl, hnx, ha⟩ := hcf
    have hl := Nat.eq_of_beq_eq_true hl
    subst hl
    exact am_r_lload_n X (Nat.eq_of_beq_eq_true ha) hd (am_nx_some hnx) h
  case aload n =>
    have hcf := hcf
    simp only [am_cf, Bool.and_eq_true] at hcf
    obtain ⟨hl, hnx, ha⟩ := hcf
    have hl := Nat.eq_of_beq_eq_true hl
    subst hl
    exact am_r_aload X (Nat.eq_of_beq_eq_true ha) hd (am_nx_some hnx) h
  case aload_n n =>
    have hcf := hcf
    simp only [am_cf, Bool.and_eq_true] at hcf
    obtain ⟨hl, hnx, ha⟩ := hcf
    have hl := Nat.eq_of_beq_eq_true hl
    subst hl
    exact am_r_aload_n X (Nat.eq_of_beq_eq_true ha) hd (am_nx_some hnx) h
  case istore n =>
    have hcf := hcf
    simp only [am_cf, Bool.and_eq_true] at hcf
    obtain ⟨hl, hnx, ha⟩ := hcf
    have hl := Nat.eq_of_beq_eq_true hl
    subst hl
    exact am_r_istore X (Nat.eq_of_beq_eq_true ha) (Nat.le_of_ble_eq_true hlc) hd (am_nx_some hnx) h
  case istore_n n =>
    have hcf := hcf
    simp only [am_cf, Bool.and_eq_true] at hcf
    obtain ⟨hl, hnx, ha⟩ := hcf
    have hl := Nat.eq_of_beq_eq_true hl
    subst hl
    exact am_r_istore_n X (Nat.eq_of_beq_eq_true ha) (Nat.le_of_ble_eq_true hlc) hd (am_nx_some hnx) h
  case lstore n =>
    have hcf := hcf
    simp only [am_cf, Bool.and_eq_true] at hcf
    obtain ⟨hl, hnx, ha⟩ := hcf
    have hl := Nat.eq_of_beq_eq_true hl
    subst hl
    exact am_r_lstore X (Nat.eq_of_beq_eq_true ha) (Nat.le_of_ble_eq_true hlc) hd (am_nx_some hnx) h
  case lstore_n n =>
    have hcf := hcf
    simp only [am_cf, Bool.and_eq_true] at hcf
    obtain ⟨hl, hnx, ha⟩ := hcf
    have hl := Nat.eq_of_beq_eq_true hl
    subst hl
    exact am_r_lstore_n X (Nat.eq_of_beq_eq_true ha) (Nat.le_of_ble_eq_true hlc) hd (am_nx_some hnx) h
  case astore n =>
    have hcf := hcf
    simp only [am_cf, Bool.and_eq_true] at hcf
    obtain ⟨hl, hnx, ha⟩ := hcf
    have hl := Nat.eq_of_beq_eq_true hl
    subst hl
    exact am_r_astore X (Nat.eq_of_beq_eq_true ha) (Nat.le_of_ble_eq_true hlc) hd (am_nx_some hnx) h
  case astore_n n =>
    have hcf := hcf
    simp only [am_cf, Bool.and_eq_true] at hcf
    obtain ⟨hl, hnx, ha⟩ := hcf
    have hl := Nat.eq_of_beq_eq_true hl
    subst hl
    exact am_r_astore_n X (Nat.eq_of_beq_eq_true ha) (Nat.le_of_ble_eq_true hlc) hd (am_nx_some hnx) h
  case iinc n x =>
    have hcf := hcf
    simp only [am_cf, Bool.and_eq_true] at hcf
    obtain ⟨hl, hnx, ha, hz⟩ := hcf
    have hl := Nat.eq_of_beq_eq_true hl
    subst hl
    exact am_r_iinc X (Nat.eq_of_beq_eq_true ha) (of_decide_eq_true hz) hd (am_nx_some hnx) h
  case ldc n =>
    simp only [am_cf, Bool.and_eq_true] at hcf
    obtain ⟨hl, hnx, hz⟩ := hcf
    have hl := Nat.eq_of_beq_eq_true hl
    subst hl
    split at hz
    · obtain ⟨q, hq⟩ := am_cis_any hz
      exact am_r_ldc X rfl hq hd (am_nx_some hnx) h
    · simp only [Bool.and_eq_true] at hz
      obtain ⟨h1, h2⟩ := hz
      obtain ⟨e1, he, h3⟩ := List.any_eq_true.mp h2
      simp only [Bool.and_eq_true] at h3
      obtain ⟨h4, h5, h6⟩ := h3
      exact am_r_ldcS X he (Nat.eq_of_beq_eq_true h4) (Nat.eq_of_beq_eq_true h5) (by rw [Nat.eq_of_beq_eq_true h1, Nat.eq_of_beq_eq_true h6]) hd (am_nx_some hnx) h
    · cases hz
  case ldc_w n =>
    simp only [am_cf, Bool.and_eq_true] at hcf
    obtain ⟨hl, hnx, hz⟩ := hcf
    have hl := Nat.eq_of_beq_eq_true hl
    subst hl
    split at hz
    · obtain ⟨q, hq⟩ := am_cis_any hz
      exact am_r_ldc_w X rfl hq hd (am_nx_some hnx) h
    · cases hz
  case ldc2_w n =>
    simp only [am_cf, Bool.and_eq_true] at hcf
    obtain ⟨hl, hnx, hz⟩ := hcf
    have hl := Nat.eq_of_beq_eq_true hl
    subst hl
    split at hz
    · obtain ⟨q, hq⟩ := am_cls_any hz
      exact am_r_ldc2_w X rfl hq hd (am_nx_some hnx) h
    · cases hz
  case ifCond cnd off =>
    have hcf := hcf
    simp only [am_cf, Bool.and_eq_true] at hcf
    obtain ⟨hl, hnx, htg⟩ := hcf
    have hl := Nat.eq_of_beq_eq_true hl
    subst hl
    obtain ⟨t, ht1, ht2⟩ := am_tgt_some htg
    cases cnd
    case eq => exact am_r_if_eq X ht2 ht1 hd (am_nx_some hnx) h
    case ne => exact am_r_if_ne X ht2 ht1 hd (am_nx_some hnx) h
    case lt => exact am_r_if_lt X ht2 ht1 hd (am_nx_some hnx) h
    case ge => exact am_r_if_ge X ht2 ht1 hd (am_nx_some hnx) h
    case gt => exact am_r_if_gt X ht2 ht1 hd (am_nx_some hnx) h
    case le => exact am_r_if_le X ht2 ht1 hd (am_nx_some hnx) h
  case if_icmp cnd off =>
    have hcf := hcf
    simp only [am_cf, Bool.and_eq_true] at hcf
    obtain ⟨hl, hnx, htg⟩ := hcf
    have hl := Nat.eq_of_beq_eq_true hl
    subst hl
    obtain ⟨t, ht1, ht2⟩ := am_tgt_some htg
    cases cnd
    case eq => exact am_r_icmp_eq X ht2 ht1 hd (am_nx_some hnx) h
    case ne => exact am_r_icmp_ne X ht2 ht1 hd (am_nx_some hnx) h
    case lt => exact am_r_icmp_lt X ht2 ht1 hd (am_nx_some hnx) h
    case ge => exact am_r_icmp_ge X ht2 ht1 hd (am_nx_some hnx) h
    case gt => exact am_r_icmp_gt X ht2 ht1 hd (am_nx_some hnx) h
    case le => exact am_r_icmp_le X ht2 ht1 hd (am_nx_some hnx) h
  case goto off =>
    simp only [am_cf, Bool.and_eq_true] at hcf
    obtain ⟨hl, htg⟩ := hcf
    have hl := Nat.eq_of_beq_eq_true hl
    subst hl
    obtain ⟨t, ht1, ht2⟩ := am_tgt_some htg
    exact am_r_goto X ht2 ht1 hd h
  case tableswitch dv lo hi offs =>
    simp only [am_cf] at hcf
    split at hcf
    · rename_i sl t hsw
      simp only [Bool.and_eq_true, decide_eq_true_eq] at hcf
      exact am_r_tableswitch X hsw hcf.1 hcf.2.1 hcf.2.2 hd h
    · cases hcf
  case lookupswitch dv ps =>
    simp only [am_cf] at hcf
    split at hcf
    · rename_i sl t hsw
      rw [Bool.and_eq_true, Bool.and_eq_true] at hcf
      exact am_r_lookupswitch X hsw hcf.1 hcf.2.1 hcf.2.2 hd h
    · cases hcf
  case getfield x =>
    have hcf := hcf
    simp only [am_cf, Bool.and_eq_true] at hcf
    obtain ⟨hl, hnx, hty, hany⟩ := hcf
    have hl := Nat.eq_of_beq_eq_true hl
    subst hl
    obtain ⟨q, hq⟩ := am_fls_any hany
    exact am_r_getfield X hq (Nat.eq_of_beq_eq_true hty) hd (am_nx_some hnx) h
  case putfield x =>
    simp only [am_cf, Bool.and_eq_true, Bool.not_eq_true'] at hcf
    obtain ⟨hl, hnx, hfin, hty, hany⟩ := hcf
    have hl := Nat.eq_of_beq_eq_true hl
    subst hl
    obtain ⟨q, hq⟩ := am_fls_any hany
    exact am_r_putfield X hq (Nat.eq_of_beq_eq_true hty) hfin hd (am_nx_some hnx) h
  case invokestatic x =>
    simp only [am_cf, Bool.and_eq_true, Bool.or_eq_true] at hcf
    obtain ⟨hl, hnx, hst, hnp, hor⟩ := hcf
    have hl := Nat.eq_of_beq_eq_true hl
    subst hl
    rcases hor with q | q
    · obtain ⟨h1, h2⟩ := am_mls_any q
      by_cases hm : 294 ≤ a ∧ a ≤ 298
      · exact am_r_math X hFD hm h2 hd (am_nx_some hnx) h
      · exact am_r_invokestatic X hC h1 hm hst (Nat.eq_of_beq_eq_true hnp) (Or.inl h2) hd (am_nx_some hnx) h
    · obtain ⟨h1, h2⟩ := am_nls_any q
      exact am_r_invokestatic X hC h1 (am_nls_nm q) hst (Nat.eq_of_beq_eq_true hnp) (Or.inr h2) hd (am_nx_some hnx) h
  case invokevirtual x =>
    simp only [am_cf, Bool.and_eq_true] at hcf
    obtain ⟨hl, hnx, hor⟩ := hcf
    have hl := Nat.eq_of_beq_eq_true hl
    subst hl
    by_cases h9 : a = 900
    · rw [if_pos h9] at hor
      simp only [Bool.and_eq_true] at hor
      have e2 := Nat.eq_of_beq_eq_true hor.2
      subst e2
      exact am_r_strlen X hSL h9 (Nat.eq_of_beq_eq_true hor.1) hd (am_nx_some hnx) h
    · rw [if_neg h9] at hor
      by_cases h91 : a = 901
      · rw [if_pos h91] at hor
        simp only [Bool.and_eq_true] at hor
        have e2 := Nat.eq_of_beq_eq_true hor.2
        subst e2
        exact am_r_charAt X hSA h91 (Nat.eq_of_beq_eq_true hor.1) hd (am_nx_some hnx) h
      · rw [if_neg h91] at hor
        simp only [Bool.and_eq_true, Bool.not_eq_true'] at hor
        obtain ⟨hst, hnp, hany⟩ := hor
        obtain ⟨h1, h2⟩ := am_mls_any hany
        exact am_r_invokevirtual X hC h1 (am_nm_virt hst) hst (Nat.eq_of_beq_eq_true hnp) h2 hd (am_nx_some hnx) h
  case ireturn =>
    simp only [am_cf, Bool.and_eq_true, Bool.or_eq_true] at hcf
    obtain ⟨hl, hrt⟩ := hcf
    have hl := Nat.eq_of_beq_eq_true hl
    subst hl
    exact am_r_ireturn X (hrt.imp (fun q => ⟨Nat.eq_of_beq_eq_true q.1, Nat.eq_of_beq_eq_true q.2⟩) (fun q => ⟨Nat.eq_of_beq_eq_true q.1, Nat.eq_of_beq_eq_true q.2⟩)) hd h
  case lreturn =>
    simp only [am_cf, Bool.and_eq_true] at hcf
    obtain ⟨hl, hrt⟩ := hcf
    have hl := Nat.eq_of_beq_eq_true hl
    subst hl
    exact am_r_lreturn X (Nat.eq_of_beq_eq_true hrt) hd h
  case return_ =>
    simp only [am_cf, Bool.and_eq_true] at hcf
    obtain ⟨hl, hrt⟩ := hcf
    have hl := Nat.eq_of_beq_eq_true hl
    subst hl
    exact am_r_return X (Nat.eq_of_beq_eq_true hrt) hd h
  all_goals (change none = some (r, g2) at h; cases h)
end AMD
theorem am_msk_ld {mi k : Nat} {ls : ml} {i : Nat} {v : mv} (h : am_ld (am_msk mi k ls) i = some v) : am_ld ls i = some v := by
  unfold am_msk at h
  split at h
  · exact am_ld_mask _ _ _ _ h
  · exact h
section AMZ
variable {l : Launch} {dC : Nat → ClassId} {dI : Nat → Nat → Nat} {aC : Nat → ClassId} {base : Nat} {adK adV : Nat → Nat}
theorem am_lg_len : ∀ as : List mv, (lg_sl (as.map (am_t base adK))).length = am_cat as
  | [] => rfl
  | .inl x :: as => by
    have h := am_lg_len as
    show (lg_sl (Value.int x :: as.map (am_t base adK))).length = 1 + am_cat as
    rw [← h]
    simp [lg_sl, Value.category, Nat.add_comm]
  | .inr (.inl x) :: as => by
    have h := am_lg_len as
    show (lg_sl (Value.long x :: as.map (am_t base adK))).length = 2 + am_cat as
    rw [← h]
    simp [lg_sl, Value.category, Nat.add_comm]
    omega
  | .inr (.inr x) :: as => by
    have h := am_lg_len as
    show (lg_sl (Value.ref (am_ad base adK x.1 x.2) :: as.map (am_t base adK))).length = 1 + am_cat as
    rw [← h]
    simp [lg_sl, Value.category, Nat.add_comm]
theorem am_entA_ld : ∀ (as : List mv) (n i : Nat) (v : mv), am_ld (am_entA as) i = some v → (n + i, am_t base adK v) ∈ lv_args n (as.map (am_t base adK)) ∧ v ∈ as
  | [], _, _, _, h => by cases h
  | .inl x :: as, n, 0, v, h => by cases h; exact ⟨List.mem_cons_self, List.mem_cons_self⟩
  | .inl x :: as, n, i + 1, v, h => by
    obtain ⟨q1, q2⟩ := am_entA_ld as (n + 1) i v h
    refine ⟨?_, List.mem_cons_of_mem _ q2⟩
    rw [show n + (i + 1) = n + 1 + i by omega]
    exact List.mem_cons_of_mem _ q1
  | .inr (.inr x) :: as, n, 0, v, h => by cases h; exact ⟨List.mem_cons_self, List.mem_cons_self⟩
  | .inr (.inr x) :: as, n, i + 1, v, h => by
    obtain ⟨q1, q2⟩ := am_entA_ld as (n + 1) i v h
    refine ⟨?_, List.mem_cons_of_mem _ q2⟩
    rw [show n + (i + 1) = n + 1 + i by omega]
    exact List.mem_cons_of_mem _ q1
  | .inr (.inl x) :: as, n, 0, v, h => by cases h; exact ⟨List.mem_cons_self, List.mem_cons_self⟩
  | .inr (.inl x) :: as, n, 1, v, h => by cases h
  | .inr (.inl x) :: as, n, i + 2, v, h => by
    obtain ⟨q1, q2⟩ := am_entA_ld as (n + 2) i v h
    refine ⟨?_, List.mem_cons_of_mem _ q2⟩
    rw [show n + (i + 2) = n + 2 + i by omega]
    exact List.mem_cons_of_mem _ q1
theorem am_pad_ld : ∀ (n : Nat) (l : ml) (i : Nat) (v : mv), am_ld (am_pad n l) i = some v → am_ld l i = some v
  | 0, _, _, _, h => by cases h
  | n + 1, [], 0, _, h => by cases h
  | n + 1, [], i + 1, v, h => by
    have q := am_pad_ld n [] i v h
    cases q
  | n + 1, w :: l, 0, v, h => h
  | n + 1, w :: l, i + 1, v, h => am_pad_ld n l i v h
/-- a method's run is its contract -/
theorem am_met {n d y : Nat} {as : List mv} {g : mg} {r : Option mv} {g2 : mg} (hn : ∀ (p : Program) (e : Env) (s : State) (m : MethodId) (args : Array Value) (below : List Frame) (meth : Method) (c : Code), am_Fix dC dI aC base adK adV p s m args meth c y → am_K l dC dI aC base adK p e s m args below meth c y d r g2 (am_x n d y)) (hy : am_yok y) (hoka : ∀ v ∈ as, am_okv v) (hcat : am_cat as ≤ (am_head y).2.1) (hg : g.2.2.1 < 2 ∧ g.2.2.2 < 2) (h : am_x n d y 0 (am_ent y as) [] g = some (r, g2)) : Met l (am_Y y) (am_W y) (am_rm d) (am_Pc dC dI aC base adK adV as g) (am_Qc dC dI aC base adK r g2) 0 0 (fun q => base ≤ q) := by
  refine Met.ofW (cc := am_B y) (maxL := (am_head y).2.1) (ret := am_ret y) (am_plain hy).1 rfl ?_
  intro p e s m args below meth c s₁ B hml hPc
  obtain ⟨rfl, hS, hP⟩ := hPc
  have hts := atoms_spec (ws := am_W y) B.pre
  have hown : s.vm.findClass (am_Y y).cls = some m.cls := findClass_of_methodNamed B.named
  rw [(am_words hy.1).2.2.2.2.2.1] at hown
  have hl := lv_entry (as.map (am_t base adK)) (n := (am_head y).2.1) (by rw [am_lg_len]; exact hcat)
  rw [lg_entry_eq]
  generalize (lg_sl (as.map (am_t base adK)) ++ List.replicate ((am_head y).2.1 - (lg_sl (as.map (am_t base adK))).length) Slot.unset).toArray = LS at hl ⊢
  exact hn p e s m _ below meth c ⟨B.exec, B.bytes, hml, hown, hts, B.returns, B.notSynchronized, hS⟩ 0 (am_ent y as) [] g h ⟨fun i v q => hoka v (am_entA_ld (base := base) (adK := adK) as 0 i v (am_pad_ld _ _ _ _ q)).2, (fun v q => by cases q), hg⟩ s.heap [] LS 0 ⟨hl.1, hl.2.1, fun i v q => by
    have q2 := (am_entA_ld (base := base) (adK := adK) as 0 i v (am_pad_ld _ _ _ _ q)).1
    rw [Nat.zero_add] at q2
    exact hl.2.2 _ q2⟩ hP va_S.rf (am_plain hy).2
theorem am_sound_n (hSL : am_SL l dC dI aC base adK adV) (hSA : am_SA l dC dI aC base adK adV) (hFD : am_FD l) : ∀ (n : Nat) (d mi : Nat) (r : Option mv) (g2 : mg) (p : Program) (e : Env) (s : State) (m : MethodId) (args : Array Value) (below : List Frame) (meth : Method) (c : Code), am_yok mi → am_Fix dC dI aC base adK adV p s m args meth c mi → am_K l dC dI aC base adK p e s m args below meth c mi d r g2 (am_x n d mi) := by
  intro n
  induction n with
  | zero => intro d mi r g2 p e s m args below meth c hmi hF k ls st g h; cases h
  | succ n ih =>
    intro d mi r g2 p e s m args below meth c hmi hF k ls st g h ok H locs LS b hL hP hV hb
    change (match (generalizing := false) am_nth (am_prog mi) k with
      | none => none
      | some o => am_do (am_x n d mi) (am_cx (am_x n) d) o k (am_msk mi k ls) st g) = some (r, g2) at h
    cases ho : am_nth (am_prog mi) k with
    | none => rw [ho] at h; cases h
    | some o =>
      rw [ho] at h
      refine am_disp (K := am_x n d mi) (C := am_cx (am_x n) d) (ls := am_msk mi k ls) (adV := adV) ⟨hmi, hF, ih d mi r g2 p e s m args below meth c hmi hF, hL.mask (fun i v q => am_msk_ld q), hP, hV, ⟨fun i v q => ok.1 i v (am_msk_ld q), ok.2⟩, hb⟩ ?_ hSL hSA hFD ho h
      intro y as g rc gc hc
      cases d with
      | zero => cases hc
      | succ d2 => exact ⟨d2, rfl, fun hy hoka hcat hg => am_met (fun p e s m args below meth c hF => ih d2 y rc gc p e s m args below meth c hy hF) hy hoka hcat hg hc⟩
/-- THE SMALL MACHINE IS SOUND -/
theorem am_sound (hSL : am_SL l dC dI aC base adK adV) (hSA : am_SA l dC dI aC base adK adV) (hFD : am_FD l) {d y : Nat} {as : List mv} {g : mg} {r : Option mv} {g2 : mg} (h : E d y as g = some (r, g2)) (hy : am_yok y) (hoka : ∀ v ∈ as, am_okv v) (hcat : am_cat as ≤ (am_head y).2.1) (hg : g.2.2.1 < 2 ∧ g.2.2.2 < 2) : Met l (am_Y y) (am_W y) (am_rm d) (am_Pc dC dI aC base adK adV as g) (am_Qc dC dI aC base adK r g2) 0 0 (fun q => base ≤ q) := by
  obtain ⟨n, hn⟩ := X_iff.mp h
  exact am_met (fun p e s m args below meth c hF => am_sound_n hSL hSA hFD n d y r g2 p e s m args below meth c hy hF) hy hoka hcat hg hn
end AMZ
