/-! the machine of the constructors: what is made, fields, elements -/
theorem kroom_le {y c s n k : Nat} (h : kroom y c s n k = true) : c + k ≤ (klim y).1 ∧ s + n ≤ (klim y).2 := by
  obtain ⟨h1, h2⟩ := Bool.and_eq_true_iff.mp h
  exact ⟨Nat.le_of_ble_eq_true h1, Nat.le_of_ble_eq_true h2⟩
theorem k_def (base : Nat) {C : Nat} (hC : C < 13) {ty0 : Nat → FieldType} (h3 : ∀ k, k < am_N C → parseFieldDescriptor (am_T C k).2.2.1 = some (ty0 k)) : ∀ j, j < am_N C → defaultValue (ty0 j) = vp_V ((kdef C).map (kv base)) j := by
  intro j hj
  have h := List.all_eq_true.mp (List.all_eq_true.mp kdef_ok C (List.mem_range.mpr hC)) j (List.mem_range.mpr hj)
  rw [h3 j hj] at h
  have h := of_decide_eq_true h
  have e : ((kdef C).map (kv base))[j]? = some (kv base (match am_fty C j with | 1 => some (vl 0) | 2 => none | _ => some (vi 0))) := by
    unfold kdef
    rw [List.getElem?_map, List.getElem?_map, List.getElem?_range hj]
    rfl
  have e2 : vp_V ((kdef C).map (kv base)) j = kv base (match am_fty C j with | 1 => some (vl 0) | 2 => none | _ => some (vi 0)) := by
    unfold vp_V
    rw [List.getD_eq_getElem?_getD, e]
    rfl
  rw [h, e2]
  generalize am_fty C j = z
  match z with
  | 0 => rfl
  | 1 => rfl
  | 2 => rfl
  | n + 3 => rfl
theorem k_arr {t : ArrayType} (ht : karr t < 90) : (∃ q : Nat, tables_1[q]? = some (Cond.arrayClass (newarray.typeOf t))) ∧ (∃ j : Nat, ∀ aC, (am_tys aC)[j]? = some (aC (karr t), newarray.typeOf t)) ∧ (∀ U cA, va_RA U cA (newarray.typeOf t) → U.vm.findClass ("[" ++ (newarray.typeOf t).toString) = some cA) ∧ componentBytes (newarray.typeOf t) ≤ 8 ∧ ∀ base cA n, vp_cell cA (n, kec base (karr t) []) = arrV cA n (fun _ => defaultValue (newarray.typeOf t)) := by
  obtain ⟨a1, a2, a3, a4, a5, -⟩ := kac_ok
  cases t with
  | int => exact ⟨⟨_, a2⟩, ⟨0, fun _ => rfl⟩, fun _ _ h => h, by decide, fun _ _ _ => rfl⟩
  | long => exact ⟨⟨_, a5⟩, ⟨1, fun _ => rfl⟩, fun _ _ h => h, by decide, fun _ _ _ => rfl⟩
  | byte => exact ⟨⟨_, a1⟩, ⟨2, fun _ => rfl⟩, fun _ _ h => h, by decide, fun _ _ _ => rfl⟩
  | boolean => exact ⟨⟨_, a3⟩, ⟨3, fun _ => rfl⟩, fun _ _ h => h, by decide, fun _ _ _ => rfl⟩
  | char => exact ⟨⟨_, a4⟩, ⟨4, fun _ => rfl⟩, fun _ _ h => h, by decide, fun _ _ _ => rfl⟩
  | float => exact absurd ht (by decide)
  | double => exact absurd ht (by decide)
  | short => exact absurd ht (by decide)
theorem kur_mul (base h : Nat) : ∀ n j, va_rf (kur base (kmul h n) j) = if j < n then .ref (base + (h + 1 + j)) else .null
  | 0, j => by rw [if_neg (by omega)]; rfl
  | n + 1, j => by
    show va_rf (va_up (kur base (kmul h n)) n (some (base + (h + 1 + n))) j) = _
    unfold va_up
    by_cases hj : j = n
    · subst hj
      rw [if_pos rfl, if_pos (Nat.lt_succ_self j)]
      rfl
    · rw [if_neg hj, kur_mul base h n j]
      by_cases h2 : j < n
      · rw [if_pos h2, if_pos (by omega)]
      · rw [if_neg h2, if_neg (by omega)]
theorem kinner_get (m : Nat) : ∀ n j e, (kinner m n)[j]? = some e → j < n ∧ e = .inr (20, m, [])
  | 0, _, _, h => by cases h
  | n + 1, 0, e, h => by
    have h : (Sum.inr (20, m, []) : kcell) = e := Option.some.inj h
    exact ⟨Nat.succ_pos n, h.symm⟩
  | n + 1, j + 1, e, h => by
    have h : (kinner m n)[j]? = some e := h
    obtain ⟨a, b⟩ := kinner_get m n j e h
    exact ⟨Nat.succ_lt_succ a, b⟩
theorem kinner_len (m : Nat) : ∀ n, (kinner m n).length = n
  | 0 => rfl
  | n + 1 => congrArg (· + 1) (kinner_len m n)
theorem k_fit (base : Nat) {a b : Nat} {v : mv} (ha : a < 13) (hb : b < am_N a) (h : kfit (am_fty a b) v = true) : ∃ ty, parseFieldDescriptor (am_T a b).2.2.1 = some ty ∧ narrow ty (am_t base (kadK base) v) = am_t base (kadK base) v ∧ fits ty (am_t base (kadK base) v) = true := by
  match v, h with
  | .inl x, h =>
    unfold kfit at h
    dsimp only at h
    rcases Bool.or_eq_true_iff.mp h with h | h
    · exact ⟨.int, by rw [am_fty_desc.1 (Nat.eq_of_beq_eq_true h)]; exact am_parse_I, rfl, rfl⟩
    · obtain ⟨h1, h2⟩ := Bool.and_eq_true_iff.mp h
      refine ⟨.boolean, by rw [am_fty_desc.2.1 (Nat.eq_of_beq_eq_true h1)]; exact am_parse_Z, ?_⟩
      rcases Bool.or_eq_true_iff.mp h2 with h | h
      · have := of_decide_eq_true h
        subst this
        exact ⟨rfl, rfl⟩
      · have := of_decide_eq_true h
        subst this
        exact ⟨rfl, rfl⟩
  | .inr (.inl x), h => exact ⟨.long, by rw [am_fty_desc.2.2 (Nat.eq_of_beq_eq_true h)]; exact am_parse_J, rfl, rfl⟩
  | .inr (.inr r), h =>
    obtain ⟨h1, h2⟩ := Bool.and_eq_true_iff.mp h
    have t := am_fty_ref a ha b hb (Nat.eq_of_beq_eq_true h1)
    cases hp : parseFieldDescriptor (am_T a b).2.2.1 with
    | none => rw [hp] at t; cases t
    | some ty =>
      rw [hp] at t
      have t : ty.isReference = true := t
      refine ⟨ty, rfl, ?_, ?_⟩
      · show narrow ty (.ref _) = .ref _
        cases ty <;> first | rfl | cases t
      · show fits ty (.ref _) = true
        cases ty <;> first | rfl | cases t
theorem k_ad {base r : Nat} : am_ad base (kadK base) 200 r = base + r := rfl
section KSZ
variable {l : Launch} {dC : Nat → ClassId} {dI : Nat → Nat → Nat} {aC : Nat → ClassId} {base : Nat} {p : Program} {e : Env} {s : State} {m : MethodId} {args : Array Value} {below : List Frame} {meth : Method} {c : Code} {y d : Nat} {out : kh} {K : List kop → ml → List mv → kh → Option kh} {C : Nat → List mv → List kcell → Option (List kcell)} {i : Jvm.ClassFile.Instr} {pc len a b q : Nat} {tl : List kop} {ls : ml} {st : List mv} {g : kh} {H : Heap} {locs : List Loc} {LS : Array Slot}
theorem k_r_new {x : Nat} (X : kX l dC dI aC base p e s m args below meth c y d out K (pc, .new x, len, a, b, q) tl ls g H locs LS) (hr : kroom y g.2.1 g.2.2 (am_N a) 1 = true) (h : K tl ls (vr 200 g.1.length :: st) (g.1 ++ [.inl (a, kdef a)], g.2.1 + 1, g.2.2 + am_N a) = some out) : kGo l dC dI aC base p e s m args below meth c y d out.1 H locs g pc LS st := by
  obtain ⟨hd, hc⟩ := kX_chk X
  refine k_size X (fun hs => ?_)
  obtain ⟨hy, ⟨hx, hb, hml, hown, hts, hret, hlk, hin, hS, hbs⟩, -, ho, -, hL, hP, hct, hV⟩ := id X
  unfold kcf at hc
  obtain ⟨h1, h2⟩ := Bool.and_eq_true_iff.mp (Bool.and_eq_true_iff.mp hc).2
  obtain ⟨h3, h4⟩ := Bool.and_eq_true_iff.mp h2
  have hl : len = 3 := Nat.eq_of_beq_eq_true h1
  subst hl
  have ha : a < 13 := Nat.le_of_ble_eq_true h3
  have hw := of_decide_eq_true h4
  obtain ⟨c1, c2, ⟨ty0, c3⟩, c4, c5⟩ := am_ci ha
  obtain ⟨hi1, hi2⟩ := kins_ok ha
  obtain ⟨r1, r2⟩ := kroom_le hr
  have hKn := hS.1.1 a _ c2
  refine W.newcK hx hb (C := am_R a) (n := am_N a) hown (hts _ (k_in hw rfl)) (hts _ (k_in hi1 rfl)) (hts _ (k_in hi2 rfl)) rfl hd r1 r2 hKn.2.1 rfl fun H1 kC hkC e1 z1 o1 => ?_
  have hP1 : va_P (dC, dI) classes (kw aC base (g.1 ++ [.inl (a, kdef a)])) H1 := k_push hP hs o1 (fun j e he => by
    match j, he with
    | 0, he =>
      cases he
      refine ⟨_, c2, ?_⟩
      rw [hs] at e1
      exact (u_born ty0 hts (k_inW ha) hKn hkC e1 c3).to (k_def base ha c3)
    | j + 1, he => cases he)
  have w := k_next X rfl h hL hP1 (by show base + (g.1 ++ _).length = s.heap.size + (g.2.1 + 1); rw [List.length_append]; show base + (g.1.length + 1) = _; omega) (k_pushS hV (by omega) o1)
  rw [hs]
  exact w
theorem k_r_newarray {t : ArrayType} {n : Int32} (X : kX l dC dI aC base p e s m args below meth c y d out K (pc, .newarray t, len, a, b, q) tl ls g H locs LS) (hn : ¬ n < 0) (hN : n.toNatClampNeg ≤ 60000000) (ht : karr t < 90) (hr : kroom y g.2.1 g.2.2 n.toNatClampNeg 1 = true) (h : K tl ls (vr 200 g.1.length :: st) (g.1 ++ [.inr (karr t, n.toNatClampNeg, [])], g.2.1 + 1, g.2.2 + n.toNatClampNeg) = some out) : kGo l dC dI aC base p e s m args below meth c y d out.1 H locs g pc LS (.inl n :: st) := by
  obtain ⟨hd, hc⟩ := kX_chk X
  refine k_size X (fun hs => ?_)
  obtain ⟨hy, ⟨hx, hb, hml, hown, hts, hret, hlk, hin, hS, hbs⟩, -, ho, -, hL, hP, hct, hV⟩ := id X
  obtain ⟨z, -, hz⟩ := k_cf2 hc
  have hl : len = 2 := Nat.eq_of_beq_eq_true (Bool.and_eq_true_iff.mp hz).2
  subst hl
  obtain ⟨⟨q1, hw⟩, ⟨j1, hj⟩, hRA, hB, hcell⟩ := k_arr ht
  obtain ⟨r1, r2⟩ := kroom_le hr
  refine va_newaK hx hb (atype := t) (hts _ (k_in hw rfl)) rfl hd rfl hn rfl (by have := Nat.mul_le_mul hN hB; omega) r1 r2 rfl fun H1 cA e1 z1 o1 hAr hNm => ?_
  have hcA : cA = aC (karr t) := Option.some.inj (hNm.symm.trans (hRA _ _ (hS.1.2 j1 _ (hj aC)).2))
  subst hcA
  have hP1 : va_P (dC, dI) classes (kw aC base (g.1 ++ [.inr (karr t, n.toNatClampNeg, [])])) H1 := k_push hP hs o1 (fun j e he => by
    match j, he with
    | 0, he =>
      cases he
      rw [hs] at e1
      show H1[base + (g.1.length + 0)]? = some (vp_cell _ _)
      rw [hcell]
      exact e1
    | j + 1, he => cases he)
  have w := k_next X rfl h hL hP1 (by show base + (g.1 ++ _).length = s.heap.size + (g.2.1 + 1); rw [List.length_append]; show base + (g.1.length + 1) = _; omega) (k_pushS hV (by omega) o1)
  rw [hs]
  exact w
theorem k_r_anewarray {x : Nat} {n : Int32} (X : kX l dC dI aC base p e s m args below meth c y d out K (pc, .anewarray x, len, a, b, q) tl ls g H locs LS) (hn : ¬ n < 0) (hN : n.toNatClampNeg ≤ 60000000) (hr : kroom y g.2.1 g.2.2 n.toNatClampNeg 1 = true) (h : K tl ls (vr 200 g.1.length :: st) (g.1 ++ [.inr (25, n.toNatClampNeg, [])], g.2.1 + 1, g.2.2 + n.toNatClampNeg) = some out) : kGo l dC dI aC base p e s m args below meth c y d out.1 H locs g pc LS (.inl n :: st) := by
  obtain ⟨hd, hc⟩ := kX_chk X
  refine k_size X (fun hs => ?_)
  obtain ⟨hy, ⟨hx, hb, hml, hown, hts, hret, hlk, hin, hS, hbs⟩, -, ho, -, hL, hP, hct, hV⟩ := id X
  unfold kcf at hc
  obtain ⟨h1, h2⟩ := Bool.and_eq_true_iff.mp (Bool.and_eq_true_iff.mp hc).2
  have hl : len = 3 := Nat.eq_of_beq_eq_true h1
  subst hl
  have hw := of_decide_eq_true h2
  obtain ⟨r1, r2⟩ := kroom_le hr
  refine W.anew hx hb (C := "WordEach$Witness") hown (hts _ (k_in hw rfl)) (va_AO.use hS.2.1) rfl hd rfl hn (by omega) r1 r2 fun cA kA comp f1 f2 f3 f4 => ?_
  obtain ⟨kA2, comp2, -, -, -, f5⟩ := (hS.1.2 5 _ rfl).2
  have hcA : cA = aC 25 := Option.some.inj (f1.symm.trans f5)
  subst hcA
  generalize hH1 : H.push ({ cls := aC 25, slots := Array.replicate n.toNatClampNeg .null, vm := .none } : Cell) = H1
  have z1 : H1.size = H.size + 1 := by rw [← hH1, Array.size_push]
  have e1 : H1[H.size]? = some (arrV (aC 25) n.toNatClampNeg (fun _ => .null)) := by rw [← hH1, Array.getElem?_push_size, ← arrV_new]
  have o1 : ∀ q : Nat, q < H.size → H1[q]? = H[q]? := fun q hq => by rw [← hH1, Array.getElem?_push, if_neg (Nat.ne_of_lt hq)]
  have hP1 : va_P (dC, dI) classes (kw aC base (g.1 ++ [.inr (25, n.toNatClampNeg, [])])) H1 := k_push hP hs o1 (fun j e he => by
    match j, he with
    | 0, he =>
      cases he
      rw [hs] at e1
      exact e1
    | j + 1, he => cases he)
  have w := k_next X rfl h hL hP1 (by show base + (g.1 ++ _).length = s.heap.size + (g.2.1 + 1); rw [List.length_append]; show base + (g.1.length + 1) = _; omega) (k_pushS hV (by omega) o1)
  rw [hs]
  exact w
theorem k_r_multi {x dd : Nat} {n k : Int32} (X : kX l dC dI aC base p e s m args below meth c y d out K (pc, .multianewarray x dd, len, a, b, q) tl ls g H locs LS) (hn : ¬ n < 0) (hk : ¬ k < 0) (hN : n.toNatClampNeg ≤ 60000000) (hM : k.toNatClampNeg ≤ 60000000) (hr : kroom y g.2.1 g.2.2 (n.toNatClampNeg + n.toNatClampNeg * k.toNatClampNeg) (1 + n.toNatClampNeg) = true) (h : K tl ls (vr 200 g.1.length :: st) (g.1 ++ (.inr (26, n.toNatClampNeg, kmul g.1.length n.toNatClampNeg) :: kinner k.toNatClampNeg n.toNatClampNeg), g.2.1 + (1 + n.toNatClampNeg), g.2.2 + (n.toNatClampNeg + n.toNatClampNeg * k.toNatClampNeg)) = some out) : kGo l dC dI aC base p e s m args below meth c y d out.1 H locs g pc LS (.inl k :: .inl n :: st) := by
  obtain ⟨hd, hc⟩ := kX_chk X
  refine k_size X (fun hs => ?_)
  obtain ⟨hy, ⟨hx, hb, hml, hown, hts, hret, hlk, hin, hS, hbs⟩, -, ho, -, hL, hP, hct, hV⟩ := id X
  unfold kcf at hc
  obtain ⟨h1, h2⟩ := Bool.and_eq_true_iff.mp (Bool.and_eq_true_iff.mp hc).2
  obtain ⟨h3, h4⟩ := Bool.and_eq_true_iff.mp h2
  have hl : len = 4 := Nat.eq_of_beq_eq_true h1
  subst hl
  have hdd : dd = 2 := Nat.eq_of_beq_eq_true h3
  subst hdd
  have hw := of_decide_eq_true h4
  obtain ⟨r1, r2⟩ := kroom_le hr
  refine mq_row hx hb hown (hts _ (k_in hw rfl)) hS.2.2.1 (hts _ (k_in kac_ok.2.1 rfl)) hd hn hk rfl rfl (by omega) (by omega) r1 r2 hV.1 fun H1 cA cI f1 f2 _ z1 e1 e2 o1 => ?_
  have g1 : s.vm.findClass ("[" ++ (FieldType.array .int).toString) = some (aC 26) := (hS.1.2 6 _ rfl).2
  rw [show "[" ++ (FieldType.array .int).toString = "[[I" by decide +kernel] at g1
  have g2 : s.vm.findClass ("[" ++ FieldType.int.toString) = some (aC 20) := (hS.1.2 0 _ rfl).2
  rw [show "[" ++ FieldType.int.toString = "[I" by decide +kernel] at g2
  have hcA : cA = aC 26 := Option.some.inj (f1.symm.trans g1)
  have hcI : cI = aC 20 := Option.some.inj (f2.symm.trans g2)
  subst hcA
  subst hcI
  have hP1 : va_P (dC, dI) classes (kw aC base (g.1 ++ (.inr (26, n.toNatClampNeg, kmul g.1.length n.toNatClampNeg) :: kinner k.toNatClampNeg n.toNatClampNeg))) H1 := k_push hP hs o1 (fun j e he => by
    match j, he with
    | 0, he =>
      cases he
      rw [hs] at e1
      show H1[base + (g.1.length + 0)]? = some (vp_cell _ _)
      refine e1.trans (congrArg some ?_)
      show _ = arrV (aC 26) n.toNatClampNeg (fun j => va_rf (kur base (kmul g.1.length n.toNatClampNeg) j))
      congr 1
      funext j
      rw [kur_mul]
      by_cases hj : j < n.toNatClampNeg
      · rw [if_pos hj, if_pos hj]
        have e5 : base + g.1.length + 1 + j = base + (g.1.length + 1 + j) := by omega
        exact congrArg Value.ref e5
      · rw [if_neg hj, if_neg hj]
    | j + 1, he =>
      obtain ⟨hj, rfl⟩ := kinner_get _ _ j e he
      have e3 := e2 j hj
      show H1[base + (g.1.length + (j + 1))]? = some (vp_cell _ _)
      rw [show base + (g.1.length + (j + 1)) = H.size + 1 + j by omega]
      exact e3)
  have w := k_next X rfl h hL hP1 (by show base + (g.1 ++ _).length = s.heap.size + (g.2.1 + (1 + n.toNatClampNeg)); rw [List.length_append, List.length_cons, kinner_len]; omega) (k_pushS hV (by omega) o1)
  rw [hs]
  exact w
theorem k_r_putfield {x r : Nat} {v : mv} {fs : List (Option mv)} (X : kX l dC dI aC base p e s m args below meth c y d out K (pc, .putfield x, len, a, b, q) tl ls g H locs LS) (hr : g.1[r]? = some (.inl (a, fs))) (hv : kfit (am_fty a b) v = true) (hbl : b < fs.length) (h : K tl ls st (g.1.set r (.inl (a, fs.set b (some v))), g.2) = some out) (hy6 : y ≠ 6 ∨ (am_T a b).2.2.2 = false) : kGo l dC dI aC base p e s m args below meth c y d out.1 H locs g pc LS (v :: .inr (.inr (200, r)) :: st) := by
  obtain ⟨hd, hc⟩ := kX_chk X
  refine k_size X (fun hs => ?_)
  obtain ⟨hy, ⟨hx, hb, hml, hown, hts, hret, hlk, hin, hS, hbs⟩, -, ho, -, hL, hP, hct, hV⟩ := id X
  unfold kcf at hc
  obtain ⟨h1, h2⟩ := Bool.and_eq_true_iff.mp (Bool.and_eq_true_iff.mp hc).2
  obtain ⟨h3, h4⟩ := Bool.and_eq_true_iff.mp h2
  obtain ⟨h5, h6⟩ := Bool.and_eq_true_iff.mp h4
  obtain ⟨h7, h8⟩ := Bool.and_eq_true_iff.mp h6
  have hl : len = 3 := Nat.eq_of_beq_eq_true h1
  subst hl
  have ha : a < 13 := Nat.le_of_ble_eq_true h3
  have hbN : b < am_N a := Nat.le_of_ble_eq_true h5
  have hw := of_decide_eq_true h7
  obtain ⟨c1, c2, ⟨ty0, c3⟩, c4, c5⟩ := am_ci ha
  obtain ⟨ty, t1, t2, t3⟩ := k_fit base ha hbN hv
  have he := kw_at (aC := aC) (base := base) hr
  have hset : ((fs.map (kv base)).set b (am_t base (kadK base) v)) = (fs.set b (some v)).map (kv base) := by rw [List.map_set]; rfl
  have hlen : b < (fs.map (kv base)).length := by rw [List.length_map]; exact hbl
  unfold kGo
  show W _ _ _ _ _ _ _ _ _ _ _ _ _ _ _ (F0 m pc LS (am_t base (kadK base) v :: Value.ref (base + r) :: st.map (am_t base (kadK base))))
  cases hf : (am_T a b).2.2.2 with
  | false =>
    refine va_put hx hb (ref := am_R a) (C := am_R a) (T := am_T a) (N := am_N a) hts (k_inW ha) ty0 c3 c4 hown hS.1 hP (kw_D aC base g.1) hV r he c2 b hbN (hts _ (k_in hw rfl)) (by rw [c5 b hbN]; exact fun _ q => q) hf t1 t2 t3 hlen hd (fun H1 locs1 hP1 hD1 hV1 => ?_)
    rw [kw_set (e := .inl (a, fs.set b (some v))) (by show Sum.inr _ = Sum.inr _; rw [hset])] at hP1
    exact k_next X rfl h hL hP1 (by show base + (g.1.set r _).length = s.heap.size + g.2.1; rw [List.length_set]; exact hct) hV1
  | true =>
    have hy6' : y ≠ 6 := hy6.resolve_right (by rw [hf]; decide)
    have hown2 : (khead y).1 = a := by
      rcases Bool.or_eq_true_iff.mp h8 with q | q
      · exact Nat.eq_of_beq_eq_true q
      · rw [hf] at q; cases q
    refine va_putF hx hb (ref := am_R a) (C := am_R a) (T := am_T a) (N := am_N a) hts (k_inW ha) ty0 c3 c4 hown hS.1 hP (kw_D aC base g.1) hV r he c2 b hbN (hts _ (k_in hw rfl)) (by rw [c5 b hbN]; exact fun _ q => q) hf (hin hy6') (by rw [c5 b hbN, hown2]) t1 t2 t3 hlen hd (fun H1 locs1 hP1 hD1 hV1 => ?_)
    rw [kw_set (e := .inl (a, fs.set b (some v))) (by show Sum.inr _ = Sum.inr _; rw [hset])] at hP1
    exact k_next X rfl h hL hP1 (by show base + (g.1.set r _).length = s.heap.size + g.2.1; rw [List.length_set]; exact hct) hV1
theorem k_r_getfield {x r : Nat} {v : mv} {fs : List (Option mv)} (X : kX l dC dI aC base p e s m args below meth c y d out K (pc, .getfield x, len, a, b, q) tl ls g H locs LS) (hr : g.1[r]? = some (.inl (a, fs))) (hv : fs[b]? = some (some v)) (h : K tl ls (v :: st) g = some out) : kGo l dC dI aC base p e s m args below meth c y d out.1 H locs g pc LS (.inr (.inr (200, r)) :: st) := by
  obtain ⟨hd, hc⟩ := kX_chk X
  obtain ⟨hy, ⟨hx, hb, hml, hown, hts, hret, hlk, hin, hS, hbs⟩, -, ho, -, hL, hP, hct, hV⟩ := id X
  unfold kcf at hc
  obtain ⟨h1, h2⟩ := Bool.and_eq_true_iff.mp (Bool.and_eq_true_iff.mp hc).2
  obtain ⟨h3, h4⟩ := Bool.and_eq_true_iff.mp h2
  obtain ⟨h5, h6⟩ := Bool.and_eq_true_iff.mp h4
  have hl : len = 3 := Nat.eq_of_beq_eq_true h1
  subst hl
  have ha : a < 13 := Nat.le_of_ble_eq_true h3
  have hbN : b < am_N a := Nat.le_of_ble_eq_true h5
  have hw := of_decide_eq_true h6
  obtain ⟨c1, c2, -, -, c5⟩ := am_ci ha
  have he := kw_at (aC := aC) (base := base) hr
  unfold kGo
  show W _ _ _ _ _ _ _ _ _ _ _ _ _ _ _ (F0 m pc LS (Value.ref (base + r) :: st.map (am_t base (kadK base))))
  refine va_get hx hb (ref := am_R a) (C := am_R a) (T := am_T a) (N := am_N a) (v := am_t base (kadK base) v) hts (k_inW ha) hown hS.1 hP r he c2 b hbN (hts _ (k_in hw rfl)) (by rw [c5 b hbN]; exact fun _ q => q) (by rw [List.getElem?_map, hv]; rfl) hd ?_
  exact k_next X rfl h hL hP hct hV
theorem k_in_of {j : Int32} {n : Nat} (h : kin j n = true) : vp_in j n := by
  obtain ⟨h1, h2⟩ := Bool.and_eq_true_iff.mp h
  have h1 : ¬ j < 0 := by simpa using h1
  have h2 : j.toNatClampNeg < n := Nat.le_of_ble_eq_true h2
  intro q
  rcases q with q | q
  · exact h1 q
  · omega
theorem k_r_iastore {r n : Nat} {x j : Int32} {u : List (Nat × mv)} (X : kX l dC dI aC base p e s m args below meth c y d out K (pc, .iastore, len, a, b, q) tl ls g H locs LS) (hr : g.1[r]? = some (.inr (20, n, u))) (hj : kin j n = true) (h : K tl ls st (g.1.set r (.inr (20, n, (j.toNatClampNeg, vi x) :: u)), g.2) = some out) : kGo l dC dI aC base p e s m args below meth c y d out.1 H locs g pc LS (.inl x :: .inl j :: .inr (.inr (200, r)) :: st) := by
  obtain ⟨hd, hc⟩ := kX_chk X
  obtain ⟨hy, ⟨hx, hb, hml, hown, hts, hret, hlk, hin, hS, hbs⟩, -, ho, -, hL, hP, hct, hV⟩ := id X
  obtain ⟨z, -, hz⟩ := k_cf2 hc
  have hl : len = 1 := Nat.eq_of_beq_eq_true (Bool.and_eq_true_iff.mp hz).2
  subst hl
  have he := kw_at (aC := aC) (base := base) hr
  refine va_iast (a := base + r) (f := kui u) hx hb hS.1 hP (kw_D aC base g.1) hV r 0 he rfl (k_in_of hj) hd (fun H1 locs1 hP1 hD1 hV1 => ?_)
  rw [show (kw aC base g.1).set r (base + r, .inl (aC 20, n, .inl (upd (kui u) j.toNatClampNeg x))) = kw aC base (g.1.set r (.inr (20, n, (j.toNatClampNeg, vi x) :: u))) from kw_set rfl] at hP1
  exact k_next X rfl h hL hP1 (by show base + (g.1.set r _).length = s.heap.size + g.2.1; rw [List.length_set]; exact hct) hV1
theorem k_r_castore {r n : Nat} {x j : Int32} {u : List (Nat × mv)} (X : kX l dC dI aC base p e s m args below meth c y d out K (pc, .castore, len, a, b, q) tl ls g H locs LS) (hr : g.1[r]? = some (.inr (24, n, u))) (hj : kin j n = true) (h : K tl ls st (g.1.set r (.inr (24, n, (j.toNatClampNeg, vi (vp_nar .char x)) :: u)), g.2) = some out) : kGo l dC dI aC base p e s m args below meth c y d out.1 H locs g pc LS (.inl x :: .inl j :: .inr (.inr (200, r)) :: st) := by
  obtain ⟨hd, hc⟩ := kX_chk X
  obtain ⟨hy, ⟨hx, hb, hml, hown, hts, hret, hlk, hin, hS, hbs⟩, -, ho, -, hL, hP, hct, hV⟩ := id X
  obtain ⟨z, -, hz⟩ := k_cf2 hc
  have hl : len = 1 := Nat.eq_of_beq_eq_true (Bool.and_eq_true_iff.mp hz).2
  subst hl
  have he := kw_at (aC := aC) (base := base) hr
  refine va_cast (a := base + r) (f := kui u) hx hb hS.1 hP (kw_D aC base g.1) hV r 4 he rfl (k_in_of hj) hd (fun H1 locs1 hP1 hD1 hV1 => ?_)
  rw [show (kw aC base g.1).set r (base + r, .inl (aC 24, n, .inl (upd (kui u) j.toNatClampNeg (vp_nar .char x)))) = kw aC base (g.1.set r (.inr (24, n, (j.toNatClampNeg, vi (vp_nar .char x)) :: u))) from kw_set rfl] at hP1
  exact k_next X rfl h hL hP1 (by show base + (g.1.set r _).length = s.heap.size + g.2.1; rw [List.length_set]; exact hct) hV1
theorem k_r_bastore {r n : Nat} {x j : Int32} {u : List (Nat × mv)} (X : kX l dC dI aC base p e s m args below meth c y d out K (pc, .bastore, len, a, b, q) tl ls g H locs LS) (hr : g.1[r]? = some (.inr (23, n, u))) (hj : kin j n = true) (h : K tl ls st (g.1.set r (.inr (23, n, (j.toNatClampNeg, vi (vp_nar .boolean x)) :: u)), g.2) = some out) : kGo l dC dI aC base p e s m args below meth c y d out.1 H locs g pc LS (.inl x :: .inl j :: .inr (.inr (200, r)) :: st) := by
  obtain ⟨hd, hc⟩ := kX_chk X
  obtain ⟨hy, ⟨hx, hb, hml, hown, hts, hret, hlk, hin, hS, hbs⟩, -, ho, -, hL, hP, hct, hV⟩ := id X
  obtain ⟨z, -, hz⟩ := k_cf2 hc
  have hl : len = 1 := Nat.eq_of_beq_eq_true (Bool.and_eq_true_iff.mp hz).2
  subst hl
  have he := kw_at (aC := aC) (base := base) hr
  refine va_zast (a := base + r) (f := kui u) hx hb hS.1 hP (kw_D aC base g.1) hV r 3 he rfl (k_in_of hj) hd (fun H1 locs1 hP1 hD1 hV1 => ?_)
  rw [show (kw aC base g.1).set r (base + r, .inl (aC 23, n, .inl (upd (kui u) j.toNatClampNeg (vp_nar .boolean x)))) = kw aC base (g.1.set r (.inr (23, n, (j.toNatClampNeg, vi (vp_nar .boolean x)) :: u))) from kw_set rfl] at hP1
  exact k_next X rfl h hL hP1 (by show base + (g.1.set r _).length = s.heap.size + g.2.1; rw [List.length_set]; exact hct) hV1
theorem k_r_aastore {r n w : Nat} {j : Int32} {u : List (Nat × mv)} {fs : List (Option mv)} (X : kX l dC dI aC base p e s m args below meth c y d out K (pc, .aastore, len, a, b, q) tl ls g H locs LS) (hr : g.1[r]? = some (.inr (25, n, u))) (hw : g.1[w]? = some (.inl (10, fs))) (hj : kin j n = true) (h : K tl ls st (g.1.set r (.inr (25, n, (j.toNatClampNeg, vr 200 w) :: u)), g.2) = some out) : kGo l dC dI aC base p e s m args below meth c y d out.1 H locs g pc LS (.inr (.inr (200, w)) :: .inl j :: .inr (.inr (200, r)) :: st) := by
  obtain ⟨hd, hc⟩ := kX_chk X
  obtain ⟨hy, ⟨hx, hb, hml, hown, hts, hret, hlk, hin, hS, hbs⟩, -, ho, -, hL, hP, hct, hV⟩ := id X
  obtain ⟨z, -, hz⟩ := k_cf2 hc
  have hl : len = 1 := Nat.eq_of_beq_eq_true (Bool.and_eq_true_iff.mp hz).2
  subst hl
  have he := kw_at (aC := aC) (base := base) hr
  have he2 := kw_at (aC := aC) (base := base) hw
  obtain ⟨c1, c2, -, -, c5⟩ := am_ci (show 10 < 13 by decide)
  refine va_astq (a := base + r) (f := kur base u) (v := base + w) hx hb hS.1 hP (kw_D aC base g.1) hV r 5 w 10 he rfl he2 c2 (k_in_of hj) hd (fun H1 locs1 hP1 hD1 hV1 => ?_)
  rw [show (kw aC base g.1).set r (base + r, .inl (aC 25, n, .inr (.inr (.inr (.inr (va_up (kur base u) j.toNatClampNeg (some (base + w)))))))) = kw aC base (g.1.set r (.inr (25, n, (j.toNatClampNeg, vr 200 w) :: u))) from kw_set rfl] at hP1
  exact k_next X rfl h hL hP1 (by show base + (g.1.set r _).length = s.heap.size + g.2.1; rw [List.length_set]; exact hct) hV1
end KSZ
