/-! the machine of the constructors is sound: worlds, steps -/
def kadK (base : Nat) : Nat → Nat := fun q => base + q
def kv (base : Nat) (o : Option mv) : Value := match o with
  | none => .null
  | some v => am_t base (kadK base) v
def kui : List (Nat × mv) → Nat → Int32
  | [] => fun _ => 0
  | (j, .inl v) :: l => upd (kui l) j v
  | (_, .inr _) :: l => kui l
def kur (base : Nat) : List (Nat × mv) → Nat → Option Nat
  | [] => fun _ => none
  | (j, .inr (.inr r)) :: l => va_up (kur base l) j (some (base + r.2))
  | (_, .inl _) :: l => kur base l
  | (_, .inr (.inl _)) :: l => kur base l
def kec (base : Nat) (t : Nat) (u : List (Nat × mv)) : (Nat → Int32) ⊕ (Nat → Int64) ⊕ (Nat → UInt32) ⊕ (Nat → UInt64) ⊕ (Nat → Option Nat) := match t with
  | 21 => .inr (.inl (fun _ => 0))
  | 25 => .inr (.inr (.inr (.inr (kur base u))))
  | 26 => .inr (.inr (.inr (.inr (kur base u))))
  | _ => .inl (kui u)
def kE (aC : Nat → ClassId) (base : Nat) (e : kcell) : va_E := match e with
  | .inl (C, fs) => .inr (C, fs.map (kv base))
  | .inr (t, n, u) => .inl (aC t, n, kec base t u)
def kw (aC : Nat → ClassId) (base : Nat) (hs : List kcell) : va_W := hs.mapIdx (fun q e => (base + q, kE aC base e))
theorem kw_get (aC : Nat → ClassId) (base : Nat) (hs : List kcell) (q : Nat) : (kw aC base hs)[q]? = hs[q]?.map (fun e => (base + q, kE aC base e)) := by
  unfold kw
  rw [List.getElem?_mapIdx]
theorem kw_at {aC : Nat → ClassId} {base : Nat} {hs : List kcell} {q : Nat} {e : kcell} (h : hs[q]? = some e) : (kw aC base hs)[q]? = some (base + q, kE aC base e) := by
  rw [kw_get, h]
  rfl
theorem kw_set {aC : Nat → ClassId} {base : Nat} {hs : List kcell} {r : Nat} {e : kcell} {E : va_E} (hE : kE aC base e = E) : (kw aC base hs).set r (base + r, E) = kw aC base (hs.set r e) := by
  subst hE
  apply List.ext_getElem?
  intro q
  rw [kw_get, List.getElem?_set, List.getElem?_set]
  by_cases hq : r = q
  · subst hq
    rw [if_pos rfl, if_pos rfl]
    have hl : (kw aC base hs).length = hs.length := by unfold kw; exact List.length_mapIdx
    rw [hl]
    split <;> rfl
  · rw [if_neg hq, if_neg hq, kw_get]
theorem kw_D (aC : Nat → ClassId) (base : Nat) (hs : List kcell) : va_D (fun q => base ≤ q) (kw aC base hs) := by
  have key : ∀ i p, (kw aC base hs)[i]? = some p → p.1 = base + i := by
    intro i p h
    rw [kw_get] at h
    cases he : hs[i]? with
    | none => rw [he] at h; cases h
    | some e => rw [he] at h; cases h; rfl
  refine ⟨fun i j p q hi hj hpq => ?_, fun k q hq => ?_⟩
  · have a := key i p hi
    have b := key j q hj
    omega
  · have a := key k q hq
    show base ≤ q.1
    omega
theorem k_push {dC : Nat → ClassId} {dI : Nat → Nat → Nat} {aC : Nat → ClassId} {base : Nat} {hs es : List kcell} {H H1 : Heap} (hP : va_P (dC, dI) classes (kw aC base hs) H) (hz : H.size = base + hs.length) (o1 : ∀ q, q < H.size → H1[q]? = H[q]?) (he : ∀ j e, es[j]? = some e → va_at (dC, dI) classes (base + (hs.length + j), kE aC base e) H1) : va_P (dC, dI) classes (kw aC base (hs ++ es)) H1 := by
  intro k q hk
  rw [kw_get] at hk
  by_cases hl : k < hs.length
  · rw [List.getElem?_append_left hl] at hk
    have h1 := hP k q (by rw [kw_get]; exact hk)
    refine h1.kept ?_
    have hq : q.1 = base + k := by
      cases h2 : hs[k]? with
      | none => rw [h2] at hk; cases hk
      | some e => rw [h2] at hk; cases hk; rfl
    exact o1 _ (by rw [hq, hz]; omega)
  · rw [List.getElem?_append_right (by omega)] at hk
    cases h2 : es[k - hs.length]? with
    | none => rw [h2] at hk; cases hk
    | some e =>
      rw [h2] at hk
      cases hk
      have h3 := he _ e h2
      rw [show hs.length + (k - hs.length) = k by omega] at h3
      exact h3
theorem k_pushS {base : Nat} {H0 H H1 : Heap} {locs : List Loc} (hS : va_S (fun q => base ≤ q) H0 H locs) (z : H.size ≤ H1.size) (o1 : ∀ q, q < H.size → H1[q]? = H[q]?) : va_S (fun q => base ≤ q) H0 H1 locs :=
  ⟨Nat.le_trans hS.1 z, fun x h1 h2 => (o1 x (Nat.lt_of_lt_of_le h1 hS.1)).trans (hS.2.1 x h1 h2), hS.2.2⟩
def kgood : List Cond := am_good
def kW (y : Nat) : List Cond := Cond.code (kY y) (kB y) (khead y).2.1 none :: am_good
def kS (dC : Nat → ClassId) (dI : Nat → Nat → Nat) (aC : Nat → ClassId) (U : State) : Prop :=
  va_K (dC, dI) classes (am_tys aC) U ∧ va_AO "WordEach$Witness" U ∧ kAA U ∧ (∀ e ∈ knls, va_Nw (Cond.methodLinkNest (am_R e.1) e.2.1 (kY e.2.2.1) "WordEach") U)
def krm (d y : Nat) : Room := { frames := d + 2, cells := (klim y).1, slots := (klim y).2, locals := 40 * d + 60 }
def kPc (dC : Nat → ClassId) (dI : Nat → Nat → Nat) (aC : Nat → ClassId) (base : Nat) (as : List mv) (hs : List kcell) : Array Value → State → Prop :=
  va_Pc (as.map (am_t base (kadK base))) (fun U => kS dC dI aC U ∧ U.heap.size = base + hs.length ∧ va_P (dC, dI) classes (kw aC base hs) U.heap)
def kQc (dC : Nat → ClassId) (dI : Nat → Nat → Nat) (aC : Nat → ClassId) (base : Nat) (hs : List kcell) : Array Value → State → Outcome → State → Prop :=
  fun _ st o t => o = .returned none ∧ va_P (dC, dI) classes (kw aC base hs) t.heap ∧ va_F (fun q => base ≤ q) st t
theorem kS_moved {dC : Nat → ClassId} {dI : Nat → Nat → Nat} {aC : Nat → ClassId} {s U : State} (h : kS dC dI aC s) (hW : s.WarmedH U.vm) : kS dC dI aC U :=
  ⟨va_K.moved hW.alike h.1, h.2.1.moved hW.alike, h.2.2.1.moved hW.alike, fun e he => (h.2.2.2 e he).warmM hW⟩
theorem kS_calling {dC : Nat → ClassId} {dI : Nat → Nat → Nat} {aC : Nat → ClassId} {U : State} {gf : JFrame} {mk : MethodId} {a : Array Value} (h : kS dC dI aC U) : kS dC dI aC (U.calling gf mk a) :=
  ⟨va_K.moved (u := U) (U := U.calling gf mk a) (Vm.Alike.refl U.vm) h.1, va_AO.moved (u := U) (U := U.calling gf mk a) (Vm.Alike.refl U.vm) h.2.1, kAA.moved (u := U) (U := U.calling gf mk a) (Vm.Alike.refl U.vm) h.2.2.1, fun e he => va_Nw.same rfl (u := U) rfl (h.2.2.2 e he)⟩
theorem kPc_blind (dC : Nat → ClassId) (dI : Nat → Nat → Nat) (aC : Nat → ClassId) (base : Nat) (as : List mv) (hs : List kcell) : FrameBlind (kPc dC dI aC base as hs) :=
  fun _ _ _ _ q => ⟨q.1, kS_calling q.2.1, q.2.2⟩
theorem kfrom_suf : ∀ (l : List kop) (t : Nat), ∃ pre, l = pre ++ kfrom l t
  | [], _ => ⟨[], rfl⟩
  | o :: l, t => by
    unfold kfrom
    cases h : Nat.beq o.1 t with
    | true => exact ⟨[], rfl⟩
    | false =>
      obtain ⟨pre, hp⟩ := kfrom_suf l t
      refine ⟨o :: pre, ?_⟩
      show o :: l = o :: (pre ++ kfrom l t)
      rw [← hp]
theorem kfrom_hd : ∀ (l : List kop) (t : Nat), kfrom l t ≠ [] → khd (kfrom l t) = t
  | [], _, h => absurd rfl h
  | o :: l, t, h => by
    unfold kfrom at h ⊢
    cases hb : Nat.beq o.1 t with
    | true => exact Nat.eq_of_beq_eq_true hb
    | false =>
      rw [hb] at h
      exact kfrom_hd l t h
theorem kchks_suf {own nx : Nat} {bytes : ByteArray} : ∀ (pre : List kop) (o : kop) (tl : List kop), kchks own bytes nx (pre ++ o :: tl) = true → kchk1 own bytes (knx nx tl) o = true
  | [], o, tl, h => (Bool.and_eq_true_iff.mp h).1
  | _ :: pre, o, tl, h => kchks_suf pre o tl (Bool.and_eq_true_iff.mp h).2
def kFix (dC : Nat → ClassId) (dI : Nat → Nat → Nat) (aC : Nat → ClassId) (base : Nat) (p : Program) (s : State) (m : MethodId) (args : Array Value) (meth : Method) (c : Code) (y : Nat) : Prop :=
  p.tables.exec = Jvm.exec ∧ c.code = kB y ∧ c.maxLocals = (khead y).2.1 ∧ s.vm.findClass (am_R (khead y).1) = some m.cls ∧ (∀ w ∈ kW y, w.before args s = true) ∧ meth.sig.returnType = none ∧ meth.locks = false ∧ (y ≠ 6 → meth.name = "<init>") ∧ kS dC dI aC s ∧ base ≤ s.heap.size
def kGo (l : Launch) (dC : Nat → ClassId) (dI : Nat → Nat → Nat) (aC : Nat → ClassId) (base : Nat) (p : Program) (e : Env) (s : State) (m : MethodId) (args : Array Value) (below : List Frame) (meth : Method) (c : Code) (y d : Nat) (hs2 : List kcell) (H : Heap) (locs : List Loc) (g : kh) (pc : Nat) (LS : Array Slot) (st : List mv) : Prop :=
  W p l e (krm d y) s m args below meth c H locs g.2.1 g.2.2 (MQ below (kQc dC dI aC base hs2) args s (klim y).1 (klim y).2 (fun q => base ≤ q)) (F0 m pc LS (st.map (am_t base (kadK base))))
def kK (l : Launch) (dC : Nat → ClassId) (dI : Nat → Nat → Nat) (aC : Nat → ClassId) (base : Nat) (p : Program) (e : Env) (s : State) (m : MethodId) (args : Array Value) (below : List Frame) (meth : Method) (c : Code) (y d : Nat) (out : kh) (K : List kop → ml → List mv → kh → Option kh) : Prop :=
  (∀ ls st g, K [] ls st g = none) ∧ ∀ rest ls st g, K rest ls st g = some out → (∃ pre, kprog y = pre ++ rest) → ∀ H locs LS, am_lv base (kadK base) LS (khead y).2.1 ls → va_P (dC, dI) classes (kw aC base g.1) H → base + g.1.length = s.heap.size + g.2.1 → va_S (fun q => base ≤ q) s.heap H locs → kGo l dC dI aC base p e s m args below meth c y d out.1 H locs g (khd rest) LS st
def kX (l : Launch) (dC : Nat → ClassId) (dI : Nat → Nat → Nat) (aC : Nat → ClassId) (base : Nat) (p : Program) (e : Env) (s : State) (m : MethodId) (args : Array Value) (below : List Frame) (meth : Method) (c : Code) (y d : Nat) (out : kh) (K : List kop → ml → List mv → kh → Option kh) (o : kop) (tl : List kop) (ls : ml) (g : kh) (H : Heap) (locs : List Loc) (LS : Array Slot) : Prop :=
  y < 14 ∧ kFix dC dI aC base p s m args meth c y ∧ kK l dC dI aC base p e s m args below meth c y d out K ∧ (out.2.1 = (klim y).1 ∧ out.2.2 = (klim y).2) ∧ (∃ pre, kprog y = pre ++ o :: tl) ∧ am_lv base (kadK base) LS (khead y).2.1 ls ∧ va_P (dC, dI) classes (kw aC base g.1) H ∧ base + g.1.length = s.heap.size + g.2.1 ∧ va_S (fun q => base ≤ q) s.heap H locs
section KSX
variable {l : Launch} {dC : Nat → ClassId} {dI : Nat → Nat → Nat} {aC : Nat → ClassId} {base : Nat} {p : Program} {e : Env} {s : State} {m : MethodId} {args : Array Value} {below : List Frame} {meth : Method} {c : Code} {y d : Nat} {out : kh} {K : List kop → ml → List mv → kh → Option kh} {C : Nat → List mv → List kcell → Option (List kcell)} {i : Jvm.ClassFile.Instr} {pc len a b q : Nat} {tl : List kop} {ls : ml} {st : List mv} {g : kh} {H : Heap} {locs : List Loc} {LS : Array Slot}
theorem kX_chk (X : kX l dC dI aC base p e s m args below meth c y d out K (pc, i, len, a, b, q) tl ls g H locs LS) : decode (kB y) pc = .ok (i, len) ∧ kcf (khead y).1 pc len (knx 0 tl) i a b q = true := by
  obtain ⟨hy, -, -, -, ⟨pre, hp⟩, -⟩ := X
  have h := kchk_ok hy
  unfold kchk at h
  rw [hp] at h
  have h1 := kchks_suf pre _ _ h
  unfold kchk1 at h1
  dsimp only at h1
  cases hd : decode (kB y) pc with
  | error _ => rw [hd] at h1; cases h1
  | ok r =>
    obtain ⟨i2, len2⟩ := r
    rw [hd] at h1
    dsimp only at h1
    rw [Bool.and_eq_true, Bool.and_eq_true] at h1
    obtain ⟨e1, e2, e3⟩ := h1
    have e1 := of_decide_eq_true e1
    have e2 := Nat.eq_of_beq_eq_true e2
    subst e1
    subst e2
    exact ⟨rfl, e3⟩
/-- on to the next op -/
theorem k_next (X : kX l dC dI aC base p e s m args below meth c y d out K (pc, i, len, a, b, q) tl ls g H locs LS) (hi : kisret i = false) {ls2 : ml} {st2 : List mv} {g2 : kh} (h : K tl ls2 st2 g2 = some out) {H2 : Heap} {locs2 : List Loc} {LS2 : Array Slot} (hL : am_lv base (kadK base) LS2 (khead y).2.1 ls2) (hP : va_P (dC, dI) classes (kw aC base g2.1) H2) (hz : base + g2.1.length = s.heap.size + g2.2.1) (hV : va_S (fun q => base ≤ q) s.heap H2 locs2) : kGo l dC dI aC base p e s m args below meth c y d out.1 H2 locs2 g2 (pc + len) LS2 st2 := by
  have hc := (kX_chk X).2
  obtain ⟨hy, hF, hK, ho, ⟨pre, hp⟩, -⟩ := X
  unfold kcf at hc
  have hn := (Bool.and_eq_true_iff.mp hc).1
  rw [hi, Bool.false_or] at hn
  match tl, hn, h, hp with
  | [], _, h, _ => rw [hK.1] at h; cases h
  | o2 :: tl2, hn, h, hp =>
    have hn : o2.1 = pc + len := Nat.eq_of_beq_eq_true hn
    have w := hK.2 (o2 :: tl2) ls2 st2 g2 h ⟨pre ++ [(pc, i, len, a, b, q)], by rw [hp]; simp⟩ H2 locs2 LS2 hL hP hz hV
    rw [show khd (o2 :: tl2) = pc + len from hn] at w
    exact w
/-- the heap's size, out of the room -/
theorem k_size (X : kX l dC dI aC base p e s m args below meth c y d out K (pc, i, len, a, b, q) tl ls g H locs LS) {pc2 : Nat} {st2 : List mv} (k : H.size = base + g.1.length → kGo l dC dI aC base p e s m args below meth c y d out.1 H locs g pc2 LS st2) : kGo l dC dI aC base p e s m args below meth c y d out.1 H locs g pc2 LS st2 := by
  obtain ⟨hy, hF, -, -, -, -, hP, hs, hV⟩ := X
  have hbs := hF.2.2.2.2.2.2.2.2.2
  intro T hT X2
  have hup : T.heap.size ≤ s.heap.size + g.2.1 := X2.same.2.2.1
  rw [hT] at hup
  have hlo : base + g.1.length ≤ H.size := by
    rcases Nat.eq_zero_or_pos g.1.length with h0 | h0
    · have := hV.1
      omega
    · obtain ⟨e0, he0⟩ : ∃ e0, g.1[g.1.length - 1]? = some e0 := ⟨_, List.getElem?_eq_getElem (by omega)⟩
      have h1 := (hP _ _ (kw_at (aC := aC) (base := base) he0)).lt
      have h1 : base + (g.1.length - 1) < H.size := h1
      omega
  exact k (by omega) T hT X2
theorem k_jump (X : kX l dC dI aC base p e s m args below meth c y d out K (pc, i, len, a, b, q) tl ls g H locs LS) {t : Nat} {ls2 : ml} {st2 : List mv} (h : K (kfrom (kprog y) t) ls2 st2 g = some out) (hL : am_lv base (kadK base) LS (khead y).2.1 ls2) : kGo l dC dI aC base p e s m args below meth c y d out.1 H locs g t LS st2 := by
  obtain ⟨hy, hF, hK, ho, -, -, hP, hz, hV⟩ := X
  have hne : kfrom (kprog y) t ≠ [] := fun q => by rw [q, hK.1] at h; cases h
  have w := hK.2 _ ls2 st2 g h (kfrom_suf _ _) H locs LS hL hP hz hV
  rw [kfrom_hd _ _ hne] at w
  exact w
theorem k_in {y : Nat} {w : Cond} {q : Nat} (h : tables_1[q]? = some w) (hg : goodWord w = true) : w ∈ kW y := List.mem_cons_of_mem _ (List.mem_filter.mpr ⟨List.mem_append_right _ (List.mem_of_getElem? h), hg⟩)
theorem k_inW {C y : Nat} (hC : C < 13) : ∀ x ∈ u_ws (am_R C) (am_T C) (am_N C), x ∈ kW y :=
  fun x hx => List.mem_cons_of_mem _ (List.mem_filter.mpr ⟨(am_ci hC).1 x hx, am_u_good hx⟩)
end KSX
section KSY
variable {l : Launch} {dC : Nat → ClassId} {dI : Nat → Nat → Nat} {aC : Nat → ClassId} {base : Nat} {p : Program} {e : Env} {s : State} {m : MethodId} {args : Array Value} {below : List Frame} {meth : Method} {c : Code} {y d : Nat} {out : kh} {K : List kop → ml → List mv → kh → Option kh} {C : Nat → List mv → List kcell → Option (List kcell)} {i : Jvm.ClassFile.Instr} {pc len a b q : Nat} {tl : List kop} {ls : ml} {st : List mv} {g : kh} {H : Heap} {locs : List Loc} {LS : Array Slot}
theorem k_cf2 {own nx : Nat} (h : kcf own pc len nx i a b q = true) : ∃ z : Bool, z = true ∧ (z && match i with
  | .iconst _ => Nat.beq len 1
  | .bipush _ => Nat.beq len 2
  | .sipush _ => Nat.beq len 3
  | .lconst _ => Nat.beq len 1
  | .aload_n _ => Nat.beq len 1
  | .iload_n _ => Nat.beq len 1
  | .istore_n _ => Nat.beq len 1
  | .iinc _ _ => Nat.beq len 3
  | .dup => Nat.beq len 1
  | .iastore => Nat.beq len 1
  | .castore => Nat.beq len 1
  | .bastore => Nat.beq len 1
  | .aastore => Nat.beq len 1
  | .newarray _ => Nat.beq len 2
  | .return_ => Nat.beq len 1
  | _ => true) = true := by
  unfold kcf at h
  obtain ⟨h1, h2⟩ := Bool.and_eq_true_iff.mp h
  refine ⟨true, rfl, ?_⟩
  rw [Bool.true_and]
  cases i <;> first | exact h2 | rfl
/-- values, locals, branches -/
theorem k_r_iconst {n : Int} (X : kX l dC dI aC base p e s m args below meth c y d out K (pc, .iconst n, len, a, b, q) tl ls g H locs LS) (h : K tl ls (vi (Int32.ofInt n) :: st) g = some out) : kGo l dC dI aC base p e s m args below meth c y d out.1 H locs g pc LS st := by
  obtain ⟨hd, hc⟩ := kX_chk X
  obtain ⟨z, -, hz⟩ := k_cf2 hc
  have hl : len = 1 := Nat.eq_of_beq_eq_true (Bool.and_eq_true_iff.mp hz).2
  subst hl
  obtain ⟨hy, ⟨hx, hb, -⟩, -, -, -, hL, hP, hs, hV⟩ := id X
  exact lv_iconst hx hb hd rfl (k_next X rfl h hL hP hs hV)
theorem k_r_bipush {n : Int} (X : kX l dC dI aC base p e s m args below meth c y d out K (pc, .bipush n, len, a, b, q) tl ls g H locs LS) (h : K tl ls (vi (Int8.ofInt n).toInt32 :: st) g = some out) : kGo l dC dI aC base p e s m args below meth c y d out.1 H locs g pc LS st := by
  obtain ⟨hd, hc⟩ := kX_chk X
  obtain ⟨z, -, hz⟩ := k_cf2 hc
  have hl : len = 2 := Nat.eq_of_beq_eq_true (Bool.and_eq_true_iff.mp hz).2
  subst hl
  obtain ⟨hy, ⟨hx, hb, -⟩, -, -, -, hL, hP, hs, hV⟩ := id X
  exact lv_bipush hx hb hd rfl (k_next X rfl h hL hP hs hV)
theorem k_r_sipush {n : Int} (X : kX l dC dI aC base p e s m args below meth c y d out K (pc, .sipush n, len, a, b, q) tl ls g H locs LS) (h : K tl ls (vi (Int16.ofInt n).toInt32 :: st) g = some out) : kGo l dC dI aC base p e s m args below meth c y d out.1 H locs g pc LS st := by
  obtain ⟨hd, hc⟩ := kX_chk X
  obtain ⟨z, -, hz⟩ := k_cf2 hc
  have hl : len = 3 := Nat.eq_of_beq_eq_true (Bool.and_eq_true_iff.mp hz).2
  subst hl
  obtain ⟨hy, ⟨hx, hb, -⟩, -, -, -, hL, hP, hs, hV⟩ := id X
  exact lv_sipush hx hb hd rfl (k_next X rfl h hL hP hs hV)
theorem k_r_lconst {n : Fin 2} (X : kX l dC dI aC base p e s m args below meth c y d out K (pc, .lconst n, len, a, b, q) tl ls g H locs LS) (h : K tl ls (vl (Int64.ofNat n.val) :: st) g = some out) : kGo l dC dI aC base p e s m args below meth c y d out.1 H locs g pc LS st := by
  obtain ⟨hd, hc⟩ := kX_chk X
  obtain ⟨z, -, hz⟩ := k_cf2 hc
  have hl : len = 1 := Nat.eq_of_beq_eq_true (Bool.and_eq_true_iff.mp hz).2
  subst hl
  obtain ⟨hy, ⟨hx, hb, -⟩, -, -, -, hL, hP, hs, hV⟩ := id X
  exact lv_lconst hx hb hd rfl (k_next X rfl h hL hP hs hV)
theorem k_r_aload {n : Fin 4} (X : kX l dC dI aC base p e s m args below meth c y d out K (pc, .aload_n n, len, a, b, q) tl ls g H locs LS) {v : Nat × Nat} (hv : am_ld ls n.val = some (.inr (.inr v))) (h : K tl ls (.inr (.inr v) :: st) g = some out) : kGo l dC dI aC base p e s m args below meth c y d out.1 H locs g pc LS st := by
  obtain ⟨hd, hc⟩ := kX_chk X
  obtain ⟨z, -, hz⟩ := k_cf2 hc
  have hl : len = 1 := Nat.eq_of_beq_eq_true (Bool.and_eq_true_iff.mp hz).2
  subst hl
  obtain ⟨hy, ⟨hx, hb, -⟩, -, -, -, hL, hP, hs, hV⟩ := id X
  exact lv_aload_n hx hb hd rfl (hL.2.2 _ _ hv) (k_next X rfl h hL hP hs hV)
theorem k_r_iload {n : Fin 4} (X : kX l dC dI aC base p e s m args below meth c y d out K (pc, .iload_n n, len, a, b, q) tl ls g H locs LS) {v : Int32} (hv : am_ld ls n.val = some (.inl v)) (h : K tl ls (.inl v :: st) g = some out) : kGo l dC dI aC base p e s m args below meth c y d out.1 H locs g pc LS st := by
  obtain ⟨hd, hc⟩ := kX_chk X
  obtain ⟨z, -, hz⟩ := k_cf2 hc
  have hl : len = 1 := Nat.eq_of_beq_eq_true (Bool.and_eq_true_iff.mp hz).2
  subst hl
  obtain ⟨hy, ⟨hx, hb, -⟩, -, -, -, hL, hP, hs, hV⟩ := id X
  exact lv_iload_n hx hb hd rfl (hL.2.2 _ _ hv) (k_next X rfl h hL hP hs hV)
theorem k_r_istore {n : Fin 4} {v : Int32} (X : kX l dC dI aC base p e s m args below meth c y d out K (pc, .istore_n n, len, a, b, q) tl ls g H locs LS) (hn : n.val < (khead y).2.1) (h : K tl (am_s1 ls n.val (.inl v)) st g = some out) : kGo l dC dI aC base p e s m args below meth c y d out.1 H locs g pc LS (.inl v :: st) := by
  obtain ⟨hd, hc⟩ := kX_chk X
  obtain ⟨z, -, hz⟩ := k_cf2 hc
  have hl : len = 1 := Nat.eq_of_beq_eq_true (Bool.and_eq_true_iff.mp hz).2
  subst hl
  obtain ⟨hy, ⟨hx, hb, -⟩, -, -, -, hL, hP, hs, hV⟩ := id X
  exact lv_istore_n hx hb hd rfl hL.has hn rfl (fun LS2 h2 => k_next X rfl h (am_lv.s1 h2) hP hs hV)
theorem k_r_iinc {n : Nat} {z : Int} {v : Int32} (X : kX l dC dI aC base p e s m args below meth c y d out K (pc, .iinc n z, len, a, b, q) tl ls g H locs LS) (hld : am_ld ls n = some (.inl v)) (h : K tl (am_s1 ls n (.inl (v + Int32.ofInt z))) st g = some out) : kGo l dC dI aC base p e s m args below meth c y d out.1 H locs g pc LS st := by
  obtain ⟨hd, hc⟩ := kX_chk X
  obtain ⟨z2, -, hz⟩ := k_cf2 hc
  have hl : len = 3 := Nat.eq_of_beq_eq_true (Bool.and_eq_true_iff.mp hz).2
  subst hl
  obtain ⟨hy, ⟨hx, hb, -⟩, -, -, -, hL, hP, hs, hV⟩ := id X
  have hi : n < (khead y).2.1 := by
    have q := (Array.getElem?_eq_some_iff.mp (hL.2.2 _ _ hld)).1
    rwa [hL.1] at q
  obtain ⟨q, hq⟩ := List.getElem?_of_mem ((am_as_mem base (kadK base) ls 0 _).mpr ⟨n, _, hld, rfl⟩)
  rw [Nat.zero_add] at hq
  exact lv_iinc hx hb hd hL.has hq rfl hi rfl (fun LS2 h2 => k_next X rfl h (am_lv.s1 (v := .inl (v + Int32.ofInt z)) h2) hP hs hV)
theorem k_r_dup {v : mv} (hv : am_cat1 v = 1) (X : kX l dC dI aC base p e s m args below meth c y d out K (pc, .dup, len, a, b, q) tl ls g H locs LS) (h : K tl ls (v :: v :: st) g = some out) : kGo l dC dI aC base p e s m args below meth c y d out.1 H locs g pc LS (v :: st) := by
  obtain ⟨hd, hc⟩ := kX_chk X
  obtain ⟨z, -, hz⟩ := k_cf2 hc
  have hl : len = 1 := Nat.eq_of_beq_eq_true (Bool.and_eq_true_iff.mp hz).2
  subst hl
  obtain ⟨hy, ⟨hx, hb, -⟩, -, -, -, hL, hP, hs, hV⟩ := id X
  exact lv_dup hx hb hd (by rw [am_t_cat]; exact hv) (k_next X rfl h hL hP hs hV)
theorem k_r_goto {off : Int} (X : kX l dC dI aC base p e s m args below meth c y d out K (pc, .goto off, len, a, b, q) tl ls g H locs LS) (h : K (kfrom (kprog y) a) ls st g = some out) : kGo l dC dI aC base p e s m args below meth c y d out.1 H locs g pc LS st := by
  obtain ⟨hd, hc⟩ := kX_chk X
  obtain ⟨hy, ⟨hx, hb, -⟩, -, -, -, hL, hP, hs, hV⟩ := id X
  unfold kcf at hc
  have hc := (Bool.and_eq_true_iff.mp hc).2
  obtain ⟨h1, h2⟩ := Bool.and_eq_true_iff.mp hc
  have hl : len = 3 := Nat.eq_of_beq_eq_true h1
  subst hl
  exact lv_goto hx hb hd (of_decide_eq_true h2) (k_jump X h hL)
theorem k_r_icmp {off : Int} {u v : Int32} (X : kX l dC dI aC base p e s m args below meth c y d out K (pc, .if_icmp .ge off, len, a, b, q) tl ls g H locs LS) (h : (if u < v then K tl ls st g else K (kfrom (kprog y) a) ls st g) = some out) : kGo l dC dI aC base p e s m args below meth c y d out.1 H locs g pc LS (.inl v :: .inl u :: st) := by
  obtain ⟨hd, hc⟩ := kX_chk X
  obtain ⟨hy, ⟨hx, hb, -⟩, -, -, -, hL, hP, hs, hV⟩ := id X
  unfold kcf at hc
  have hc := (Bool.and_eq_true_iff.mp hc).2
  obtain ⟨h1, h2⟩ := Bool.and_eq_true_iff.mp hc
  have hl : len = 3 := Nat.eq_of_beq_eq_true h1
  subst hl
  refine lv_icmp_ge hx hb hd (of_decide_eq_true h2) (fun q => ?_) (fun q => ?_)
  · have hn : ¬ u < v := by
      intro q2
      first
        | exact q q2
        | (rw [Int32.lt_iff_toInt_lt] at q2; rw [Int32.le_iff_toInt_le] at q; omega)
    rw [if_neg hn] at h
    exact k_jump X h hL
  · have hp : u < v := by
      first
        | exact Decidable.of_not_not q
        | (rw [Int32.lt_iff_toInt_lt]; rw [Int32.le_iff_toInt_le] at q; omega)
    rw [if_pos hp] at h
    exact k_next X rfl h hL hP hs hV
theorem k_r_return (X : kX l dC dI aC base p e s m args below meth c y d out K (pc, .return_, len, a, b, q) tl ls out H locs LS) : kGo l dC dI aC base p e s m args below meth c y d out.1 H locs out pc LS [] := by
  obtain ⟨hd, hc⟩ := kX_chk X
  obtain ⟨z, -, hz⟩ := k_cf2 hc
  have hl : len = 1 := Nat.eq_of_beq_eq_true (Bool.and_eq_true_iff.mp hz).2
  subst hl
  obtain ⟨hy, ⟨hx, hb, hml, hown, hts, hret, hlk, hin, hS, hbs⟩, -, ho, -, hL, hP, hs, hV⟩ := id X
  unfold kGo
  rw [ho.1, ho.2]
  exact W.vret hx hb hret (fun t ht hW => ⟨rfl, by rw [ht]; exact hP, hV.F ht⟩) hV.2.2 hd hlk
end KSY
