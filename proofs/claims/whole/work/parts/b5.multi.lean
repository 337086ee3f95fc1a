/-! a new array of arrays of ints: one row -/
def kAA (U : State) : Prop := ∃ (cA cI : ClassId) (kA : Class), U.vm.findClass "[[I" = some cA ∧ U.vm.findClass "[I" = some cI ∧ U.vm.classes[cA]? = some kA ∧ kA.kind = .array cI (.array .int)
theorem kAA.moved {u U : State} (hvm : u.vm.Alike U.vm) (h : kAA u) : kAA U := by
  obtain ⟨cA, cI, kA, h1, h2, h3, h4⟩ := h
  obtain ⟨k', hk', he⟩ := hvm.2.2 _ _ h3
  exact ⟨cA, cI, k', by rw [hvm.findClass]; exact h1, by rw [hvm.findClass]; exact h2, hk', by rw [he]; exact h4⟩
theorem kAA.of {args : Array Value} {s : State} (h : (Cond.arrayOver (.array .int)).before args s = true) : kAA s := by
  obtain ⟨comp, cA, kA, hcomp, -, hkA, hkindA, hnameA⟩ := arrayOverA_spec h
  rw [show "[" ++ (FieldType.array .int).toString = "[[I" by decide +kernel] at hnameA
  rw [show (FieldType.array .int).toString = "[I" by decide +kernel] at hcomp
  exact ⟨cA, comp, kA, hnameA, hcomp, hkA, hkindA⟩
def mq_o (cA : ClassId) (n h0 i : Nat) : Cell := arrV cA n (fun j => if j < i then .ref (h0 + 1 + j) else .null)
def mq_st (s : State) (cA cI : ClassId) (n m : Nat) : Nat → State
  | 0 => s.pushCell (mq_o cA n s.heap.size 0)
  | i + 1 => ((mq_st s cA cI n m i).pushCell (arrV cI m (fun _ => .int 0))).setCell s.heap.size (mq_o cA n s.heap.size (i + 1))
theorem mq_o_set (cA : ClassId) (n h0 i : Nat) : (mq_o cA n h0 i).setSlot i (.ref (h0 + 1 + i)) = mq_o cA n h0 (i + 1) := by
  unfold mq_o
  rw [arrV_store]
  congr 1
  funext j
  unfold updV
  by_cases h : j = i
  · subst h
    rw [if_pos rfl, if_pos (Nat.lt_succ_self j)]
  · rw [if_neg h]
    show (if j < i then Value.ref (h0 + 1 + j) else Value.null) = _
    by_cases h2 : j < i
    · rw [if_pos h2, if_pos (by omega)]
    · rw [if_neg h2, if_neg (by omega)]
theorem mq_facts (s : State) (cA cI : ClassId) (n m : Nat) : ∀ i, (mq_st s cA cI n m i).heap.size = s.heap.size + 1 + i ∧ (mq_st s cA cI n m i).heap[s.heap.size]? = some (mq_o cA n s.heap.size i) ∧ (mq_st s cA cI n m i).vm = s.vm ∧ (mq_st s cA cI n m i).slotsUsed = s.slotsUsed + n + i * m
  | 0 => ⟨by simp [mq_st], by simp [mq_st], rfl, by simp [mq_st, mq_o, arrV_size]⟩
  | i + 1 => by
    obtain ⟨a, b, d, u⟩ := mq_facts s cA cI n m i
    have hlt : s.heap.size < (mq_st s cA cI n m i).heap.size := by omega
    have hb' : ((mq_st s cA cI n m i).pushCell (arrV cI m (fun _ => .int 0))).heap[s.heap.size]? = some (mq_o cA n s.heap.size i) := by rw [State.heap_pushCell_of_lt (h := hlt)]; exact b
    refine ⟨?_, State.heap_setCell_self hb', by simp [mq_st, d], ?_⟩
    · simp [mq_st, State.setCell, a]
      omega
    · simp [mq_st, u, arrV_size, Nat.succ_mul]
      omega
theorem mq_setTop (s : State) (f : JFrame) (cA cI : ClassId) (n m : Nat) : ∀ i, mq_st (s.setTop f) cA cI n m i = (mq_st s cA cI n m i).setTop f
  | 0 => rfl
  | i + 1 => by simp only [mq_st, mq_setTop s f cA cI n m i, State.heap_setTop, State.pushCell_setTop, State.setCell_setTop]
theorem mq_old (s : State) (cA cI : ClassId) (n m : Nat) {a : Addr} (ha : a < s.heap.size) : ∀ i, (mq_st s cA cI n m i).heap[a]? = s.heap[a]?
  | 0 => State.heap_pushCell_of_lt _ _ ha
  | i + 1 => by
    have f1 := (mq_facts s cA cI n m i).1
    have hlt : a < (mq_st s cA cI n m i).heap.size := Nat.lt_of_lt_of_le ha (by rw [f1]; omega)
    show (((mq_st s cA cI n m i).pushCell (arrV cI m (fun _ => .int 0))).setCell s.heap.size _).heap[a]? = _
    rw [State.heap_setCell_other (Nat.ne_of_gt ha), State.heap_pushCell_of_lt (h := hlt)]
    exact mq_old s cA cI n m ha i
theorem mq_inn (s : State) (cA cI : ClassId) (n m : Nat) : ∀ i j, j < i → (mq_st s cA cI n m i).heap[s.heap.size + 1 + j]? = some (arrV cI m (fun _ => .int 0))
  | 0, _, h => absurd h (Nat.not_lt_zero _)
  | i + 1, j, h => by
    have f1 := (mq_facts s cA cI n m i).1
    show (((mq_st s cA cI n m i).pushCell (arrV cI m (fun _ => .int 0))).setCell s.heap.size _).heap[s.heap.size + 1 + j]? = _
    rw [State.heap_setCell_other (show s.heap.size ≠ s.heap.size + 1 + j by omega)]
    rcases Nat.lt_or_ge j i with hj | hj
    · have hlt : s.heap.size + 1 + j < (mq_st s cA cI n m i).heap.size := by rw [f1]; omega
      rw [State.heap_pushCell_of_lt (h := hlt)]
      exact mq_inn s cA cI n m i j hj
    · have e : j = i := by omega
      subst e
      rw [← f1]
      exact State.heap_pushCell_size _ _
section
variable {E : CtlPost} {e : Env} {d : Bool} {acts : List Action} {s : State}
theorem mq_new {c comp : ClassId} {k : Class} {type : FieldType} {len : Nat} {init : Value} (hk : s.vm.classes[c]? = some k) (hkind : k.kind = .array comp type) (hl : ¬ len > e.platform.arrayLengthLimit) (hh : ¬ len * componentBytes type > e.platform.maxHeapBytes) (hfit : fits type init = true) (hdef : init.isDefault = true) {Q : Addr → Pre} (h1 : s.heap.size < e.platform.maxCells) (h2 : s.slotsUsed + len ≤ e.platform.maxSlots)
    (hq : Q s.heap.size d acts (s.pushCell (arrV c len (fun _ => init)))) : wp (Jvm.newArray c len init) Q E e d acts s := by
  have hfits : ∀ i v, (Array.replicate len init)[i]? = some v → s.fitsSlot c .none i v = true := by
    intro i v hv
    simp only [Array.getElem?_replicate] at hv
    split at hv
    · cases hv
      simp [State.fitsSlot, State.slotType?, hk, hkind, hfit]
    · cases hv
  have hda : allocActs (Array.replicate len init) s.heap.size acts = acts := by
    unfold allocActs
    rw [if_pos (by rw [Array.all_replicate]; split <;> simp [hdef])]
  rw [← arrV_new] at hq
  simp only [Jvm.newArray, Jvm.arrayFits, wp_bind', _root_.Jvm.W.ask, _root_.Jvm.W.ite, hl, if_false, wp_pure', _root_.Jvm.W.theClass, hk, hkind, hh, _root_.Jvm.W.alloc, _root_.Jvm.W.stop, Option.some.injEq, exists_eq_left', Array.size_replicate, hda]
  rw [if_neg (by omega)]
  exact ⟨h1, h2, hfits, hq⟩
theorem mq_make {cA cI cc : ClassId} {k kc : Class} {n m : Int32} (hk : s.vm.classes[cA]? = some k) (hkind : k.kind = .array cI (.array .int)) (hkc : s.vm.classes[cI]? = some kc) (hkindc : kc.kind = .array cc .int) (hn : ¬ n < 0) (hm : ¬ m < 0) {N M : Nat} (eN : n.toNatClampNeg = N) (eM : m.toNatClampNeg = M)
    (hl1 : ¬ N > e.platform.arrayLengthLimit) (hh1 : ¬ N * componentBytes (.array .int) > e.platform.maxHeapBytes) (hl2 : ¬ M > e.platform.arrayLengthLimit) (hh2 : ¬ M * componentBytes .int > e.platform.maxHeapBytes)
    (hc : s.heap.size + 1 + N ≤ e.platform.maxCells) (hs : s.slotsUsed + N + N * M ≤ e.platform.maxSlots) {Q : Addr → Pre} (hq : ∀ d' acts', Q s.heap.size d' acts' (mq_st s cA cI N M N)) : wp (multianewarray.make cA [n, m]) Q E e d acts s := by
  subst eN
  subst eM
  rw [multianewarray.make]
  simp only [wp_bind', _root_.Jvm.W.ite, hn, if_false, wp_pure', _root_.Jvm.W.theClass, hk, hkind, Option.some.injEq, exists_eq_left']
  refine mq_new hk hkind hl1 hh1 rfl rfl (by omega) (by have := Nat.zero_le (n.toNatClampNeg * m.toNatClampNeg); omega) ?_
  have hfind : ([m].find? (· < 0)) = none := by simp [hm]
  simp only [hfind]
  rw [ite_self, wp_bind', Std.Legacy.Range.forIn_eq_forIn_range']
  rw [show ([:n.toNatClampNeg] : Std.Legacy.Range).size = n.toNatClampNeg by simp [Std.Legacy.Range.size]]
  show wp (forIn (List.range' 0 n.toNatClampNeg 1) PUnit.unit _) _ E e d acts _
  have h0 : s.pushCell (arrV cA n.toNatClampNeg (fun _ => .null)) = mq_st s cA cI n.toNatClampNeg m.toNatClampNeg 0 := by
    show _ = s.pushCell (mq_o cA n.toNatClampNeg s.heap.size 0)
    unfold mq_o
    congr 2
  refine wp_forIn_inv (fun rest s' => ∃ i, i ≤ n.toNatClampNeg ∧ rest = List.range' i (n.toNatClampNeg - i) ∧ s' = mq_st s cA cI n.toNatClampNeg m.toNatClampNeg i) _ _ ⟨0, Nat.zero_le _, rfl, h0⟩ ?_ ?_
  · rintro x rest s' d' acts' Q' ⟨i, hi, hl, rfl⟩ hnext
    have hlt : i < n.toNatClampNeg := by
      rcases Nat.lt_or_ge i n.toNatClampNeg with h | h
      · exact h
      · rw [show n.toNatClampNeg - i = 0 by omega] at hl
        cases hl
    obtain ⟨rfl, hrest⟩ : x = i ∧ rest = List.range' (i + 1) (n.toNatClampNeg - (i + 1)) := by
      rw [show n.toNatClampNeg - i = (n.toNatClampNeg - (i + 1)) + 1 by omega, List.range'_succ] at hl
      exact ⟨(List.cons.inj hl).1, (List.cons.inj hl).2⟩
    obtain ⟨f1, f2, f3, f4⟩ := mq_facts s cA cI n.toNatClampNeg m.toNatClampNeg x
    have hmul : x * m.toNatClampNeg + m.toNatClampNeg ≤ n.toNatClampNeg * m.toNatClampNeg := by
      have := Nat.mul_le_mul_right m.toNatClampNeg (show x + 1 ≤ n.toNatClampNeg from hlt)
      rw [Nat.succ_mul] at this
      exact this
    have hlt0 : s.heap.size < (mq_st s cA cI n.toNatClampNeg m.toNatClampNeg x).heap.size := by rw [f1]; omega
    simp only [wp_bind']
    rw [multianewarray.make]
    simp only [wp_bind', _root_.Jvm.W.ite, hm, if_false, wp_pure', _root_.Jvm.W.theClass, f3, hkc, hkindc, Option.some.injEq, exists_eq_left']
    refine mq_new (by rw [f3]; exact hkc) hkindc hl2 hh2 rfl rfl (by rw [f1]; omega) (by rw [f4]; omega) ?_
    simp only [wp_bind', _root_.Jvm.W.writeLoc, wp_pure']
    refine ⟨mq_o cA n.toNatClampNeg s.heap.size x, by rw [State.heap_pushCell_of_lt (h := hlt0)]; exact f2, by simp [mq_o, arrV], by show x < (arrV _ _ _).slots.size; rw [arrV_size]; exact hlt, ?_, hnext _ _ _ ⟨x + 1, hlt, hrest, ?_⟩⟩
    · show State.fitsSlot _ cA .none x _ = true
      simp [State.fitsSlot, State.slotType?, f3, hk, hkind]
      rfl
    · rw [f1, mq_o_set]
      rfl
  · rintro s' d' acts' ⟨i, hi, hl, rfl⟩
    have hiN : i = n.toNatClampNeg := by
      rcases Nat.lt_or_ge i n.toNatClampNeg with h | h
      · rw [show n.toNatClampNeg - i = (n.toNatClampNeg - (i + 1)) + 1 by omega, List.range'_succ] at hl
        cases hl
      · omega
    subst hiN
    simp only [wp_pure']
    exact hq _ _
end
section
variable {p : Program} {l : Launch} {e : Env} {R : Room} {s : State} {m : MethodId} {args : Array Value} {below : List Frame} {meth : Method} {c : Code} {T : State} {H : Heap} {locs : List Loc} {cells slots : Nat} {Q : State → Prop}
theorem mq_stand (X : Stand p l e R s m args below meth c T locs cells slots) (cA cI : ClassId) (N M : Nat) : ∀ i, Stand p l e R s m args below meth c (mq_st T cA cI N M i) (locs ++ (List.range i).map fun j => ⟨T.heap.size, j⟩) (cells + 1 + i) (slots + N + i * M)
  | 0 => by
    have h := X.pushed (mq_o cA N T.heap.size 0)
    rw [show (mq_o cA N T.heap.size 0).slots.size = N from arrV_size _ _ _] at h
    simpa [mq_st] using h
  | i + 1 => by
    have Xi := mq_stand X cA cI N M i
    obtain ⟨f1, f2, f3, f4⟩ := mq_facts T cA cI N M i
    have hlt0 : T.heap.size < (mq_st T cA cI N M i).heap.size := by rw [f1]; omega
    have hcell : ((mq_st T cA cI N M i).pushCell (arrV cI M (fun _ => .int 0))).heap[T.heap.size]? = some (mq_o cA N T.heap.size i) := by rw [State.heap_pushCell_of_lt (h := hlt0)]; exact f2
    have h := (Xi.pushed (arrV cI M (fun _ => .int 0))).stored hcell i (.ref (T.heap.size + 1 + i))
    rw [show (arrV cI M (fun _ => Value.int 0)).slots.size = M from arrV_size _ _ _, mq_o_set] at h
    have e2 : (locs ++ (List.range (i + 1)).map fun j => (⟨T.heap.size, j⟩ : Loc)) = (locs ++ (List.range i).map fun j => (⟨T.heap.size, j⟩ : Loc)) ++ [⟨T.heap.size, i⟩] := by simp [List.range_succ, List.append_assoc]
    have e3 : slots + N + (i + 1) * M = slots + N + i * M + M := by rw [Nat.succ_mul]; omega
    rw [e2, e3]
    exact h
/-- multianewarray of two dimensions, of ints -/
theorem mq_row {cc : ByteArray} (hexec : p.tables.exec = Jvm.exec) (hb : c.code = cc) {own : String} {index pc : Nat} {ls : Array Slot} (hown : s.vm.findClass own = some m.cls) (hclink : (Cond.classLink own index "[[I").before args s = true) (hAA : kAA s) (harr : (Cond.arrayClass .int).before args s = true)
    (hdg : decode cc pc = .ok (.multianewarray index 2, 4)) {n k : Int32} {rest : List Value} (hn : ¬ n < 0) (hk : ¬ k < 0) {N M : Nat} (eN : n.toNatClampNeg = N) (eM : k.toNatClampNeg = M) (hb1 : N ≤ 100000000) (hb2 : M ≤ 100000000) (hcells : cells + (1 + N) ≤ R.cells) (hslots : slots + (N + N * M) ≤ R.slots) (hsz : s.heap.size ≤ H.size)
    (kk : ∀ (H1 : Heap) (cA cI : ClassId), s.vm.findClass "[[I" = some cA → s.vm.findClass "[I" = some cI → (∃ kA, s.vm.classes[cA]? = some kA ∧ kA.kind = .array cI (.array .int)) → H1.size = H.size + 1 + N → H1[H.size]? = some (arrV cA N (fun j => if j < N then .ref (H.size + 1 + j) else .null)) → (∀ j, j < N → H1[H.size + 1 + j]? = some (arrV cI M (fun _ => .int 0))) → (∀ q, q < H.size → H1[q]? = H[q]?) →
      W p l e R s m args below meth c H1 locs (cells + (1 + N)) (slots + (N + N * M)) Q (F0 m (pc + 4) ls (.ref H.size :: rest))) : W p l e R s m args below meth c H locs cells slots Q (F0 m pc ls (.int k :: .int n :: rest)) := by
  intro T hT X
  subst hT
  have hpl : e.platform.magicAccessors = ({} : Platform).magicAccessors := by rw [X.admits.platform]
  obtain ⟨cA, comp, kA, hnameA, hcomp, hkA, hkindA⟩ := hAA
  obtain ⟨comp', kC, cc', hcomp', hkC, hkindC⟩ := Cond.arrayClass_spec harr
  rw [show "[" ++ FieldType.int.toString = "[I" by decide +kernel] at hcomp'
  have ecomp : comp' = comp := Option.some.inj (hcomp'.symm.trans hcomp)
  subst ecomp
  obtain ⟨c0, hfc0, hcl⟩ := Cond.classLink_spec hown hclink e.platform hpl
  have e0 : c0 = cA := Option.some.inj (hfc0.symm.trans hnameA)
  subst e0
  obtain ⟨hg₁, hwarm₁, hready₁⟩ := State.classEntry (e := e) X.warmed hcl
  generalize T.vm.noted m.cls index (.cls c0) = vm₁ at hg₁ hwarm₁ hready₁
  have hal : s.vm.Alike vm₁ := hwarm₁.alike
  obtain ⟨kA₁, hkA₁, heA⟩ := hal.2.2 _ _ hkA
  obtain ⟨kC₁, hkC₁, heC⟩ := hal.2.2 _ _ hkC
  have hkindA₁ : kA₁.kind = .array comp' (.array .int) := by rw [heA]; exact hkindA
  have hkindC₁ : kC₁.kind = .array cc' .int := by rw [heC]; exact hkindC
  have X₁ := X.noted hwarm₁
  obtain ⟨hr1, hr2⟩ := X.roomAbove hcells hslots
  have XF := mq_stand X₁ c0 comp' N M N
  obtain ⟨f1, f2, f3, f4⟩ := mq_facts (T.setVm vm₁) c0 comp' N M N
  obtain ⟨t, a1, b1⟩ := kk (mq_st (T.setVm vm₁) c0 comp' N M N).heap c0 comp' hnameA hcomp ⟨kA, hkA, hkindA⟩ f1 f2 (fun j hj => mq_inn (T.setVm vm₁) c0 comp' N M N j hj) (fun q hq => mq_old (T.setVm vm₁) c0 comp' N M hq N) _ rfl (by
    have h2 := Stand.forget XF (fun y hy => by
      obtain ⟨j, -, rfl⟩ := List.mem_map.mp hy
      exact hsz)
    rw [show cells + (1 + N) = cells + 1 + N by omega, show slots + (N + N * M) = slots + N + N * M by omega]
    exact h2)
  refine ⟨t, ?_, b1⟩
  have hl1 : ¬ N > e.platform.arrayLengthLimit := by rw [Launch.admits_arrayLengthLimit X.admits]; omega
  have hh1 : ¬ N * componentBytes (.array .int) > e.platform.maxHeapBytes := by
    rw [Launch.admits_maxHeapBytes X.admits]
    show ¬ N * 4 > 536870912
    omega
  have hl2 : ¬ M > e.platform.arrayLengthLimit := by rw [Launch.admits_arrayLengthLimit X.admits]; omega
  have hh2 : ¬ M * componentBytes .int > e.platform.maxHeapBytes := by
    rw [Launch.admits_maxHeapBytes X.admits]
    show ¬ M * 4 > 536870912
    omega
  subst hb
  jvm_step X.here [hexec, hdg]
  simp only [multianewarray.sem, wp_bind', _root_.Jvm.W.resolveClassAt_links (State.method?_setTop (F0 m pc ls (.int k :: .int n :: rest)) X.here.top) hg₁]
  rw [_root_.Jvm.W.popN, if_neg (by decide)]
  refine ⟨F0 m pc ls (.int k :: .int n :: rest), State.topJava?_setTop' (s := T.setVm vm₁) (F0 m pc ls (.int k :: .int n :: rest)) X.here.top, [.int n, .int k], rest, rfl, rfl, ?_⟩
  simp only [List.mapM_cons, List.mapM_nil, wp_bind', wp_pure']
  refine mq_make (k := kA₁) (kc := kC₁) (cc := cc') hkA₁ hkindA₁ hkC₁ hkindC₁ hn hk eN eM hl1 hh1 hl2 hh2 (by show T.heap.size + 1 + _ ≤ _; omega) (by show T.slotsUsed + _ + _ ≤ _; omega) (fun d' acts' => ?_)
  have eS : ((T.setTop (F0 m pc ls (.int k :: .int n :: rest))).setVm vm₁).setTop { F0 m pc ls (.int k :: .int n :: rest) with stack := rest } = (T.setVm vm₁).setTop { F0 m pc ls (.int k :: .int n :: rest) with stack := rest } := by
    show ((T.setVm vm₁).setTop _).setTop _ = _
    rw [State.setTop_setTop]
  rw [eS, mq_setTop]
  simp only [wp_bind', _root_.Jvm.W.mark, _root_.Jvm.W.pushRef, State.topJava?_setTop' _ XF.here.top, Option.some.injEq, exists_eq_left', State.setTop_setTop, State.heap_setTop]
  intro acts
  simp [jvm, XF.here.top]
  exact a1
end
