/-! the law: its words, arguments, one case -/
def R_law : String := "WordEachLaw"
def lw_P (b : Addr) (xs : List Int32) (args : Array Value) (s : State) : Prop := args = #[.ref b] ∧ s.IntsAt b xs ∧ xs.length ≤ 3072 ∧ (Jvm.Cond.and given_1 narrow_1).before args s = true
def lw_Q (_ : Array Value) (s : State) (o : Outcome) (t : State) : Prop := o = .returned (some (.int 1)) ∧ Framed s o t [] 600000 7302249
def lw_Z (below : List Frame) (a : Array Value) (s : State) : State → Prop := fun t => ∃ o, t.status = .running ∧ Ended t below o ∧ lw_Q a s o t
/-- the law's own end, with 1 on the stack, nothing written that was there before, its room as the claim has it -/
theorem lw_ret {p : Program} {l : Launch} {e : Env} {s : State} {m : MethodId} {below : List Frame} {meth : Method} {c : Code} {b : Nat} (hx : p.tables.exec = Jvm.exec) (hb : c.code = code) (hr : meth.sig.returnType = ret) (hlocks : meth.locks = false) {pc : Nat} {H : Heap} {ls : Array Slot} (hdg : decode code pc = .ok (.ireturn, 1)) : W p l e room_1 s m #[Value.ref b] below meth c H [] 600000 7302249 (lw_Z below #[Value.ref b] s) (F0 m pc ls [.int 1]) := by
  intro T hT X
  obtain ⟨fs, hret, hrun, hended, hW, hframe⟩ := X.leave (v := some (.int 1)) (hlocks := hlocks) (fun h => by rw [hr] at h; cases h)
  have hmeth' : T.vm.method? m = some meth := X.method'
  refine ⟨T.setFrames fs, ?_, .returned (some (.int 1)), hrun, hended, rfl, ⟨_, rfl⟩, hW, hframe⟩
  jvm_step X.here [X.here.top, hx, hb, hdg, hmeth', hr, ret, narrow_b1]
  (try refine ⟨rfl, ?_⟩); (try refine ⟨rfl, ?_⟩)
  first | (intro acts; rw [hret _ acts rfl rfl rfl]) | rw [hret _ _ rfl rfl rfl]
  exact Steps.refl _
/-- what holds at the law's entry: the machine, the code, the tables' words, the script of L ints xs at the cell b, what the Statement gives of the start -/
def lw_At (p : Program) (s : State) (m : MethodId) (meth : Method) (c : Code) (b L : Nat) (xs : Nat → Int32) : Prop :=
  p.tables.exec = Jvm.exec ∧ c.code = code ∧ meth.sig.returnType = ret ∧ c.maxLocals = 4 ∧ s.vm.findClass R_law = some m.cls ∧ (∀ w ∈ lw_tbl, w.before #[Value.ref b] s = true) ∧ va_X b L xs s s.heap ∧ b < s.heap.size ∧ meth.locks = false ∧ (Jvm.Cond.and given_1 narrow_1).before #[Value.ref b] s = true
def lw_dc (pc : Nat) (i : Jvm.ClassFile.Instr) (len : Nat) : Bool := match decode code pc with
  | .ok (j, n) => decide (j = i) && Nat.beq n len
  | .error _ => false
theorem lw_dc_ok {pc len : Nat} {i : Jvm.ClassFile.Instr} (h : lw_dc pc i len = true) : decode code pc = .ok (i, len) := by
  unfold lw_dc at h
  split at h
  next j n hd =>
    obtain ⟨h1, h2⟩ := Bool.and_eq_true_iff.mp h
    rw [hd, of_decide_eq_true h1, Nat.eq_of_beq_eq_true h2]
  next => cases h
/-- arguments of a call out of the script: place behind i, whether it is asked for being 0 -/
def lw_args : Nat → List (Nat × Bool) → Option Nat
  | pc, [] => some pc
  | pc, (k, z) :: l => bif lw_dc pc (.aload_n 0) 1 && (lw_dc (pc + 1) (.iload_n 3) 1 && (lw_dc (pc + 2) (.iconst k) 1 && (lw_dc (pc + 3) .iadd 1 && (lw_dc (pc + 4) .iaload 1 && Nat.ble k 5)))) then
      match z with
      | false => lw_args (pc + 5) l
      | true => bif lw_dc (pc + 5) (.ifCond .eq 7) 3 && (lw_dc (pc + 8) (.iconst 1) 1 && (lw_dc (pc + 9) (.goto 4) 3 && lw_dc (pc + 12) (.iconst 0) 1)) then lw_args (pc + 13) l else none
    else none
def lw_val (xs : Nat → Int32) (i : Nat) (e : Nat × Bool) : Int32 := match e.2 with
  | false => xs (i + e.1)
  | true => if xs (i + e.1) = 0 then 0 else 1
def lw_ls (base b i : Nat) : List (Nat × Value) := [(3, .int (nI i)), (2, .ref (base + am_off 48 0)), (1, .ref (base + am_off 0 0)), (0, .ref b)]
section LW
variable {l : Launch} {dC : Nat → ClassId} {dI : Nat → Nat → Nat} {aC : Nat → ClassId} {adK adV : Nat → Nat} {p : Program} {e : Env} {s : State} {m : MethodId} {b : Nat} {below : List Frame} {meth : Method} {c : Code} {H : Heap} {locs : List Loc} {cu su : Nat} {Q : State → Prop} {L : Nat} {xs : Nat → Int32} {LS : Array Slot} {i : Nat}
set_option maxRecDepth 100000 in
theorem lw_args_ok (C0 : lw_At p s m meth c b L xs) (hL : L ≤ 3072) (hV : va_S (fun q => s.heap.size ≤ q) s.heap H locs) (hi : i + 6 ≤ L) (hl : lv_has LS 4 (lw_ls s.heap.size b i)) : ∀ (sp : List (Nat × Bool)) (pc pc2 : Nat) (st : List Value), lw_args pc sp = some pc2 →
    W p l e room_1 s m #[Value.ref b] below meth c H locs cu su Q (F0 m pc2 LS ((sp.map (fun q => Value.int (lw_val xs i q))).reverse ++ st)) → W p l e room_1 s m #[Value.ref b] below meth c H locs cu su Q (F0 m pc LS st)
  | [], pc, pc2, st, h, k => by
    cases h
    exact k
  | (j, z) :: sp, pc, pc2, st, h, k => by
    obtain ⟨hx, hb, hr, hml, hown, hts, hX, hbl, hlocks, hgv⟩ := id C0
    have hbA : ¬ (fun q : Nat => s.heap.size ≤ q) b := Nat.not_le.mpr hbl
    unfold lw_args at h
    cases hc : (lw_dc pc (.aload_n 0) 1 && (lw_dc (pc + 1) (.iload_n 3) 1 && (lw_dc (pc + 2) (.iconst j) 1 && (lw_dc (pc + 3) .iadd 1 && (lw_dc (pc + 4) .iaload 1 && Nat.ble j 5))))) with
    | false => rw [hc] at h; cases h
    | true =>
      rw [hc, cond_true] at h
      obtain ⟨h1, hc⟩ := Bool.and_eq_true_iff.mp hc
      obtain ⟨h2, hc⟩ := Bool.and_eq_true_iff.mp hc
      obtain ⟨h3, hc⟩ := Bool.and_eq_true_iff.mp hc
      obtain ⟨h4, hc⟩ := Bool.and_eq_true_iff.mp hc
      obtain ⟨h5, h6⟩ := Bool.and_eq_true_iff.mp hc
      have hj : j ≤ 5 := Nat.le_of_ble_eq_true h6
      have hji : Int32.ofInt (j : Int) = nI j := by
        rcases (show j = 0 ∨ j = 1 ∨ j = 2 ∨ j = 3 ∨ j = 4 ∨ j = 5 by omega) with rfl | rfl | rfl | rfl | rfl | rfl <;> rfl
      have row : W p l e room_1 s m #[Value.ref b] below meth c H locs cu su Q (F0 m (pc + 5) LS (.int (xs (i + j)) :: st)) → W p l e room_1 s m #[Value.ref b] below meth c H locs cu su Q (F0 m pc LS st) := by
        intro k2
        refine lv_aload_n hx hb (lw_dc_ok h1) rfl (lv_at hl 3 rfl) ?_
        refine lv_iload_n hx hb (lw_dc_ok h2) rfl (lv_at hl 0 rfl) ?_
        refine lv_iconst (v := nI j) hx hb (lw_dc_ok h3) hji ?_
        refine lv_iadd hx hb (lw_dc_ok h4) ?_
        rw [nI_add]
        refine va_sld hx hb hX hbl hbA hV (vp_in_nI (by omega) (by omega)) (lw_dc_ok h5) ?_
        rw [nI_clamp (by omega)]
        exact k2
      cases z with
      | false =>
        refine row (lw_args_ok C0 hL hV hi hl sp (pc + 5) pc2 _ h ?_)
        rw [List.map_cons, List.reverse_cons, List.append_assoc] at k
        exact k
      | true =>
        dsimp only at h
        cases hc2 : (lw_dc (pc + 5) (.ifCond .eq 7) 3 && (lw_dc (pc + 8) (.iconst 1) 1 && (lw_dc (pc + 9) (.goto 4) 3 && lw_dc (pc + 12) (.iconst 0) 1))) with
        | false => rw [hc2] at h; cases h
        | true =>
          rw [hc2, cond_true] at h
          obtain ⟨g1, hc2⟩ := Bool.and_eq_true_iff.mp hc2
          obtain ⟨g2, hc2⟩ := Bool.and_eq_true_iff.mp hc2
          obtain ⟨g3, g4⟩ := Bool.and_eq_true_iff.mp hc2
          have w := fun st1 => lw_args_ok C0 hL hV hi hl sp (pc + 13) pc2 st1 h
          rw [List.map_cons, List.reverse_cons, List.append_assoc] at k
          refine row (lv_if_eq (tgt := pc + 12) hx hb (lw_dc_ok g1) (by push_cast; omega) (fun q => ?_) (fun q => ?_))
          · refine lv_iconst (v := 0) hx hb (lw_dc_ok g4) rfl ?_
            refine w _ ?_
            have hv : lw_val xs i (j, true) = 0 := if_pos q
            rw [hv] at k
            exact k
          · refine lv_iconst (v := 1) hx hb (lw_dc_ok g2) rfl ?_
            refine lv_goto (tgt := pc + 13) hx hb (lw_dc_ok g3) (by push_cast; omega) ?_
            refine w _ ?_
            have hv : lw_val xs i (j, true) = 1 := if_neg q
            rw [hv] at k
            exact k
/-- behind a call -/
theorem lw_after {base : Nat} {rc : Option mv} {gc : mg} {al : Array Value} {pc : Nat} {st0 rest : List Value} {R : Room} {args : Array Value} (hr : va_Run p l e R s m args below meth c H locs cu su 0 0 (F0 m pc LS st0) rest (am_Qc dC dI aC base adK rc gc al) (fun q => base ≤ q)) (hV : va_S (fun q => base ≤ q) s.heap H locs)
    (kk : ∀ (H1 : Heap) (locs1 : List Loc), va_P (dC, dI) classes (am_w aC base gc) H1 → va_S (fun q => base ≤ q) s.heap H1 locs1 → gc.2.2.1 < 2 ∧ gc.2.2.2 < 2 → W p l e R s m args below meth c H1 locs1 cu su Q (F0 m (pc + 3) LS ((rc.map (am_t base adK)).toList ++ rest))) : W p l e R s m args below meth c H locs cu su Q (F0 m pc LS st0) := by
  intro T hT X
  obtain ⟨v, st₀, t, T', L, h0, X', hL, e1, e2, ⟨hv, hP1, ⟨hz, hk⟩, hg⟩, st⟩ := hr T hT X
  cases hv
  rw [h0] at hz hk
  obtain ⟨t2, a1, b1⟩ := kk T'.heap (locs ++ L) (by rw [e1]; exact hP1) ⟨Nat.le_trans hV.1 (by rw [e1]; exact hz), fun q h1 h2 => by rw [e1, hk q (Nat.lt_of_lt_of_le h1 hV.1) h2]; exact hV.2.1 q h1 h2, fun q hq => by
      rcases List.mem_append.mp hq with h | h
      · exact hV.2.2 q h
      · exact hL q h⟩ hg T' rfl X'
  exact ⟨t2, st t2 a1, b1⟩
theorem lw_good {y : Nat} (hy : y < 300) : GoodIn lw_tbl (am_W y) := by
  intro w hw
  rcases List.mem_cons.mp hw with rfl | hw
  · exact ⟨List.mem_append_right _ (List.mem_of_getElem? (am_words hy).1), good_of_word rfl⟩
  · exact ⟨(List.mem_filter.mp hw).1, good_of_word (List.mem_filter.mp hw).2⟩
/-- a call of the law: an instance method of the small machine -/
theorem lw_call (C0 : lw_At p s m meth c b L xs) (hS : am_S dC dI aC s.heap.size adK adV s) {y kd x q pc : Nat} {as : List mv} {g g2 : mg} {rc : Option mv} (hE : E 45 y (vr kd 0 :: as) g = some (rc, g2)) (hy : am_yok y) (hst : (am_P y).1 = false) (hf : (af kd).1 = (am_head y).1) (hk : kd < 112 ∧ 0 < am_cnt kd) (hoka : ∀ v ∈ as, am_okv v) (hcat : am_cat (vr kd 0 :: as) ≤ (am_head y).2.1) (hn : as.length = (am_P y).2.1) (hg : g.2.2.1 < 2 ∧ g.2.2.2 < 2) (hw : tables_1[q]? = some (Cond.methodLink "WordEachLaw" x (am_Y y))) (hd : decode code pc = .ok (.invokevirtual x, 3)) (hP : va_P (dC, dI) classes (am_w aC s.heap.size g) H) (hV : va_S (fun q => s.heap.size ≤ q) s.heap H locs) (hls : LS.size = 4) (hcu : cu ≤ 600000) (hsu : su ≤ 7302249) {rest : List Value} (hrest : (rest.map fun v => v.category).sum ≤ 8)
    (kk : ∀ (H1 : Heap) (locs1 : List Loc), va_P (dC, dI) classes (am_w aC s.heap.size g2) H1 → va_S (fun q => s.heap.size ≤ q) s.heap H1 locs1 → g2.2.2.1 < 2 ∧ g2.2.2.2 < 2 → W p l e room_1 s m #[Value.ref b] below meth c H1 locs1 cu su Q (F0 m (pc + 3) LS ((rc.map (am_t s.heap.size adK)).toList ++ rest))) : W p l e room_1 s m #[Value.ref b] below meth c H locs cu su Q (F0 m pc LS ((as.map (am_t s.heap.size adK)).reverse ++ .ref (s.heap.size + am_off kd 0) :: rest)) := by
  obtain ⟨hx, hb, hr, hml, hown, hts, hX, hbl, hlocks, hgv⟩ := id C0
  have hM := am_sound (sxL_met (l := l) (dC := dC) (dI := dI) (aC := aC) (base := s.heap.size) (adK := adK) (adV := adV)) sxT_met (fd_row l) hE hy (fun v hv => by
    rcases List.mem_cons.mp hv with rfl | hv
    · exact Or.inr hk
    · exact hoka v hv) hcat hg
  obtain ⟨w1, w2, w3, w4, w5, w6, w7⟩ := am_words hy.1
  rw [if_neg (by rw [hst]; decide)] at w2
  have hm9 := am_maxL_le hy.1
  have hlt13 : (am_head y).1 < 13 := am_virt_lt hy.1 hst
  have he := am_w_at aC s.heap.size g hk.1 hk.2
  rw [am_e_obj hk.1 hlt13 hf] at he
  obtain ⟨c1, c2, -, -, c5⟩ := am_ci hlt13
  have hrecv := va_recv hS.1 hP c2 he
  have hsel : (Cond.selects (am_Y y).cls (am_Y y) (am_Y y)).before #[Value.ref b] s = true := by
    rcases w3 with q | q
    · rw [hst] at q; cases q
    · exact hts _ (List.mem_of_getElem? q)
  have hin : ∀ {w : Cond} {q : Nat}, tables_1[q]? = some w → w.before #[Value.ref b] s = true := fun h => hts _ (List.mem_append_right _ (List.mem_of_getElem? h))
  have had : am_ad s.heap.size adK kd 0 = s.heap.size + am_off kd 0 := am_ad_eq hk.1
  have hpre : PreV s H (am_Y y).cls (s.heap.size + am_off kd 0) (am_Pc dC dI aC s.heap.size adK adV (vr kd 0 :: as) g) (as.map (am_t s.heap.size adK)) := by
    refine ⟨am_Pc_blind _ _ _ _ _ _ _ _, by rw [w6]; exact hrecv, fun U hU hW => ⟨?_, am_S_moved hS hV hU hW, by rw [hU]; exact hP⟩⟩
    rw [List.map_cons]
    show (Value.ref (s.heap.size + am_off kd 0) :: as.map (am_t s.heap.size adK)).toArray = (Value.ref (am_ad s.heap.size adK kd 0) :: as.map (am_t s.heap.size adK)).toArray
    rw [had]
  have hcb : CallB room_1 s #[Value.ref b] R_law x (am_Y y) (am_B y) (am_head y).2.1 (am_ret y) (am_W y) (am_rm 45) 0 0 (am_P y).2.1 := by
    refine ⟨rfl, rfl, ?_, ?_, pay_in hts (lw_good hy.1), List.mem_cons_self, hin w1, hin w4, w7, fun sig hs => ?_, hin hw⟩
    · show 45 + 10 + 1 ≤ 2048; decide
    · show 8 + ((am_head y).2.1 + 11) + (40 * 45 + 400) ≤ 84000; omega
    · rw [hs] at w5
      exact (Option.some.inj w5).symm
  refine lw_after (va_runV (own := R_law) ⟨hx, hb, hml, hown, hts⟩ hM ⟨hcb, hin w2, hsel⟩ hpre rfl (by rw [List.length_map]; exact hn) hls rfl (lv_room hrest) hd ⟨hcu, hsu⟩) hV kk
theorem INV_ok {g : mg} (h : INV g) : g.2.2.1 < 2 ∧ g.2.2.2 < 2 := by
  obtain ⟨K, F, row, tp, n, fa, fp, rf, sd, oc, h⟩ := h
  exact ⟨h.1.2.1.1, h.1.2.1.2.1⟩
/-- what a case of the law is: the two calls, the compare -/
def lw_chk (pc p1 p2 x1 x2 y1 y2 q1 q2 : Nat) (off : Int) (sp : List (Nat × Bool)) (lng : Bool) : Prop :=
  decode code pc = .ok (.aload_n 1, 1) ∧ lw_args (pc + 1) sp = some p1 ∧ decode code p1 = .ok (.invokevirtual x1, 3) ∧ tables_1[q1]? = some (Cond.methodLink "WordEachLaw" x1 (am_Y y1)) ∧ decode code (p1 + 3) = .ok (.aload_n 2, 1) ∧ lw_args (p1 + 4) sp = some p2 ∧ decode code p2 = .ok (.invokevirtual x2, 3) ∧ tables_1[q2]? = some (Cond.methodLink "WordEachLaw" x2 (am_Y y2)) ∧
  (if lng then decode code (p2 + 3) = .ok (.lcmp, 1) ∧ decode code (p2 + 4) = .ok (.ifCond .eq off, 3) ∧ ((p2 + 4 : Nat) : Int) + off = 1247 else decode code (p2 + 3) = .ok (.if_icmp .eq off, 3) ∧ ((p2 + 3 : Nat) : Int) + off = 1247) ∧
  ((y1 < 294 ∧ y2 < 294) ∧ (am_P y1).1 = false ∧ (am_P y2).1 = false ∧ (af 0).1 = (am_head y1).1 ∧ (af 48).1 = (am_head y2).1 ∧ sp.length = (am_P y1).2.1 ∧ sp.length = (am_P y2).2.1 ∧ 1 + sp.length ≤ (am_head y1).2.1 ∧ 1 + sp.length ≤ (am_head y2).2.1 ∧ Nat.beq (am_head y1).2.2 3 = lng)
theorem lw_cmp0 (v : Int64) : lg_cmp v v = 0 := by simp [lg_cmp]
theorem lw_cats (f : Nat × Bool → Int32) : ∀ sp : List (Nat × Bool), am_cat (sp.map (fun e => vi (f e))) = sp.length
  | [] => rfl
  | e :: sp => by
    have h := lw_cats f sp
    show 1 + am_cat (sp.map (fun e => vi (f e))) = sp.length + 1
    omega
theorem lw_case (C0 : lw_At p s m meth c b L xs) (hL : L ≤ 3072) (hS : am_S dC dI aC s.heap.size adK adV s) (hi : i + 6 ≤ L) (hl : lv_has LS 4 (lw_ls s.heap.size b i)) {pc p1 p2 x1 x2 y1 y2 q1 q2 : Nat} {off : Int} {sp : List (Nat × Bool)} {lng : Bool} {g : mg} (hc : lw_chk pc p1 p2 x1 x2 y1 y2 q1 q2 off sp lng) (hT : ST y1 y2 (sp.map (fun e => vi (lw_val xs i e))) g) (hg : g.2.2.1 < 2 ∧ g.2.2.2 < 2) (hP : va_P (dC, dI) classes (am_w aC s.heap.size g) H) (hV : va_S (fun q => s.heap.size ≤ q) s.heap H locs) (hcu : cu ≤ 600000) (hsu : su ≤ 7302249)
    (kk : ∀ (g2 : mg) (H1 : Heap) (locs1 : List Loc), INV g2 → va_P (dC, dI) classes (am_w aC s.heap.size g2) H1 → va_S (fun q => s.heap.size ≤ q) s.heap H1 locs1 → W p l e room_1 s m #[Value.ref b] below meth c H1 locs1 cu su Q (F0 m 1247 LS [])) : W p l e room_1 s m #[Value.ref b] below meth c H locs cu su Q (F0 m pc LS []) := by
  obtain ⟨hx, hb, hr, hml, hown, hts, hX, hbl, hlocks, hgv⟩ := id C0
  obtain ⟨d1, d2, d3, d4, d5, d6, d7, d8, d9, ⟨e1, e2⟩, e3, e4, e5, e6, e7, e8, e9, e10, e11⟩ := hc
  obtain ⟨r, g1, g2, hK, hE1, hE2, hg1, hI⟩ := hT
  have hok : ∀ v ∈ sp.map (fun e => vi (lw_val xs i e)), am_okv v := by
    intro v hv
    obtain ⟨e0, -, rfl⟩ := List.mem_map.mp hv
    exact trivial
  have hmap : (sp.map (fun e => vi (lw_val xs i e))).map (am_t s.heap.size adK) = sp.map (fun q => Value.int (lw_val xs i q)) := by rw [List.map_map]; rfl
  have hc1 : ∀ kd, am_cat (vr kd 0 :: sp.map (fun e => vi (lw_val xs i e))) = 1 + sp.length := by
    intro kd
    show 1 + am_cat (sp.map (fun e => vi (lw_val xs i e))) = _
    rw [lw_cats]
  have hcr : am_cat1 r ≤ 2 := by
    match r with
    | .inl _ => exact (by decide : 1 ≤ 2)
    | .inr (.inl _) => exact (by decide : 2 ≤ 2)
    | .inr (.inr _) => exact (by decide : 1 ≤ 2)
  refine lv_aload_n hx hb d1 rfl (lv_at hl 2 rfl) ?_
  refine lw_args_ok C0 hL hV hi hl sp (pc + 1) p1 _ d2 ?_
  rw [← hmap]
  refine lw_call C0 hS hE1 ⟨by omega, by omega⟩ e3 e5 ⟨by decide, by decide⟩ hok (by rw [hc1]; exact e9) (by rw [List.length_map]; exact e7) hg d4 d3 hP hV hl.1 hcu hsu (rest := []) (by decide) (fun H1 locs1 hP1 hV1 hg1' => ?_)
  refine lv_aload_n hx hb d5 rfl (lv_at hl 1 rfl) ?_
  refine lw_args_ok C0 hL hV1 hi hl sp (p1 + 4) p2 _ d6 ?_
  rw [← hmap]
  refine lw_call C0 hS hE2 ⟨by omega, by omega⟩ e4 e6 ⟨by decide, by decide⟩ hok (by rw [hc1]; exact e10) (by rw [List.length_map]; exact e8) hg1 d8 d7 hP1 hV1 hl.1 hcu hsu (rest := [am_t s.heap.size adK r]) (by
    show (am_t s.heap.size adK r).category + 0 ≤ 8
    rw [am_t_cat]
    omega) (fun H2 locs2 hP2 hV2 hg2' => ?_)
  match r, hK with
  | .inl v, hK =>
    have hK : Nat.beq (am_head y1).2.2 3 = false := hK
    rw [e11] at hK
    subst hK
    obtain ⟨d10, d11⟩ := (if_neg (by decide : ¬ (false = true))).mp d9
    exact lv_icmp_eq (tgt := 1247) hx hb d10 d11 (fun _ => kk g2 H2 locs2 hI hP2 hV2) (fun q => absurd rfl q)
  | .inr (.inl v), hK =>
    have hK : Nat.beq (am_head y1).2.2 3 = true := hK
    rw [e11] at hK
    subst hK
    obtain ⟨d10, d11, d12⟩ := (if_pos (rfl : true = true)).mp d9
    refine W.lcmp hx hb d10 ?_
    refine lv_if_eq (tgt := 1247) hx hb d11 d12 (fun _ => kk g2 H2 locs2 hI hP2 hV2) (fun q => ?_)
    exact absurd (lw_cmp0 v) q
  | .inr (.inr v), hK => exact hK.elim
end LW
