/-! the machine of the constructors: calls, every op, the whole run -/
def kCok (l : Launch) (dC : Nat → ClassId) (dI : Nat → Nat → Nat) (aC : Nat → ClassId) (base d : Nat) (C : Nat → List mv → List kcell → Option (List kcell)) : Prop :=
  ∀ a as hs hs1, C a as hs = some hs1 → ∃ d2, d = d2 + 1 ∧ (a < 14 → am_cat as ≤ (khead a).2.1 → Met l (kY a) (kW a) (krm d2 a) (kPc dC dI aC base as hs) (kQc dC dI aC base hs1) (klim a).1 (klim a).2 (fun q => base ≤ q))
theorem kwok_sp {y : Nat} (hy : y < 14) : tables_1[(khead y).2.2.2.2.1]? = some (Cond.instanceMethod (kY y)) ∧ tables_1[(khead y).2.2.2.2.2]? = some (Cond.initialized (kY y).cls) ∧ (parseMethodDescriptor (kY y).desc).map (fun d => d.parameters.length + 1) = some (khead y).2.2.1 ∧ (kY y).cls = am_R (khead y).1 ∧ ((kY y).cls ≠ "java/lang/invoke/MethodHandle" ∧ (kY y).cls ≠ "java/lang/invoke/VarHandle") ∧ (khead y).2.1 ≤ 9 ∧ (khead y).1 < 13 ∧ (y = 6 ∨ (kY y).name = "<init>") ∧ Jvm.plainName (kY y).cls = true ∧ khd (kprog y) = 0 := by
  have h := kwok_ok hy
  unfold kwok at h
  simp only [Bool.and_eq_true, Bool.or_eq_true, decide_eq_true_eq] at h
  obtain ⟨h1, h2, h3, h4, h5, h6, h7, h8, h9, h10⟩ := h
  exact ⟨h1, h2, h3, h4, h5, Nat.le_of_ble_eq_true h6, Nat.le_of_ble_eq_true h7, h8.imp Nat.eq_of_beq_eq_true id, h9, Nat.eq_of_beq_eq_true h10⟩
theorem kW_good {y a : Nat} (ha : a < 14) : GoodIn (kW y) (kW a) := by
  intro w hw
  rcases List.mem_cons.mp hw with rfl | hw
  · exact ⟨k_in (kcode_ok ha) rfl, good_of_word rfl⟩
  · exact ⟨List.mem_cons_of_mem _ hw, good_of_word (List.mem_filter.mp hw).2⟩
section KSC
variable {l : Launch} {dC : Nat → ClassId} {dI : Nat → Nat → Nat} {aC : Nat → ClassId} {base : Nat} {p : Program} {e : Env} {s : State} {m : MethodId} {args : Array Value} {below : List Frame} {meth : Method} {c : Code} {y d : Nat} {out : kh} {K : List kop → ml → List mv → kh → Option kh} {C : Nat → List mv → List kcell → Option (List kcell)} {i : Jvm.ClassFile.Instr} {pc len a b q : Nat} {tl : List kop} {ls : ml} {st : List mv} {g : kh} {H : Heap} {locs : List Loc} {LS : Array Slot}
theorem k_after {hs1 : List kcell} {al : Array Value} {st0 rest : List Value} {Q : State → Prop} {R : Room} {cu su mc ms : Nat} (hr : va_Run p l e R s m args below meth c H locs cu su mc ms (F0 m pc LS st0) rest (kQc dC dI aC base hs1 al) (fun q => base ≤ q)) (hV : va_S (fun q => base ≤ q) s.heap H locs)
    (kk : ∀ (H1 : Heap) (locs1 : List Loc), va_P (dC, dI) classes (kw aC base hs1) H1 → va_S (fun q => base ≤ q) s.heap H1 locs1 → W p l e R s m args below meth c H1 locs1 (cu + mc) (su + ms) Q (F0 m (pc + 3) LS rest)) : W p l e R s m args below meth c H locs cu su Q (F0 m pc LS st0) := by
  intro T hT X
  obtain ⟨v, st₀, t, T', L, h0, X', hL, e1, e2, ⟨hv, hP1, ⟨hz, hk⟩⟩, st⟩ := hr T hT X
  cases hv
  rw [h0] at hz hk
  obtain ⟨t2, a1, b1⟩ := kk T'.heap (locs ++ L) (by rw [e1]; exact hP1) ⟨Nat.le_trans hV.1 (by rw [e1]; exact hz), fun q h1 h2 => by rw [e1, hk q (Nat.lt_of_lt_of_le h1 hV.1) h2]; exact hV.2.1 q h1 h2, fun q hq => by
      rcases List.mem_append.mp hq with h | h
      · exact hV.2.2 q h
      · exact hL q h⟩ T' rfl X'
  exact ⟨t2, st t2 a1, b1⟩
theorem k_callB {d2 x : Nat} (hts : ∀ w ∈ kW y, w.before args s = true) (ha : a < 14) {own : String} (hl : (Cond.methodLink own x (kY a)).before args s = true) {n : Nat} (hn : n + 1 = (khead a).2.2.1) (hlim : (klim a).1 ≤ (klim y).1 ∧ (klim a).2 ≤ (klim y).2) : CallB (krm (d2 + 1) y) s args own x (kY a) (kB a) (khead a).2.1 none (kW a) (krm d2 a) (klim a).1 (klim a).2 n := by
  obtain ⟨w1, w2, w3, w4, w5, w6, -⟩ := kwok_sp ha
  refine ⟨rfl, rfl, ?_, ?_, pay_in hts (kW_good ha), List.mem_cons_self, hts _ (k_in (kcode_ok ha) rfl), hts _ (k_in w2 rfl), w5, fun sig hs => ?_, hl⟩
  · show d2 + 2 + 1 ≤ d2 + 1 + 2; omega
  · show 8 + ((khead a).2.1 + 11) + (40 * d2 + 60) ≤ 40 * (d2 + 1) + 60; omega
  · rw [hs] at w3
    have w3 := Option.some.inj w3
    dsimp only at w3
    omega
theorem k_callN {d2 x : Nat} (hts : ∀ w ∈ kW y, w.before args s = true) (ha : a < 14) {own : String} (hl : (Cond.methodLinkNest own x (kY a) "WordEach").before args s = true) {n : Nat} (hn : n + 1 = (khead a).2.2.1) (hlim : (klim a).1 ≤ (klim y).1 ∧ (klim a).2 ≤ (klim y).2) : va_CN (krm (d2 + 1) y) s args own x (kY a) "WordEach" (kB a) (khead a).2.1 none (kW a) (krm d2 a) (klim a).1 (klim a).2 n := by
  obtain ⟨w1, w2, w3, w4, w5, w6, -⟩ := kwok_sp ha
  refine ⟨⟨rfl, rfl, ?_, ?_, pay_in hts (kW_good ha), List.mem_cons_self⟩, hts _ (k_in (kcode_ok ha) rfl), hts _ (k_in w2 rfl), w5, fun sig hs => ?_, hl⟩
  · show d2 + 2 + 1 ≤ d2 + 1 + 2; omega
  · show 8 + ((khead a).2.1 + 11) + (40 * d2 + 60) ≤ 40 * (d2 + 1) + 60; omega
  · rw [hs] at w3
    have w3 := Option.some.inj w3
    dsimp only at w3
    omega
theorem kcal_some {n : Nat} (h : kcal K C y a n tl ls st g = some out) : n ≤ st.length ∧ (∃ r t, (st.take n).reverse = .inr (.inr r) :: t) ∧ am_cat (st.drop n) ≤ 8 ∧ am_cat (st.take n).reverse ≤ (khead a).2.1 ∧ (g.2.1 + (klim a).1 ≤ (klim y).1 ∧ g.2.2 + (klim a).2 ≤ (klim y).2) ∧ ∃ hs, C a (st.take n).reverse g.1 = some hs ∧ hs.length = g.1.length + (klim a).1 ∧ K tl ls (st.drop n) (hs, g.2.1 + (klim a).1, g.2.2 + (klim a).2) = some out := by
  unfold kcal at h
  cases hb : (Nat.ble n st.length && (kisr (st.take n).reverse && (Nat.ble (am_cat (st.drop n)) 8 && (Nat.ble (am_cat (st.take n).reverse) (khead a).2.1 && kroom y g.2.1 g.2.2 (klim a).2 (klim a).1)))) with
  | false => rw [hb] at h; cases h
  | true =>
    rw [hb] at h
    obtain ⟨h1, h2⟩ := Bool.and_eq_true_iff.mp hb
    obtain ⟨h3, h4⟩ := Bool.and_eq_true_iff.mp h2
    obtain ⟨h5, h6⟩ := Bool.and_eq_true_iff.mp h4
    obtain ⟨h7, h8⟩ := Bool.and_eq_true_iff.mp h6
    refine ⟨Nat.le_of_ble_eq_true h1, ?_, Nat.le_of_ble_eq_true h5, Nat.le_of_ble_eq_true h7, kroom_le h8, ?_⟩
    · generalize (st.take n).reverse = as at h3
      match as, h3 with
      | .inr (.inr r) :: t, _ => exact ⟨r, t, rfl⟩
    · rw [cond_true] at h
      cases hC : C a (st.take n).reverse g.1 with
      | none => rw [hC] at h; cases h
      | some hs =>
        rw [hC] at h
        dsimp only at h
        cases hb2 : Nat.beq hs.length (g.1.length + (klim a).1) with
        | false => rw [hb2] at h; cases h
        | true =>
          rw [hb2] at h
          exact ⟨hs, rfl, Nat.eq_of_beq_eq_true hb2, h⟩
theorem k_r_special {x : Nat} (X : kX l dC dI aC base p e s m args below meth c y d out K (pc, .invokespecial x, len, a, b, q) tl ls g H locs LS) (hC : kCok l dC dI aC base d C) (h99 : Nat.beq a 99 = false) (h : kcal K C y a (b % 10) tl ls st g = some out) : kGo l dC dI aC base p e s m args below meth c y d out.1 H locs g pc LS st := by
  obtain ⟨hd, hc⟩ := kX_chk X
  refine k_size X (fun hs => ?_)
  obtain ⟨hy, ⟨hx, hb, hml, hown, hts, hret, hlk, hin, hS, hbs⟩, -, ho, -, hL, hP, hct, hV⟩ := id X
  unfold kcf at hc
  obtain ⟨h1, h2⟩ := Bool.and_eq_true_iff.mp (Bool.and_eq_true_iff.mp hc).2
  have hl : len = 3 := Nat.eq_of_beq_eq_true h1
  subst hl
  rw [h99, cond_false] at h2
  obtain ⟨h3, h4⟩ := Bool.and_eq_true_iff.mp h2
  obtain ⟨h5, h6⟩ := Bool.and_eq_true_iff.mp h4
  obtain ⟨h7, h8⟩ := Bool.and_eq_true_iff.mp h6
  have ha : a < 14 := Nat.le_of_ble_eq_true h3
  have ha6 : a ≠ 6 := fun q => by rw [q] at h5; cases h5
  have hb10 : b % 10 = (khead a).2.2.1 := Nat.eq_of_beq_eq_true h7
  obtain ⟨k1, ⟨r, t, k2⟩, k3, k4, k5, hs1, k6, k7, k8⟩ := kcal_some h
  obtain ⟨d2, rfl, hM⟩ := hC _ _ _ _ k6
  have hM := hM ha k4
  obtain ⟨w1, w2, w3, w4, w5, w6, w7, w8, -⟩ := kwok_sp ha
  have hinit : (kY a).name = "<init>" := w8.resolve_left ha6
  have hcat : 2 * (F0 m pc LS (st.map (am_t base (kadK base)))).monitorRoom + (((st.drop (b % 10)).map (am_t base (kadK base))).map fun v => v.category).sum ≤ 8 := lv_room (by rw [am_t_cats]; exact k3)
  have hmt := am_map_take (base := base) (adK := kadK base) (b % 10) st
  have hlen : (st.take (b % 10)).reverse.length = b % 10 := by rw [List.length_reverse, List.length_take]; omega
  rw [k2] at hmt hM hlen
  have hpre : PreS s H (kPc dC dI aC base (.inr (.inr r) :: t) g.1) (.ref (am_ad base (kadK base) r.1 r.2) :: t.map (am_t base (kadK base))) :=
    ⟨kPc_blind _ _ _ _ _ _, fun U hU hW => ⟨rfl, kS_moved hS hW, by rw [hU]; exact hs, by rw [hU]; exact hP⟩⟩
  have hn : t.length + 1 = (khead a).2.2.1 := by rw [← hb10, ← hlen]; rfl
  have hlim : (klim a).1 ≤ (klim y).1 ∧ (klim a).2 ≤ (klim y).2 := ⟨by omega, by omega⟩
  have hst : st.map (am_t base (kadK base)) = (t.map (am_t base (kadK base))).reverse ++ .ref (am_ad base (kadK base) r.1 r.2) :: (st.drop (b % 10)).map (am_t base (kadK base)) := by
    refine hmt.trans ?_
    rw [List.map_cons, List.reverse_cons, List.append_assoc]
    rfl
  have go : va_Run p l e (krm (d2 + 1) y) s m args below meth c H locs g.2.1 g.2.2 (klim a).1 (klim a).2 (F0 m pc LS (st.map (am_t base (kadK base)))) ((st.drop (b % 10)).map (am_t base (kadK base))) (kQc dC dI aC base hs1 ((.ref (am_ad base (kadK base) r.1 r.2) :: t.map (am_t base (kadK base)) : List Value).toArray)) (fun q => base ≤ q) := by
    rcases Bool.or_eq_true_iff.mp h8 with q8 | q8
    · have hw := of_decide_eq_true q8
      exact va_runI (own := am_R (khead y).1) ⟨hx, hb, hml, hown, hts⟩ hM ⟨k_callB hts ha (hts _ (k_in hw rfl)) hn hlim, hinit, hts _ (k_in w1 rfl)⟩ hpre rfl (by rw [List.length_map]) hL.1 hst hcat hd k5
    · obtain ⟨e0, he0, q9⟩ := List.any_eq_true.mp q8
      obtain ⟨q10, q11⟩ := Bool.and_eq_true_iff.mp q9
      obtain ⟨q12, q13⟩ := Bool.and_eq_true_iff.mp q11
      have hnw := va_Nw.use (A := args) rfl (hS.2.2.2 _ he0)
      rw [Nat.eq_of_beq_eq_true q10, Nat.eq_of_beq_eq_true q12, Nat.eq_of_beq_eq_true q13] at hnw
      exact va_runIN (own := am_R (khead y).1) ⟨hx, hb, hml, hown, hts⟩ hM ⟨k_callN hts ha hnw hn hlim, hinit, hts _ (k_in w1 rfl)⟩ hpre rfl (by rw [List.length_map]) hL.1 hst hcat hd k5
  refine k_after go hV (fun H1 locs1 hP1 hV1 => ?_)
  exact k_next X rfl k8 hL hP1 (by show base + hs1.length = s.heap.size + (g.2.1 + (klim a).1); omega) hV1
theorem k_r_objinit {x : Nat} {r : Nat × Nat} (X : kX l dC dI aC base p e s m args below meth c y d out K (pc, .invokespecial x, len, a, b, q) tl ls g H locs LS) (h99 : Nat.beq a 99 = true) (hcat : am_cat st ≤ 8) (h : K tl ls st g = some out) : kGo l dC dI aC base p e s m args below meth c y d out.1 H locs g pc LS (.inr (.inr r) :: st) := by
  obtain ⟨hd, hc⟩ := kX_chk X
  obtain ⟨hy, ⟨hx, hb, hml, hown, hts, hret, hlk, hin, hS, hbs⟩, -, ho, -, hL, hP, hct, hV⟩ := id X
  unfold kcf at hc
  obtain ⟨h1, h2⟩ := Bool.and_eq_true_iff.mp (Bool.and_eq_true_iff.mp hc).2
  have hl : len = 3 := Nat.eq_of_beq_eq_true h1
  subst hl
  rw [h99, cond_true] at h2
  have hw := of_decide_eq_true h2
  obtain ⟨-, -, -, -, -, o1, o2⟩ := kac_ok
  exact W.objInit hx hb hown (hts _ (k_in hw rfl)) (hts _ (k_in o1 rfl)) (hts _ (k_in o2 rfl)) rfl (by rw [hml]; exact hL.1) rfl hd (by show 1 ≤ d + 2; omega) (by
    show 2 * 0 + ((st.map (am_t base (kadK base))).map fun v => v.category).sum + 12 ≤ 40 * d + 60
    rw [am_t_cats]
    omega) (k_next X rfl h hL hP hct hV)
theorem k_r_virtual {x r : Nat} {fs : List (Option mv)} (X : kX l dC dI aC base p e s m args below meth c y d out K (pc, .invokevirtual x, len, a, b, q) tl ls g H locs LS) (hC : kCok l dC dI aC base d C) (hr : g.1[r]? = some (.inl (4, fs))) (h : kcal K C y 6 1 tl ls [.inr (.inr (200, r))] g = some out) : kGo l dC dI aC base p e s m args below meth c y d out.1 H locs g pc LS [.inr (.inr (200, r))] := by
  obtain ⟨hd, hc⟩ := kX_chk X
  refine k_size X (fun hs => ?_)
  obtain ⟨hy, ⟨hx, hb, hml, hown, hts, hret, hlk, hin, hS, hbs⟩, -, ho, -, hL, hP, hct, hV⟩ := id X
  unfold kcf at hc
  obtain ⟨h1, h2⟩ := Bool.and_eq_true_iff.mp (Bool.and_eq_true_iff.mp hc).2
  have hl : len = 3 := Nat.eq_of_beq_eq_true h1
  subst hl
  obtain ⟨h3, h4⟩ := Bool.and_eq_true_iff.mp h2
  have hw := of_decide_eq_true h4
  obtain ⟨k1, -, k3, k4, k5, hs1, k6, k7, k8⟩ := kcal_some h
  obtain ⟨d2, rfl, hM⟩ := hC _ _ _ _ k6
  have ha : 6 < 14 := by decide
  have hM := hM ha k4
  obtain ⟨w1, w2, w3, w4, w5, w6, w7, w8, -⟩ := kwok_sp ha
  have he := kw_at (aC := aC) (base := base) hr
  obtain ⟨-, c2, -⟩ := am_ci (show 4 < 13 by decide)
  have hrecv := va_recv hS.1 hP c2 he
  obtain ⟨q0, hsel⟩ := kfl_sel
  have hlim : (klim 6).1 ≤ (klim y).1 ∧ (klim 6).2 ≤ (klim y).2 := ⟨Nat.zero_le _, Nat.zero_le _⟩
  have hpre : PreV s H "WordEach$Judge" (base + r) (kPc dC dI aC base [.inr (.inr (200, r))] g.1) [] :=
    ⟨kPc_blind _ _ _ _ _ _, hrecv, fun U hU hW => ⟨rfl, kS_moved hS hW, by rw [hU]; exact hs, by rw [hU]; exact hP⟩⟩
  have go : va_Run p l e (krm (d2 + 1) y) s m args below meth c H locs g.2.1 g.2.2 (klim 6).1 (klim 6).2 (F0 m pc LS [.ref (base + r)]) [] (kQc dC dI aC base hs1 ([.ref (base + r)] : List Value).toArray) (fun q => base ≤ q) :=
    va_runV (own := am_R (khead y).1) (C := "WordEach$Judge") (As := []) ⟨hx, hb, hml, hown, hts⟩ hM ⟨k_callB hts ha (hts _ (k_in hw rfl)) (n := 0) rfl hlim, hts _ (k_in w1 rfl), hts _ (List.mem_cons_of_mem _ (List.mem_filter.mpr ⟨List.mem_of_getElem? hsel, rfl⟩))⟩ hpre rfl rfl hL.1 rfl (lv_room (Nat.le_of_ble_eq_true rfl)) hd k5
  refine k_after go hV (fun H1 locs1 hP1 hV1 => ?_)
  exact k_next X rfl k8 hL hP1 (by show base + hs1.length = s.heap.size + (g.2.1 + (klim 6).1); omega) hV1
end KSC
