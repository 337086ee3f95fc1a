/-! the law from its entry: the two constructors, then the loop; the claim -/
theorem lwS_words : tables_1[20]? = some (Cond.classLink "WordEachLaw" 7 (am_R 11)) ∧ tables_1[22]? = some (Cond.methodLink "WordEachLaw" 9 (kY 0)) ∧ tables_1[1144]? = some (Cond.classLink "WordEachLaw" 10 (am_R 12)) ∧ tables_1[1146]? = some (Cond.methodLink "WordEachLaw" 12 (kY 13)) := by decide +kernel
theorem kH1_len : kH1.length = 166 := by decide +kernel
theorem lwS_good {y : Nat} (hy : y < 14) : GoodIn lw_tbl (kW y) := by
  intro w hw
  rcases List.mem_cons.mp hw with rfl | hw
  · exact ⟨List.mem_append_right _ (List.mem_of_getElem? (kcode_ok hy)), good_of_word rfl⟩
  · exact ⟨(List.mem_filter.mp hw).1, good_of_word (List.mem_filter.mp hw).2⟩
section LWS
variable {l : Launch} {dC : Nat → ClassId} {dI : Nat → Nat → Nat} {aC : Nat → ClassId} {adK adV : Nat → Nat} {p : Program} {e : Env} {s : State} {m : MethodId} {b : Nat} {below : List Frame} {meth : Method} {c : Code} {L : Nat} {xs : Nat → Int32} {H : Heap} {locs : List Loc} {cu su : Nat} {Q : State → Prop} {LS : Array Slot}
theorem lwS_callB (hts : ∀ w ∈ lw_tbl, w.before #[Value.ref b] s = true) {a x q : Nat} (ha : a < 14) (hn : 1 = (khead a).2.2.1) (hw : tables_1[q]? = some (Cond.methodLink "WordEachLaw" x (kY a))) : CallB room_1 s #[Value.ref b] R_law x (kY a) (kB a) (khead a).2.1 none (kW a) (krm 5 a) (klim a).1 (klim a).2 0 := by
  obtain ⟨w1, w2, w3, w4, w5, w6, -⟩ := kwok_sp ha
  have hin : ∀ {w : Cond} {q : Nat}, tables_1[q]? = some w → w.before #[Value.ref b] s = true := fun h => hts _ (List.mem_append_right _ (List.mem_of_getElem? h))
  refine ⟨rfl, rfl, ?_, ?_, pay_in hts (lwS_good ha), List.mem_cons_self, hin (kcode_ok ha), hin w2, w5, fun sig hs => ?_, hin hw⟩
  · show 5 + 2 + 1 ≤ 2048; decide
  · show 8 + ((khead a).2.1 + 11) + (40 * 5 + 60) ≤ 84000; omega
  · rw [hs] at w3
    have w3 := Option.some.inj w3
    dsimp only at w3
    omega
/-- a new object and its constructor -/
theorem lwS_make (C0 : lw_At p s m meth c b L xs) (hS : kS dC dI aC s) {C a x1 x2 q1 q2 pc n : Nat} {hs hs1 : List kcell} (hC : C < 13) (ha : a < 14) (ha6 : a ≠ 6) (hn1 : 1 = (khead a).2.2.1) (hc1 : 1 ≤ (khead a).2.1) (hr : krun n 5 a [vr 200 hs.length] (hs ++ [.inl (C, kdef C)]) = some hs1) (hw1 : tables_1[q1]? = some (Cond.classLink "WordEachLaw" x1 (am_R C))) (hw2 : tables_1[q2]? = some (Cond.methodLink "WordEachLaw" x2 (kY a))) (d1 : decode code pc = .ok (.new x1, 3)) (d2 : decode code (pc + 3) = .ok (.dup, 1)) (d3 : decode code (pc + 4) = .ok (.invokespecial x2, 3)) (hP : va_P (dC, dI) classes (kw aC s.heap.size hs) H) (hct : hs.length = cu) (hV : va_S (fun q => s.heap.size ≤ q) s.heap H locs) (hls : LS.size = 4) (hcu : cu + 1 + (klim a).1 ≤ 600000) (hsu : su + am_N C + (klim a).2 ≤ 7302249)
    (kk : ∀ (H1 : Heap) (locs1 : List Loc), va_P (dC, dI) classes (kw aC s.heap.size hs1) H1 → va_S (fun q => s.heap.size ≤ q) s.heap H1 locs1 → W p l e room_1 s m #[Value.ref b] below meth c H1 locs1 (cu + 1 + (klim a).1) (su + am_N C + (klim a).2) Q (F0 m (pc + 7) LS [.ref (s.heap.size + hs.length)])) : W p l e room_1 s m #[Value.ref b] below meth c H locs cu su Q (F0 m pc LS []) := by
  obtain ⟨hx, hb, hr0, hml, hown, hts, hX, hbl, hlocks, hgv⟩ := id C0
  have hin : ∀ {w : Cond} {q : Nat}, tables_1[q]? = some w → w.before #[Value.ref b] s = true := fun h => hts _ (List.mem_append_right _ (List.mem_of_getElem? h))
  have key : H.size = s.heap.size + hs.length → W p l e room_1 s m #[Value.ref b] below meth c H locs cu su Q (F0 m pc LS []) := by
    intro hsz
    obtain ⟨c1, c2, ⟨ty0, c3⟩, c4, c5⟩ := am_ci hC
    obtain ⟨hi1, hi2⟩ := kins_ok hC
    have hKn := hS.1.1 C _ c2
    refine W.newcK hx hb (C := am_R C) (n := am_N C) hown (hin hw1) (hin hi1) (hin hi2) rfl d1 (by show cu + 1 ≤ 600000; omega) (by show su + am_N C ≤ 7302249; omega) hKn.2.1 rfl fun H1 kC hkC e1 z1 o1 => ?_
    have hP1 : va_P (dC, dI) classes (kw aC s.heap.size (hs ++ [.inl (C, kdef C)])) H1 := k_push hP hsz o1 (fun j e he => by
      match j, he with
      | 0, he =>
        cases he
        refine ⟨_, c2, ?_⟩
        rw [hsz] at e1
        exact (u_born ty0 hts c1 hKn hkC e1 c3).to (k_def s.heap.size hC c3)
      | j + 1, he => cases he)
    have hV1 : va_S (fun q => s.heap.size ≤ q) s.heap H1 locs := k_pushS hV (by omega) o1
    have hz1 : H1.size = s.heap.size + (hs ++ [.inl (C, kdef C)] : List kcell).length := by
      rw [z1, hsz, List.length_append]
      rfl
    rw [hsz]
    refine lv_dup hx hb d2 rfl ?_
    obtain ⟨w1, w2, w3, w4, w5, w6, w7, w8, -⟩ := kwok_sp ha
    have hM := k_sound (l := l) (dC := dC) (dI := dI) (aC := aC) (base := s.heap.size) hr ha (by show 1 + 0 ≤ _; omega)
    have hpre : PreS s H1 (kPc dC dI aC s.heap.size [vr 200 hs.length] (hs ++ [.inl (C, kdef C)])) (.ref (s.heap.size + hs.length) :: []) :=
      ⟨kPc_blind _ _ _ _ _ _, fun U hU hW => ⟨rfl, kS_moved hS hW, by rw [hU]; exact hz1, by rw [hU]; exact hP1⟩⟩
    refine k_after (va_runI (own := R_law) (As := []) (rest := [.ref (s.heap.size + hs.length)]) ⟨hx, hb, hml, hown, hts⟩ hM ⟨lwS_callB hts ha hn1 hw2, w8.resolve_left ha6, hin w1⟩ hpre rfl rfl hls rfl (lv_room (Nat.le_of_ble_eq_true rfl)) d3 ⟨by show cu + 1 + (klim a).1 ≤ 600000; omega, by show su + am_N C + (klim a).2 ≤ 7302249; omega⟩) hV1 (fun H2 locs2 hP2 hV2 => ?_)
    exact kk H2 locs2 hP2 hV2
  intro T hT X
  have hup : T.heap.size ≤ s.heap.size + cu := X.same.2.2.1
  rw [hT] at hup
  have hlo : s.heap.size + hs.length ≤ H.size := by
    rcases Nat.eq_zero_or_pos hs.length with h0 | h0
    · have := hV.1
      omega
    · obtain ⟨e0, he0⟩ : ∃ e0, hs[hs.length - 1]? = some e0 := ⟨_, List.getElem?_eq_getElem (by omega)⟩
      have h1 := (hP _ _ (kw_at (aC := aC) (base := s.heap.size) he0)).lt
      have h1 : s.heap.size + (hs.length - 1) < H.size := h1
      omega
  exact key (by omega) T hT X
end LWS
set_option maxRecDepth 100000 in
/-- THE LAW, from its entry -/
theorem whole_start {p : Program} {e : Env} {s : State} {m : MethodId} {below : List Frame} {meth : Method} {c : Code} (l : Launch) (hflags : l.flags = flags0) {b L : Nat} {xs : Nat → Int32} (hL : L ≤ 3072) (C0 : lw_At p s m meth c b L xs) : W p l e room_1 s m #[Value.ref b] below meth c s.heap [] 0 0 (lw_Z below #[Value.ref b] s) (entryFrame m ([Value.ref b] : List Value).toArray 4) := by
  obtain ⟨hx, hb, hr, hml, hown, hts, hX, hbl, hlocks, hgv⟩ := id C0
  obtain ⟨dC, dI, aC, adK, adV, hS, hkS⟩ := lwE_all hts hgv
  have hl := lv_entry ([.ref b]) (n := 4) (Nat.le_of_ble_eq_true rfl)
  rw [lg_entry_eq]
  generalize (lg_sl ([.ref b]) ++ List.replicate (4 - (lg_sl ([.ref b])).length) Slot.unset).toArray = LS at hl ⊢
  have hl : lv_has LS 4 [(0, .ref b)] := hl
  obtain ⟨n1, hr1⟩ := kH1_run
  obtain ⟨n2, hr2⟩ := kH2_run
  refine lwS_make C0 hkS (hs := []) (by decide : 11 < 13) (by decide : 0 < 14) (by decide) rfl (by decide) hr1 lwS_words.1 lwS_words.2.1 dL_0 dL_3 dL_4 (fun k q h => by rw [kw_get] at h; cases h) rfl va_S.rf hl.1 (by decide) (by decide) (fun H1 locs1 hP1 hV1 => ?_)
  refine lv_astore_n (lv' := [(1, .ref (s.heap.size + am_off 0 0)), (0, .ref b)]) hx hb dL_7 rfl hl (by decide) rfl (fun LS hl => ?_)
  have hr2' : krun n2 5 13 [vr 200 kH1.length] (kH1 ++ [.inl (12, kdef 12)]) = some kH2 := by rw [kH1_len]; exact hr2
  refine lwS_make C0 hkS (hs := kH1) (by decide : 12 < 13) (by decide : 13 < 14) (by decide) rfl (by decide) hr2' lwS_words.2.2.1 lwS_words.2.2.2 dL_8 dL_11 dL_12 hP1 (by rw [kH1_len]; rfl) hV1 hl.1 (by decide) (by decide) (fun H2 locs2 hP2 hV2 => ?_)
  rw [kH1_len]
  refine lv_astore_n (lv' := [(2, .ref (s.heap.size + am_off 48 0)), (1, .ref (s.heap.size + am_off 0 0)), (0, .ref b)]) hx hb dL_15 rfl hl (by decide) rfl (fun LS hl => ?_)
  refine lv_iconst (v := nI 0) hx hb dL_16 rfl ?_
  refine lv_istore_n (lv' := lw_ls s.heap.size b 0) hx hb dL_17 rfl hl (by decide) rfl (fun LS hl => ?_)
  refine W.widen (k := 600000) (n := 7302249) (by decide) (by decide) ?_
  exact lw_loop C0 hL hS (L + 1) 0 g0 H2 locs2 LS (Nat.zero_le L) (by omega) INV0 (g0_world hP2) hV2 hl
