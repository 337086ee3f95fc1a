/-! switches, calls -/
theorem am_nx_some {bps : List Nat} {k b len : Nat} (h : am_nx bps k b len = true) : am_nth bps (k + 1) = some (b + len) := by
  unfold am_nx at h
  split at h
  · rename_i q hq
    rw [hq, Nat.eq_of_beq_eq_true h]
  · cases h
theorem am_tgt_some {bps : List Nat} {b t : Nat} {off : Int} (h : am_tgt bps b off t = true) : ∃ q, am_nth bps t = some q ∧ (b : Int) + off = (q : Int) := by
  unfold am_tgt at h
  split at h
  · rename_i q hq
    exact ⟨q, hq, of_decide_eq_true h⟩
  · cases h
theorem am_S_moved {dC : Nat → ClassId} {dI : Nat → Nat → Nat} {aC : Nat → ClassId} {base : Nat} {adK adV : Nat → Nat} {s U : State} {H : Heap} {locs : List Loc} (h : am_S dC dI aC base adK adV s) (hV : va_S (fun q => base ≤ q) s.heap H locs) (hU : U.heap = H) (hW : s.WarmedH U.vm) : am_S dC dI aC base adK adV U := by
  obtain ⟨h1, h2, h3, h4, h5, h6⟩ := h
  refine ⟨va_K.moved hW.alike h1, ?_, fun e he => (h3 e he).warm hW, fun e he => (h4 e he).warmM hW, ?_, ?_⟩
  · rw [hU]
    exact (h2.kept hV.2.1).moved hW.alike
  · rw [hU]
    exact (h5.kept hV.2.1).moved hW.alike
  · rw [hU]
    rcases h6 with h6 | ⟨t, h6⟩
    · exact Or.inl ((h6.kept hV.2.1).moved hW.alike)
    · exact Or.inr ⟨t, (h6.kept hV.2.1).moved hW.alike⟩
theorem am_S_calling {dC : Nat → ClassId} {dI : Nat → Nat → Nat} {aC : Nat → ClassId} {base : Nat} {adK adV : Nat → Nat} {U : State} {gf : JFrame} {mk : MethodId} {a : Array Value} (h : am_S dC dI aC base adK adV U) : am_S dC dI aC base adK adV (U.calling gf mk a) := by
  obtain ⟨h1, h2, h3, h4, h5, h6⟩ := h
  refine ⟨va_K.moved (u := U) (U := U.calling gf mk a) (Vm.Alike.refl U.vm) h1, vk_S.moved (u := U) (U := U.calling gf mk a) (Vm.Alike.refl U.vm) h2, fun e he => vk_R.same (u := U) rfl (h3 e he), fun e he => va_Nw.same rfl (u := U) rfl (h4 e he), va_Z.moved (u := U) (U := U.calling gf mk a) (Vm.Alike.refl U.vm) h5, ?_⟩
  rcases h6 with h6 | ⟨t, h6⟩
  · exact Or.inl (va_Z.moved (u := U) (U := U.calling gf mk a) (Vm.Alike.refl U.vm) h6)
  · exact Or.inr ⟨t, va_Z.moved (u := U) (U := U.calling gf mk a) (Vm.Alike.refl U.vm) h6⟩
theorem am_Pc_blind (dC : Nat → ClassId) (dI : Nat → Nat → Nat) (aC : Nat → ClassId) (base : Nat) (adK adV : Nat → Nat) (as : List mv) (g : mg) : FrameBlind (am_Pc dC dI aC base adK adV as g) :=
  fun _ _ _ _ q => ⟨q.1, am_S_calling q.2.1, q.2.2⟩
theorem am_inv_some {K : Nat → ml → List mv → mg → Option mr} {C : Nat → List mv → mg → Option mr} {a b c k : Nat} {ls : ml} {st : List mv} {g : mg} {r : mr} (h : am_inv K C a b c k ls st g = some r) :
    b ≤ st.length ∧ am_cat (st.drop b) ≤ 8 ∧ am_cat (st.take b).reverse ≤ (am_head a).2.1 ∧ ∃ rc gc, C a (st.take b).reverse g = some (rc, gc) ∧ K (k + 1) ls (rc.toList ++ st.drop b) gc = some r ∧ ∀ v ∈ rc.toList, am_okv v := by
  unfold am_inv at h
  by_cases hp : b ≤ st.length ∧ am_cat (st.drop b) ≤ 8 ∧ am_cat (st.take b).reverse ≤ (am_head a).2.1
  · rw [if_pos hp] at h
    refine ⟨hp.1, hp.2.1, hp.2.2, ?_⟩
    match c, h with
    | 0, h =>
      obtain ⟨g2, h1, h2⟩ := am_bv_some h
      exact ⟨none, g2, h1, h2, fun v hv => by cases hv⟩
    | 1, h =>
      obtain ⟨v, g2, h1, h2⟩ := am_bi_some h
      exact ⟨some (vi v), g2, h1, h2, am_ok_c (am_ok_i _) (fun v hv => by cases hv)⟩
    | 2, h =>
      obtain ⟨v, g2, h1, h2⟩ := am_bl_some h
      exact ⟨some (vl v), g2, h1, h2, am_ok_c (am_ok_l _) (fun v hv => by cases hv)⟩
    | n + 3, h => cases h
  · rw [if_neg hp] at h; cases h
/-- the method's own words, out of the check -/
theorem am_words {y : Nat} (hy : y < 300) : tables_1[(am_P y).2.2.1]? = some (Cond.code (am_Y y) (am_B y) (am_head y).2.1 (am_ret y)) ∧ tables_1[(am_P y).2.2.2.1]? = some (if (am_P y).1 then Cond.static (am_Y y) else Cond.instanceMethod (am_Y y)) ∧ ((am_P y).1 = true ∨ lw_tbl[(am_P y).2.2.2.2.1]? = some (Cond.selects (am_Y y).cls (am_Y y) (am_Y y))) ∧ tables_1[(am_P y).2.2.2.2.2]? = some (Cond.initialized (am_Y y).cls) ∧ (parseMethodDescriptor (am_Y y).desc).map (fun d => d.parameters.length) = some (am_P y).2.1 ∧ (am_Y y).cls = am_R (am_head y).1 ∧ (am_Y y).cls ≠ "java/lang/invoke/MethodHandle" ∧ (am_Y y).cls ≠ "java/lang/invoke/VarHandle" := by
  have h := am_wok_ok hy
  unfold am_wok at h
  simp only [Bool.and_eq_true, Bool.or_eq_true, decide_eq_true_eq] at h
  obtain ⟨h1, ⟨h2, h3⟩, h4, h5, h6, h7, h8⟩ := h
  exact ⟨h1, h2, h3, h4, h5, h6, h7, h8⟩
theorem am_W_good {mi y : Nat} (hy : y < 300) : GoodIn (am_W mi) (am_W y) := by
  intro w hw
  rcases List.mem_cons.mp hw with rfl | hw
  · exact ⟨am_in_W (am_words hy).1 rfl, good_of_word rfl⟩
  · exact ⟨List.mem_cons_of_mem _ hw, good_of_word (List.mem_filter.mp hw).2⟩
theorem am_maxL_le {y : Nat} (hy : y < 300) : (am_head y).2.1 ≤ 9 := by
  have hm : y ∈ List.range 300 := List.mem_range.mpr hy
  have h : (List.range 300).all (fun m => Nat.ble (am_head m).2.1 9) = true := by
    have e := am_maxL
    rwa [am_range300] at e
  exact Nat.le_of_ble_eq_true (List.all_eq_true.mp h y hm)
def am_Cok (l : Launch) (dC : Nat → ClassId) (dI : Nat → Nat → Nat) (aC : Nat → ClassId) (base : Nat) (adK adV : Nat → Nat) (d : Nat) (C : Nat → List mv → mg → Option mr) : Prop :=
  ∀ y as g rc gc, C y as g = some (rc, gc) → ∃ d2, d = d2 + 1 ∧ (am_yok y → (∀ v ∈ as, am_okv v) → am_cat as ≤ (am_head y).2.1 → g.2.2.1 < 2 ∧ g.2.2.2 < 2 → Met l (am_Y y) (am_W y) (am_rm d2) (am_Pc dC dI aC base adK adV as g) (am_Qc dC dI aC base adK rc gc) 0 0 (fun q => base ≤ q))
section AMC
variable {l : Launch} {dC : Nat → ClassId} {dI : Nat → Nat → Nat} {aC : Nat → ClassId} {base : Nat} {adK adV : Nat → Nat} {p : Program} {e : Env} {s : State} {m : MethodId} {args : Array Value} {below : List Frame} {meth : Method} {c : Code} {mi d : Nat} {r : Option mv} {g2 : mg} {K : Nat → ml → List mv → mg → Option mr} {C : Nat → List mv → mg → Option mr} {k : Nat} {ls : ml} {st : List mv} {g : mg} {H : Heap} {locs : List Loc} {b : Nat} {LS : Array Slot} {a bb cc : Nat} {z : mv}
theorem am_after {rc : Option mv} {gc : mg} {al : Array Value} {st0 rest : List Value} {Q : State → Prop} {R : Room} (hr : va_Run p l e R s m args below meth c H locs 0 0 0 0 (F0 m b LS st0) rest (am_Qc dC dI aC base adK rc gc al) (fun q => base ≤ q)) (hV : va_S (fun q => base ≤ q) s.heap H locs)
    (kk : ∀ (H1 : Heap) (locs1 : List Loc), va_P (dC, dI) classes (am_w aC base gc) H1 → va_S (fun q => base ≤ q) s.heap H1 locs1 → gc.2.2.1 < 2 ∧ gc.2.2.2 < 2 → W p l e R s m args below meth c H1 locs1 0 0 Q (F0 m (b + 3) LS ((rc.map (am_t base adK)).toList ++ rest))) : W p l e R s m args below meth c H locs 0 0 Q (F0 m b LS st0) := by
  intro T hT X
  obtain ⟨v, st₀, t, T', L, h0, X', hL, e1, e2, ⟨hv, hP1, ⟨hz, hk⟩, hg⟩, st⟩ := hr T hT X
  cases hv
  rw [h0] at hz hk
  obtain ⟨t2, a1, b1⟩ := kk T'.heap (locs ++ L) (by rw [e1]; exact hP1) ⟨Nat.le_trans hV.1 (by rw [e1]; exact hz), fun q h1 h2 => by rw [e1, hk q (Nat.lt_of_lt_of_le h1 hV.1) h2]; exact hV.2.1 q h1 h2, fun q hq => by
      rcases List.mem_append.mp hq with h | h
      · exact hV.2.2 q h
      · exact hL q h⟩ hg T' rfl X'
  exact ⟨t2, st t2 a1, b1⟩
theorem am_callB {d2 y x : Nat} (hx : p.tables.exec = Jvm.exec) (hts : ∀ w ∈ am_W mi, w.before args s = true) (hy : y < 300) {own : String} (hl : (Cond.methodLink own x (am_Y y)).before args s = true) : CallB (am_rm (d2 + 1)) s args own x (am_Y y) (am_B y) (am_head y).2.1 (am_ret y) (am_W y) (am_rm d2) 0 0 (am_P y).2.1 := by
  obtain ⟨w1, w2, w3, w4, w5, w6, w7⟩ := am_words hy
  have hm := am_maxL_le hy
  refine ⟨rfl, rfl, ?_, ?_, pay_in hts (am_W_good hy), List.mem_cons_self, hts _ (am_in_W w1 rfl), hts _ (am_in_W w4 rfl), w7, fun sig hs => ?_, hl⟩
  · show d2 + 10 + 1 ≤ d2 + 1 + 10; omega
  · show 8 + ((am_head y).2.1 + 11) + (40 * d2 + 400) ≤ 40 * (d2 + 1) + 400; omega
  · rw [hs] at w5
    exact (Option.some.inj w5).symm
theorem am_callN {d2 y x : Nat} (hx : p.tables.exec = Jvm.exec) (hts : ∀ w ∈ am_W mi, w.before args s = true) (hy : y < 300) {own : String} (hl : (Cond.methodLinkNest own x (am_Y y) "WordEach").before args s = true) : va_CN (am_rm (d2 + 1)) s args own x (am_Y y) "WordEach" (am_B y) (am_head y).2.1 (am_ret y) (am_W y) (am_rm d2) 0 0 (am_P y).2.1 := by
  obtain ⟨w1, w2, w3, w4, w5, w6, w7⟩ := am_words hy
  have hm := am_maxL_le hy
  refine ⟨⟨rfl, rfl, ?_, ?_, pay_in hts (am_W_good hy), List.mem_cons_self⟩, hts _ (am_in_W w1 rfl), hts _ (am_in_W w4 rfl), w7, fun sig hs => ?_, hl⟩
  · show d2 + 10 + 1 ≤ d2 + 1 + 10; omega
  · show 8 + ((am_head y).2.1 + 11) + (40 * d2 + 400) ≤ 40 * (d2 + 1) + 400; omega
  · rw [hs] at w5
    exact (Option.some.inj w5).symm
theorem am_map_take (bb : Nat) (st : List mv) : st.map (am_t base adK) = (((st.take bb).reverse).map (am_t base adK)).reverse ++ (st.drop bb).map (am_t base adK) := by
  rw [← List.map_reverse, List.reverse_reverse, ← List.map_append, List.take_append_drop]
theorem am_r_invokestatic (X : am_X l dC dI aC base adK adV p e s m args below meth c mi d r g2 K k ls st g H locs b LS) (hC : am_Cok l dC dI aC base adK adV d C) {x : Nat} (hy : a < 300) (hnm : ¬ (294 ≤ a ∧ a ≤ 298)) (hst : (am_P a).1 = true) (hnp : (am_P a).2.1 = bb) (hlk2 : (∃ q, ((am_head mi).1, x, a, q) ∈ am_mls) ∨ ∃ q, ((am_head mi).1, x, a, q) ∈ am_nls) (hd : decode (am_B mi) b = .ok (.invokestatic x, 3)) (hn : am_nth (am_bp mi) (k + 1) = some (b + 3)) (h : am_do K C (.invokestatic x, a, bb, cc, z) k ls st g = some (r, g2)) : am_Go l dC dI aC base adK p e s m args below meth c mi d r g2 H locs b LS st := by
  obtain ⟨hmi, ⟨hx, hb, hml, hown, hts, hret, hlk, hS⟩, hK, hL, hP, hV, ok, hbk⟩ := X
  have h : am_inv K C a bb cc k ls st g = some (r, g2) := by
    have h0 : (if 294 ≤ a ∧ a ≤ 298 then am_math K a k ls st g else am_inv K C a bb cc k ls st g) = some (r, g2) := h
    rwa [if_neg hnm] at h0
  obtain ⟨h1, h2, hca, rc, gc, h3, h4, h5⟩ := am_inv_some h
  obtain ⟨d2, rfl, hM⟩ := hC _ _ _ _ _ h3
  have okas : ∀ v ∈ (st.take bb).reverse, am_okv v := fun v hv => ok.2.1 v (List.mem_of_mem_take (List.mem_reverse.mp hv))
  have hM := hM ⟨hy, hnm⟩ okas hca ok.2.2
  have hcat : 2 * (F0 m b LS (st.map (am_t base adK))).monitorRoom + (((st.drop bb).map (am_t base adK)).map fun v => v.category).sum ≤ 8 := lv_room (by rw [am_t_cats]; exact h2)
  have hlen : (((st.take bb).reverse).map (am_t base adK)).length = (am_P a).2.1 := by
    rw [List.length_map, List.length_reverse, List.length_take, hnp]
    omega
  have hwst := (am_words hy).2.1
  rw [if_pos hst] at hwst
  have hpre : PreS s H (am_Pc dC dI aC base adK adV (st.take bb).reverse g) (((st.take bb).reverse).map (am_t base adK)) :=
    ⟨am_Pc_blind _ _ _ _ _ _ _ _, fun U hU hW => ⟨rfl, am_S_moved hS hV hU hW, by rw [hU]; exact hP⟩⟩
  have go : va_Run p l e (am_rm (d2 + 1)) s m args below meth c H locs 0 0 0 0 (F0 m b LS (st.map (am_t base adK))) ((st.drop bb).map (am_t base adK)) (am_Qc dC dI aC base adK rc gc (((st.take bb).reverse).map (am_t base adK)).toArray) (fun q => base ≤ q) := by
    rcases hlk2 with ⟨q, hq⟩ | ⟨q, hq⟩
    · have hw := of_decide_eq_true (List.all_eq_true.mp am_ml_ok _ hq)
      exact va_runS (own := am_R (am_head mi).1) ⟨hx, hb, hml, hown, hts⟩ hM ⟨am_callB hx hts hy (hts _ (am_in_W hw rfl)), hts _ (am_in_W hwst rfl)⟩ hpre rfl hlen hL.1 (am_map_take bb st) hcat hd ⟨Nat.le_refl _, Nat.le_refl _⟩
    · have hnw := va_Nw.use (A := args) rfl (hS.2.2.2.1 _ hq)
      exact va_runSN (own := am_R (am_head mi).1) ⟨hx, hb, hml, hown, hts⟩ hM ⟨am_callN hx hts hy hnw, hts _ (am_in_W hwst rfl), trivial⟩ hpre rfl hlen hL.1 (am_map_take bb st) hcat hd ⟨Nat.le_refl _, Nat.le_refl _⟩
  refine am_after go hV (fun H1 locs1 hP1 hV1 hg => ?_)
  have e1 : (rc.map (am_t base adK)).toList ++ (st.drop bb).map (am_t base adK) = (rc.toList ++ st.drop bb).map (am_t base adK) := by
    rw [List.map_append]
    cases rc <;> rfl
  rw [e1]
  exact hK _ _ _ _ h4 ⟨ok.1, fun v hv => by
    rcases List.mem_append.mp hv with q | q
    · exact h5 v q
    · exact ok.2.1 v (List.mem_of_mem_drop q), hg⟩ _ _ _ _ hL hP1 hV1 hn
theorem am_r_invokevirtual (X : am_X l dC dI aC base adK adV p e s m args below meth c mi d r g2 K k ls st g H locs b LS) (hC : am_Cok l dC dI aC base adK adV d C) {x : Nat} (hy : a < 300) (hnm : ¬ (294 ≤ a ∧ a ≤ 298)) (hst : (am_P a).1 = false) (hnp : (am_P a).2.1 + 1 = bb) (hlk2 : ∃ q, ((am_head mi).1, x, a, q) ∈ am_mls) (hd : decode (am_B mi) b = .ok (.invokevirtual x, 3)) (hn : am_nth (am_bp mi) (k + 1) = some (b + 3)) (h : am_do K C (.invokevirtual x, a, bb, cc, z) k ls st g = some (r, g2)) : am_Go l dC dI aC base adK p e s m args below meth c mi d r g2 H locs b LS st := by
  obtain ⟨hmi, ⟨hx, hb, hml, hown, hts, hret, hlk, hS⟩, hK, hL, hP, hV, ok, hbk⟩ := X
  have h : (if am_rcv a (st.take bb).reverse = true then am_inv K C a bb cc k ls st g else none) = some (r, g2) := by
    have h0 : (if a = 900 then _ else if a = 901 then _ else if am_rcv a (st.take bb).reverse = true then am_inv K C a bb cc k ls st g else none) = some (r, g2) := h
    rw [if_neg (by omega), if_neg (by omega)] at h0
    exact h0
  by_cases hrv : am_rcv a (st.take bb).reverse = true
  · rw [if_pos hrv] at h
    obtain ⟨h1, h2, hca, rc, gc, h3, h4, h5⟩ := am_inv_some h
    obtain ⟨d2, rfl, hM⟩ := hC _ _ _ _ _ h3
    have okas : ∀ v ∈ (st.take bb).reverse, am_okv v := fun v hv => ok.2.1 v (List.mem_of_mem_take (List.mem_reverse.mp hv))
    have hM := hM ⟨hy, hnm⟩ okas hca ok.2.2
    have hcat : 2 * (F0 m b LS (st.map (am_t base adK))).monitorRoom + (((st.drop bb).map (am_t base adK)).map fun v => v.category).sum ≤ 8 := lv_room (by rw [am_t_cats]; exact h2)
    obtain ⟨w1, w2, w3, w4, w5, w6, w7⟩ := am_words hy
    rw [if_neg (by rw [hst]; decide)] at w2
    obtain ⟨q, hq⟩ := hlk2
    have hw := of_decide_eq_true (List.all_eq_true.mp am_ml_ok _ hq)
    have hmt := am_map_take (base := base) (adK := adK) bb st
    have hlen0 : (st.take bb).reverse.length = bb := by rw [List.length_reverse, List.length_take]; omega
    generalize (st.take bb).reverse = as at h3 hM hrv okas hmt hlen0
    match as, h3, hM, hrv, okas, hmt, hlen0 with
    | .inr (.inr (kd, i)) :: as, h3, hM, hrv, okas, hmt, hlen0 =>
      have hf : (af kd).1 = (am_head a).1 := Nat.eq_of_beq_eq_true hrv
      have hlt13 : (am_head a).1 < 13 := am_virt_lt hy hst
      obtain ⟨hk, hi⟩ := am_okv_ref (okas _ List.mem_cons_self) (by omega)
      have he := am_w_at aC base g hk hi
      rw [am_e_obj hk hlt13 hf] at he
      obtain ⟨c1, c2, -, -, c5⟩ := am_ci hlt13
      have hrecv := va_recv hS.1 hP c2 he
      have hsel : (Cond.selects (am_Y a).cls (am_Y a) (am_Y a)).before args s = true := by
        rcases w3 with q | q
        · rw [hst] at q; cases q
        · exact hts _ (List.mem_cons_of_mem _ (List.mem_filter.mpr ⟨List.mem_of_getElem? q, rfl⟩))
      have hpre : PreV s H (am_Y a).cls (base + am_off kd i) (am_Pc dC dI aC base adK adV (.inr (.inr (kd, i)) :: as) g) (as.map (am_t base adK)) := by
        refine ⟨am_Pc_blind _ _ _ _ _ _ _ _, by rw [w6]; exact hrecv, fun U hU hW => ⟨?_, am_S_moved hS hV hU hW, by rw [hU]; exact hP⟩⟩
        rw [List.map_cons]
        show (Value.ref (base + am_off kd i) :: as.map (am_t base adK)).toArray = (Value.ref (am_ad base adK kd i) :: as.map (am_t base adK)).toArray
        rw [am_ad_eq hk]
      have hstk : st.map (am_t base adK) = (as.map (am_t base adK)).reverse ++ Value.ref (base + am_off kd i) :: (st.drop bb).map (am_t base adK) := by
        rw [hmt, List.map_cons, List.reverse_cons, List.append_assoc]
        show _ ++ ([Value.ref (am_ad base adK kd i)] ++ _) = _
        rw [am_ad_eq hk]
        rfl
      have go : va_Run p l e (am_rm (d2 + 1)) s m args below meth c H locs 0 0 0 0 (F0 m b LS (st.map (am_t base adK))) ((st.drop bb).map (am_t base adK)) (am_Qc dC dI aC base adK rc gc (Value.ref (base + am_off kd i) :: as.map (am_t base adK)).toArray) (fun q => base ≤ q) :=
        va_runV (own := am_R (am_head mi).1) (C := (am_Y a).cls) ⟨hx, hb, hml, hown, hts⟩ hM ⟨am_callB hx hts hy (hts _ (am_in_W hw rfl)), hts _ (am_in_W w2 rfl), hsel⟩ hpre rfl (by rw [List.length_map]; have := hlen0; rw [List.length_cons] at this; omega) hL.1 hstk hcat hd ⟨Nat.le_refl _, Nat.le_refl _⟩
      refine am_after go hV (fun H1 locs1 hP1 hV1 hg => ?_)
      have e1 : (rc.map (am_t base adK)).toList ++ (st.drop bb).map (am_t base adK) = (rc.toList ++ st.drop bb).map (am_t base adK) := by
        rw [List.map_append]
        cases rc <;> rfl
      rw [e1]
      exact hK _ _ _ _ h4 ⟨ok.1, fun v hv => by
        rcases List.mem_append.mp hv with q | q
        · exact h5 v q
        · exact ok.2.1 v (List.mem_of_mem_drop q), hg⟩ _ _ _ _ hL hP1 hV1 hn
    | [], _, _, hrv, _, _, _ => cases hrv
    | .inl _ :: _, _, _, hrv, _, _, _ => cases hrv
    | .inr (.inl _) :: _, _, _, hrv, _, _, _ => cases hrv
  · rw [if_neg hrv] at h; cases h
end AMC
