/-! what the law's entry gives: classes, arrays, texts, statics -/
theorem lwE_cls {s : State} {args : Array Value} (hts : ∀ w ∈ lw_tbl, w.before args s = true) : ∃ (dC : Nat → ClassId) (dI : Nat → Nat → Nat), ∀ (k : Nat) (q : vw_C), classes[k]? = some q → u_Kn s q.1 q.2.1 q.2.2 (dC k) (dI k) := by
  have h0 : ∀ k : Nat, ∃ q : ClassId × (Nat → Nat), k < 13 → u_Kn s (am_R k) (am_T k) (am_N k) q.1 q.2 := by
    intro k
    by_cases hk : k < 13
    · obtain ⟨hi1, hi2⟩ := kins_ok hk
      obtain ⟨cC, iS, h⟩ := u_known (C := am_R k) (T := am_T k) (N := am_N k) (n := am_N k) hts (am_ci hk).1 (hts _ (List.mem_append_right _ (List.mem_of_getElem? hi1)))
      exact ⟨(cC, iS), fun _ => h⟩
    · exact ⟨(0, fun _ => 0), fun h => absurd h hk⟩
  obtain ⟨f, hf⟩ := Classical.axiomOfChoice h0
  refine ⟨fun k => (f k).1, fun k => (f k).2, fun k q hq => ?_⟩
  have hk : k < 13 := (List.getElem?_eq_some_iff.mp hq).1
  have e := (am_ci hk).2.1.symm.trans hq
  cases e
  exact hf k hk
theorem lwE_prim {s : State} {args : Array Value} (hts : ∀ w ∈ lw_tbl, w.before args s = true) {ty : FieldType} {q : Nat} (hw : tables_1[q]? = some (Cond.arrayClass ty)) (hr : ∀ U cA, U.vm.findClass ("[" ++ ty.toString) = some cA → va_RA U cA ty) : ∃ cA : ClassId, ArrOfT s cA ty ∧ va_RA s cA ty := by
  obtain ⟨cA, kA, comp, h1, h2, h3⟩ := Cond.arrayClass_spec (hts _ (List.mem_append_right _ (List.mem_of_getElem? hw)))
  exact ⟨cA, fun n z => ⟨fun k h => (by cases h), kA, h2, comp, h3⟩, hr _ _ h1⟩
theorem lwE_ao : tables_1[80]? = some (Cond.arrayOver (.array .int)) ∧ tables_1[82]? = some (Cond.arrayOver (.object "WordEach$Witness")) ∧ tables_1[500]? = some (Cond.fieldLink "java/lang/String" 38 "java/lang/String" "COMPACT_STRINGS" "Z") ∧ tables_1[501]? = some (Cond.laysStatic "java/lang/String" "COMPACT_STRINGS" "Z") ∧ tables_1[517]? = some (Cond.laysStatic "jdk/internal/util/Preconditions" "SIOOBE_FORMATTER" "Ljava/util/function/BiFunction;") ∧ tables_1[14]? = some (Cond.initialized "java/lang/String") ∧ tables_1[16]? = some (Cond.initialized "jdk/internal/util/Preconditions") := by decide +kernel
theorem lwE_arr {s : State} {args : Array Value} (hts : ∀ w ∈ lw_tbl, w.before args s = true) : ∃ aC : Nat → ClassId, ∀ (k : Nat) (q : ClassId × FieldType), (am_tys aC)[k]? = some q → ArrOfT s q.1 q.2 ∧ va_RA s q.1 q.2 := by
  obtain ⟨a1, a2, a3, a4, a5, -⟩ := kac_ok
  obtain ⟨cI, hI⟩ := lwE_prim hts a2 (fun _ _ h => h)
  obtain ⟨cJ, hJ⟩ := lwE_prim hts a5 (fun _ _ h => h)
  obtain ⟨cB, hB⟩ := lwE_prim hts a1 (fun _ _ h => h)
  obtain ⟨cZ, hZ⟩ := lwE_prim hts a3 (fun _ _ h => h)
  obtain ⟨cC, hC⟩ := lwE_prim hts a4 (fun _ _ h => h)
  obtain ⟨comp, cW, kW, w1, w2, w3, w4, w5⟩ := Cond.arrayOver_spec (hts _ (List.mem_append_right _ (List.mem_of_getElem? lwE_ao.2.1)))
  obtain ⟨comp2, cAA, kAA2, v1, v2, v3, v4, v5⟩ := arrayOverA_spec (hts _ (List.mem_append_right _ (List.mem_of_getElem? lwE_ao.1)))
  refine ⟨fun t => if t = 20 then cI else if t = 21 then cJ else if t = 22 then cB else if t = 23 then cZ else if t = 24 then cC else if t = 25 then cW else cAA, fun k q hq => ?_⟩
  match k, hq with
  | 0, hq => cases hq; exact hI
  | 1, hq => cases hq; exact hJ
  | 2, hq => cases hq; exact hB
  | 3, hq => cases hq; exact hZ
  | 4, hq => cases hq; exact hC
  | 5, hq => cases hq; exact ⟨fun n z => ⟨fun k h => (by cases h), kW, w3, comp, w4⟩, kW, comp, w3, w4, w1, w5⟩
  | 6, hq => cases hq; exact ⟨fun n z => ⟨fun k h => (by cases h), kAA2, v3, comp2, v4⟩, v5⟩
  | k + 7, hq => cases hq
def lwE_fl : List Cond := flatC (Jvm.Cond.and given_1 narrow_1)
def lwE_tm (i : Nat) : Term := match i with
  | 0 => .string "WordEach$CourtReader" 51
  | _ => .string "WordEach$Question" 28
def lwE_q (i : Nat) : Nat := match i with
  | 0 => 9
  | _ => 198
def lwE_v (i : Nat) : Term := .field (lwE_tm i) "java/lang/String" "value" "[B"
theorem lwE_el0 : ((List.range 90).all fun j => decide (lwE_fl[13 + j]? = some (Cond.eq (.elem (lwE_v 0) (.int (Int32.ofNat j))) (.int ((am_strs.getD 0 []).getD j 0))))) = true := by decide +kernel
theorem lwE_el1 : ((List.range 88).all fun j => decide (lwE_fl[202 + j]? = some (Cond.eq (.elem (lwE_v 1) (.int (Int32.ofNat j))) (.int ((am_strs.getD 1 []).getD j 0))))) = true := by decide +kernel
theorem lwE_lens : am_lens.getD 0 0 = 90 ∧ am_lens.getD 1 0 = 88 := by decide +kernel
theorem lwE_hd : ∀ i, i < 2 → lwE_fl[lwE_q i]? = some (Cond.exactly (lwE_tm i) "java/lang/String") ∧ lwE_fl[lwE_q i + 1]? = some (Cond.eq (.field (lwE_tm i) "java/lang/String" "coder" "B") (.int 0)) ∧ lwE_fl[lwE_q i + 2]? = some (Cond.arrayOf (lwE_v i) .byte) ∧ lwE_fl[lwE_q i + 3]? = some (Cond.eq (.length (lwE_v i)) (.int (Int32.ofNat (am_lens.getD i 0)))) := by decide +kernel
theorem lwE_ne : lwE_fl[290]? = some (Cond.not (.eq (lwE_tm 0) (lwE_tm 1))) ∧ lwE_fl[197]? = some (Cond.eq (lwE_tm 0) (.string "WordEach$Tape" 54)) ∧ lwE_fl[4]? = some (Cond.eq (.static "java/lang/String" "COMPACT_STRINGS" "Z") (.int 1)) ∧ lwE_fl[5]? = some (Cond.isRef (.static "jdk/internal/util/Preconditions" "SIOOBE_FORMATTER" "Ljava/util/function/BiFunction;")) := by decide +kernel
theorem lwE_el {i j : Nat} (hi : i < 2) (hj : j < am_lens.getD i 0) : ∃ q : Nat, lwE_fl[q]? = some (Cond.eq (.elem (lwE_v i) (.int (Int32.ofNat j))) (.int ((am_strs.getD i []).getD j 0))) := by
  rcases (show i = 0 ∨ i = 1 by omega) with rfl | rfl
  · exact ⟨_, of_decide_eq_true (List.all_eq_true.mp lwE_el0 j (List.mem_range.mpr (by rw [lwE_lens.1] at hj; exact hj)))⟩
  · exact ⟨_, of_decide_eq_true (List.all_eq_true.mp lwE_el1 j (List.mem_range.mpr (by rw [lwE_lens.2] at hj; exact hj)))⟩
theorem lwE_str {s : State} {args : Array Value} (hgv : (Jvm.Cond.and given_1 narrow_1).before args s = true) {A : Nat → Prop} (hA : ∀ a : Nat, a < s.heap.size → ¬ A a) : ∃ adK adV : Nat → Nat, vk_S 2 am_lens am_strs adK adV A s s.heap ∧ ∀ i : Nat, i < 2 → (lwE_tm i).eval args s none [] s = some (.ref (adK i)) := by
  have hs : ∀ (q : Nat) (w : Cond), lwE_fl[q]? = some w → w.before args s = true := fun q w h => flat_of_before _ hgv w (List.mem_of_getElem? h)
  refine vk_Sof (tm := lwE_tm) (fun i hi => ?_) (fun i hi => hs _ _ (lwE_hd i hi).1) (fun i hi => hs _ _ (lwE_hd i hi).2.1) (fun i hi => hs _ _ (lwE_hd i hi).2.2.1) (fun i hi => hs _ _ (lwE_hd i hi).2.2.2) (fun i hi j hj => ?_) (fun i j hi hj hij => ?_) hA
  · rcases (show i = 0 ∨ i = 1 by omega) with rfl | rfl
    · rw [lwE_lens.1]; decide
    · rw [lwE_lens.2]; decide
  · obtain ⟨q, hq⟩ := lwE_el hi hj
    exact hs _ _ hq
  · have h := hs _ _ lwE_ne.1
    rcases (show i = 0 ∨ i = 1 by omega) with rfl | rfl
    · rcases (show j = 0 ∨ j = 1 by omega) with rfl | rfl
      · exact absurd rfl hij
      · exact Or.inl h
    · rcases (show j = 0 ∨ j = 1 by omega) with rfl | rfl
      · exact Or.inr h
      · exact absurd rfl hij
theorem lwE_refs : tables_1[487]? = some (Cond.stringRef (am_R 3) 51 (am_texts.getD 0 "")) ∧ tables_1[1004]? = some (Cond.stringRef (am_R 6) 28 (am_texts.getD 1 "")) ∧ tables_1[561]? = some (Cond.stringRef (am_R 9) 54 (am_texts.getD 0 "")) := by decide +kernel
/-- THE ENTRY -/
theorem lwE_all {s : State} {args : Array Value} (hts : ∀ w ∈ lw_tbl, w.before args s = true) (hgv : (Jvm.Cond.and given_1 narrow_1).before args s = true) : ∃ (dC : Nat → ClassId) (dI : Nat → Nat → Nat) (aC : Nat → ClassId) (adK adV : Nat → Nat), am_S dC dI aC s.heap.size adK adV s ∧ kS dC dI aC s := by
  obtain ⟨dC, dI, hK⟩ := lwE_cls hts
  obtain ⟨aC, hA⟩ := lwE_arr hts
  have hAA : ∀ a : Nat, a < s.heap.size → ¬ (fun q : Nat => s.heap.size ≤ q) a := fun a h => Nat.not_le.mpr h
  obtain ⟨adK, adV, hV, hE⟩ := lwE_str hgv hAA
  have ht : ∀ (q : Nat) (w : Cond), tables_1[q]? = some w → w.before args s = true := fun q w h => hts w (List.mem_append_right _ (List.mem_of_getElem? h))
  have hs : ∀ (q : Nat) (w : Cond), lwE_fl[q]? = some w → w.before args s = true := fun q w h => flat_of_before _ hgv w (List.mem_of_getElem? h)
  have e0 := hE 0 (by decide)
  have e1 := hE 1 (by decide)
  have e2 := va_eqR (hs _ _ lwE_ne.2.1) e0
  refine ⟨dC, dI, aC, adK, adV, ⟨⟨hK, hA⟩, hV, fun e he => ?_, fun e he => ?_, ?_, ?_⟩, ⟨hK, hA⟩, va_AO.of (ht _ _ lwE_ao.2.1), kAA.of (ht _ _ lwE_ao.1), fun e he => ?_⟩
  · rcases List.mem_cons.mp he with rfl | he
    · exact vk_R.of (ht _ _ lwE_refs.1) e0
    · rcases List.mem_cons.mp he with rfl | he
      · exact vk_R.of (ht _ _ lwE_refs.2.1) e1
      · rcases List.mem_cons.mp he with rfl | he
        · exact vk_R.of (ht _ _ lwE_refs.2.2) e2
        · cases he
  · exact va_Nw.of rfl (ht _ _ (of_decide_eq_true (List.all_eq_true.mp am_nl_ok e he)))
  · exact va_Zof (ht _ _ lwE_ao.2.2.2.1) (ht _ _ lwE_ao.2.2.2.2.2.1) (va_eqi (hs _ _ lwE_ne.2.2.1)) hAA
  · exact va_Zqof (ht _ _ lwE_ao.2.2.2.2.1) (ht _ _ lwE_ao.2.2.2.2.2.2) (hs _ _ lwE_ne.2.2.2) hAA
  · exact va_Nw.of rfl (ht _ _ (of_decide_eq_true (List.all_eq_true.mp knl_ok e he)))
