/-! String.length, String.charAt: walks -/
def sxC_y : MethodName := ⟨"java/lang/String", "coder", "()B"⟩
theorem sxC_tab : tables_1[499]? = some (Cond.code sxC_y prog_17_method_152_code 1 (some .byte)) := by decide +kernel
theorem sxC_0 : decode prog_17_method_152_code 0 = .ok (.getstatic 38, 3) := by decide +kernel
theorem sxC_3 : decode prog_17_method_152_code 3 = .ok (.ifCond .eq 10, 3) := by decide +kernel
theorem sxC_6 : decode prog_17_method_152_code 6 = .ok (.aload_n 0, 1) := by decide +kernel
theorem sxC_7 : decode prog_17_method_152_code 7 = .ok (.getfield 15, 3) := by decide +kernel
theorem sxC_10 : decode prog_17_method_152_code 10 = .ok (.goto 4, 3) := by decide +kernel
theorem sxC_14 : decode prog_17_method_152_code 14 = .ok (.ireturn, 1) := by decide +kernel
def sxI_y : MethodName := ⟨"java/lang/String", "isLatin1", "()Z"⟩
theorem sxI_tab : tables_1[509]? = some (Cond.code sxI_y prog_17_method_154_code 1 (some .boolean)) := by decide +kernel
theorem sxI_0 : decode prog_17_method_154_code 0 = .ok (.getstatic 38, 3) := by decide +kernel
theorem sxI_3 : decode prog_17_method_154_code 3 = .ok (.ifCond .eq 14, 3) := by decide +kernel
theorem sxI_6 : decode prog_17_method_154_code 6 = .ok (.aload_n 0, 1) := by decide +kernel
theorem sxI_7 : decode prog_17_method_154_code 7 = .ok (.getfield 15, 3) := by decide +kernel
theorem sxI_10 : decode prog_17_method_154_code 10 = .ok (.ifCond .ne 7, 3) := by decide +kernel
theorem sxI_13 : decode prog_17_method_154_code 13 = .ok (.iconst 1, 1) := by decide +kernel
theorem sxI_14 : decode prog_17_method_154_code 14 = .ok (.goto 4, 3) := by decide +kernel
theorem sxI_18 : decode prog_17_method_154_code 18 = .ok (.ireturn, 1) := by decide +kernel
def sxP_y : MethodName := ⟨"jdk/internal/util/Preconditions", "checkIndex", "(IILjava/util/function/BiFunction;)I"⟩
theorem sxP_tab : tables_1[520]? = some (Cond.code sxP_y prog_20_method_11_code 3 (some .int)) := by decide +kernel
theorem sxP_0 : decode prog_20_method_11_code 0 = .ok (.iload_n 0, 1) := by decide +kernel
theorem sxP_1 : decode prog_20_method_11_code 1 = .ok (.ifCond .lt 8, 3) := by decide +kernel
theorem sxP_4 : decode prog_20_method_11_code 4 = .ok (.iload_n 0, 1) := by decide +kernel
theorem sxP_5 : decode prog_20_method_11_code 5 = .ok (.iload_n 1, 1) := by decide +kernel
theorem sxP_6 : decode prog_20_method_11_code 6 = .ok (.if_icmp .lt 10, 3) := by decide +kernel
theorem sxP_16 : decode prog_20_method_11_code 16 = .ok (.iload_n 0, 1) := by decide +kernel
theorem sxP_17 : decode prog_20_method_11_code 17 = .ok (.ireturn, 1) := by decide +kernel
def sxK_y : MethodName := ⟨"java/lang/String", "checkIndex", "(II)V"⟩
theorem sxK_tab : tables_1[515]? = some (Cond.code sxK_y prog_17_method_155_code 2 none) := by decide +kernel
theorem sxK_0 : decode prog_17_method_155_code 0 = .ok (.iload_n 0, 1) := by decide +kernel
theorem sxK_1 : decode prog_17_method_155_code 1 = .ok (.iload_n 1, 1) := by decide +kernel
theorem sxK_2 : decode prog_17_method_155_code 2 = .ok (.getstatic 1053, 3) := by decide +kernel
theorem sxK_5 : decode prog_17_method_155_code 5 = .ok (.invokestatic 1059, 3) := by decide +kernel
theorem sxK_8 : decode prog_17_method_155_code 8 = .ok (.pop, 1) := by decide +kernel
theorem sxK_9 : decode prog_17_method_155_code 9 = .ok (.return_, 1) := by decide +kernel
def sxA_y : MethodName := ⟨"java/lang/StringLatin1", "charAt", "([BI)C"⟩
theorem sxA_tab : tables_1[512]? = some (Cond.code sxA_y prog_18_method_2_code 2 (some .char)) := by decide +kernel
theorem sxA_0 : decode prog_18_method_2_code 0 = .ok (.iload_n 1, 1) := by decide +kernel
theorem sxA_1 : decode prog_18_method_2_code 1 = .ok (.aload_n 0, 1) := by decide +kernel
theorem sxA_2 : decode prog_18_method_2_code 2 = .ok (.arraylength, 1) := by decide +kernel
theorem sxA_3 : decode prog_18_method_2_code 3 = .ok (.invokestatic 9, 3) := by decide +kernel
theorem sxA_6 : decode prog_18_method_2_code 6 = .ok (.aload_n 0, 1) := by decide +kernel
theorem sxA_7 : decode prog_18_method_2_code 7 = .ok (.iload_n 1, 1) := by decide +kernel
theorem sxA_8 : decode prog_18_method_2_code 8 = .ok (.baload, 1) := by decide +kernel
theorem sxA_9 : decode prog_18_method_2_code 9 = .ok (.sipush 255, 3) := by decide +kernel
theorem sxA_12 : decode prog_18_method_2_code 12 = .ok (.iand, 1) := by decide +kernel
theorem sxA_13 : decode prog_18_method_2_code 13 = .ok (.i2c, 1) := by decide +kernel
theorem sxA_14 : decode prog_18_method_2_code 14 = .ok (.ireturn, 1) := by decide +kernel
theorem sxL_tab : tables_1[495]? = some (Cond.code am_yL prog_17_method_54_code 1 (some .int)) := by decide +kernel
theorem sxL_0 : decode prog_17_method_54_code 0 = .ok (.aload_n 0, 1) := by decide +kernel
theorem sxL_1 : decode prog_17_method_54_code 1 = .ok (.getfield 9, 3) := by decide +kernel
theorem sxL_4 : decode prog_17_method_54_code 4 = .ok (.arraylength, 1) := by decide +kernel
theorem sxL_5 : decode prog_17_method_54_code 5 = .ok (.aload_n 0, 1) := by decide +kernel
theorem sxL_6 : decode prog_17_method_54_code 6 = .ok (.invokevirtual 335, 3) := by decide +kernel
theorem sxL_9 : decode prog_17_method_54_code 9 = .ok (.ishr, 1) := by decide +kernel
theorem sxL_10 : decode prog_17_method_54_code 10 = .ok (.ireturn, 1) := by decide +kernel
theorem sxT_tab : tables_1[505]? = some (Cond.code am_yA prog_17_method_56_code 2 (some .char)) := by decide +kernel
theorem sxT_0 : decode prog_17_method_56_code 0 = .ok (.aload_n 0, 1) := by decide +kernel
theorem sxT_1 : decode prog_17_method_56_code 1 = .ok (.invokevirtual 492, 3) := by decide +kernel
theorem sxT_4 : decode prog_17_method_56_code 4 = .ok (.ifCond .eq 12, 3) := by decide +kernel
theorem sxT_7 : decode prog_17_method_56_code 7 = .ok (.aload_n 0, 1) := by decide +kernel
theorem sxT_8 : decode prog_17_method_56_code 8 = .ok (.getfield 9, 3) := by decide +kernel
theorem sxT_11 : decode prog_17_method_56_code 11 = .ok (.iload_n 1, 1) := by decide +kernel
theorem sxT_12 : decode prog_17_method_56_code 12 = .ok (.invokestatic 495, 3) := by decide +kernel
theorem sxT_15 : decode prog_17_method_56_code 15 = .ok (.ireturn, 1) := by decide +kernel
def sx_rA : Room := { frames := 1, cells := 0, slots := 0, locals := 12 }
def sx_rB : Room := { frames := 2, cells := 0, slots := 0, locals := 40 }
def sx_rC : Room := { frames := 3, cells := 0, slots := 0, locals := 70 }
theorem sx_in {w0 w : Cond} {q : Nat} (h : tables_1[q]? = some w) (hg : goodWord w = true) : w ∈ w0 :: am_good := List.mem_cons_of_mem _ (List.mem_filter.mpr ⟨List.mem_append_right _ (List.mem_of_getElem? h), hg⟩)
theorem sx_good {w0 w1 : Cond} {q : Nat} (h : tables_1[q]? = some w1) (hg : goodWord w1 = true) : GoodIn (w0 :: am_good) (w1 :: am_good) := by
  intro w hw
  rcases List.mem_cons.mp hw with rfl | hw
  · exact ⟨sx_in h hg, good_of_word hg⟩
  · exact ⟨List.mem_cons_of_mem _ hw, good_of_word (List.mem_filter.mp hw).2⟩
theorem sx_w_links : tables_1[500]? = some (Cond.fieldLink "java/lang/String" 38 "java/lang/String" "COMPACT_STRINGS" "Z") ∧ tables_1[2020]? = some (Cond.fieldLink "java/lang/String" 9 "java/lang/String" "value" "[B") ∧ tables_1[2021]? = some (Cond.fieldLink "java/lang/String" 15 "java/lang/String" "coder" "B") ∧ tables_1[516]? = some (Cond.fieldLink "java/lang/String" 1053 "jdk/internal/util/Preconditions" "SIOOBE_FORMATTER" "Ljava/util/function/BiFunction;") := by decide +kernel
theorem sx_w_calls : tables_1[496]? = some (Cond.methodLink "java/lang/String" 335 sxC_y) ∧ tables_1[497]? = some (Cond.instanceMethod sxC_y) ∧ tables_1[498]? = some (Cond.selects "java/lang/String" sxC_y sxC_y) ∧ tables_1[506]? = some (Cond.methodLink "java/lang/String" 492 sxI_y) ∧ tables_1[507]? = some (Cond.instanceMethod sxI_y) ∧ tables_1[508]? = some (Cond.selects "java/lang/String" sxI_y sxI_y) ∧ tables_1[510]? = some (Cond.methodLink "java/lang/String" 495 sxA_y) ∧ tables_1[511]? = some (Cond.static sxA_y) ∧ tables_1[513]? = some (Cond.methodLink "java/lang/StringLatin1" 9 sxK_y) ∧ tables_1[514]? = some (Cond.static sxK_y) ∧ tables_1[518]? = some (Cond.methodLink "java/lang/String" 1059 sxP_y) ∧ tables_1[519]? = some (Cond.static sxP_y) := by decide +kernel
theorem sx_w_inits : tables_1[14]? = some (Cond.initialized "java/lang/String") ∧ tables_1[15]? = some (Cond.initialized "java/lang/StringLatin1") ∧ tables_1[16]? = some (Cond.initialized "jdk/internal/util/Preconditions") := by decide +kernel

section SX
variable {l : Launch} {dC : Nat → ClassId} {dI : Nat → Nat → Nat} {aC : Nat → ClassId} {base : Nat} {adK adV : Nat → Nat}
set_option maxHeartbeats 4000000 in
set_option maxRecDepth 100000 in
theorem sxC_met {i : Nat} (hi : i < 2) : Met l sxC_y (Cond.code sxC_y prog_17_method_152_code 1 (some .byte) :: am_good) sx_rA (am_PcS dC dI aC base adK adV i []) (QcRead 0) 0 0 (fun _ => False) := by
  refine Met.ofW (cc := prog_17_method_152_code) (maxL := 1) (ret := (some .byte)) (by decide) rfl ?_
  intro p e s m args below meth c s₁ B hml hv
  obtain ⟨rfl, hS⟩ := hv
  have hx := B.exec
  have hb := B.bytes
  have hr := B.returns
  have hts := atoms_spec (ws := Cond.code sxC_y prog_17_method_152_code 1 (some .byte) :: am_good) B.pre
  have hown : s.vm.findClass "java/lang/String" = some m.cls := findClass_of_methodNamed B.named
  have hlocks := B.notSynchronized
  have hV : va_S (fun q => base ≤ q) s.heap s.heap [] := va_S.rf
  have hl := lv_entry ([.ref (adK i)]) (n := 1) (Nat.le_of_ble_eq_true rfl)
  rw [lg_entry_eq]
  generalize (lg_sl ([.ref (adK i)]) ++ List.replicate (1 - (lg_sl ([.ref (adK i)])).length) Slot.unset).toArray = ls at hl ⊢
  have hl : lv_has ls 1 [(0, .ref (adK i))] := hl
  refine va_gets hx hb hS.2.2.2.2.1 hV hown (hts _ (sx_in sx_w_links.1 rfl)) (fun _ h => h) sxC_0 ?_
  refine lv_if_eq (tgt := 13) hx hb sxC_3 (by decide) (fun q => absurd q (by decide)) (fun _ => ?_)
  refine lv_aload_n hx hb sxC_6 rfl (lv_at hl 0 rfl) ?_
  refine vk_getf hx hb (hS.2.1.1 i hi).2.1 hV hown (hts _ (sx_in sx_w_links.2.2.1 rfl)) (fun _ h => h) sxC_7 ?_
  refine lv_goto (tgt := 14) hx hb sxC_10 (by decide) ?_
  exact W.zret (ty := .byte) hx hb hr rfl (fun t ht hW => ⟨rfl, ht⟩) (fun q h => by cases h) sxC_14
set_option maxHeartbeats 4000000 in
set_option maxRecDepth 100000 in
theorem sxI_met {i : Nat} (hi : i < 2) : Met l sxI_y (Cond.code sxI_y prog_17_method_154_code 1 (some .boolean) :: am_good) sx_rA (am_PcS dC dI aC base adK adV i []) (QcRead 1) 0 0 (fun _ => False) := by
  refine Met.ofW (cc := prog_17_method_154_code) (maxL := 1) (ret := (some .boolean)) (by decide) rfl ?_
  intro p e s m args below meth c s₁ B hml hv
  obtain ⟨rfl, hS⟩ := hv
  have hx := B.exec
  have hb := B.bytes
  have hr := B.returns
  have hts := atoms_spec (ws := Cond.code sxI_y prog_17_method_154_code 1 (some .boolean) :: am_good) B.pre
  have hown : s.vm.findClass "java/lang/String" = some m.cls := findClass_of_methodNamed B.named
  have hlocks := B.notSynchronized
  have hV : va_S (fun q => base ≤ q) s.heap s.heap [] := va_S.rf
  have hl := lv_entry ([.ref (adK i)]) (n := 1) (Nat.le_of_ble_eq_true rfl)
  rw [lg_entry_eq]
  generalize (lg_sl ([.ref (adK i)]) ++ List.replicate (1 - (lg_sl ([.ref (adK i)])).length) Slot.unset).toArray = ls at hl ⊢
  have hl : lv_has ls 1 [(0, .ref (adK i))] := hl
  refine va_gets hx hb hS.2.2.2.2.1 hV hown (hts _ (sx_in sx_w_links.1 rfl)) (fun _ h => h) sxI_0 ?_
  refine lv_if_eq (tgt := 17) hx hb sxI_3 (by decide) (fun q => absurd q (by decide)) (fun _ => ?_)
  refine lv_aload_n hx hb sxI_6 rfl (lv_at hl 0 rfl) ?_
  refine vk_getf hx hb (hS.2.1.1 i hi).2.1 hV hown (hts _ (sx_in sx_w_links.2.2.1 rfl)) (fun _ h => h) sxI_7 ?_
  refine lv_if_ne (tgt := 17) hx hb sxI_10 (by decide) (fun q => absurd rfl q) (fun _ => ?_)
  refine lv_iconst (v := 1) hx hb sxI_13 (by decide) ?_
  refine lv_goto (tgt := 18) hx hb sxI_14 (by decide) ?_
  exact W.zret (ty := .boolean) hx hb hr rfl (fun t ht hW => ⟨rfl, ht⟩) (fun q h => by cases h) sxI_18
def sx_Pc (dC : Nat → ClassId) (dI : Nat → Nat → Nat) (aC : Nat → ClassId) (base : Nat) (adK adV : Nat → Nat) (as : List Value) : Array Value → State → Prop := va_Pc as (fun U => am_S dC dI aC base adK adV U)
theorem sx_Pc_blind (as : List Value) : FrameBlind (sx_Pc dC dI aC base adK adV as) := fun _ _ _ _ q => ⟨q.1, am_S_calling q.2⟩
set_option maxHeartbeats 4000000 in
set_option maxRecDepth 100000 in
theorem sxP_metn {j n : Int32} (h0 : ¬ j < 0) (h1 : j < n) : Met l sxP_y (Cond.code sxP_y prog_20_method_11_code 3 (some .int) :: am_good) sx_rA (sx_Pc dC dI aC base adK adV [.int j, .int n, .null]) (QcRead j) 0 0 (fun _ => False) := by
  refine Met.ofW (cc := prog_20_method_11_code) (maxL := 3) (ret := (some .int)) (by decide) rfl ?_
  intro p e s m args below meth c s₁ B hml hv
  obtain ⟨rfl, hS⟩ := hv
  have hx := B.exec
  have hb := B.bytes
  have hr := B.returns
  have hts := atoms_spec (ws := Cond.code sxP_y prog_20_method_11_code 3 (some .int) :: am_good) B.pre
  have hown : s.vm.findClass "jdk/internal/util/Preconditions" = some m.cls := findClass_of_methodNamed B.named
  have hlocks := B.notSynchronized
  have hV : va_S (fun q => base ≤ q) s.heap s.heap [] := va_S.rf
  have hl := lv_entry ([.int j, .int n, .null]) (n := 3) (Nat.le_of_ble_eq_true rfl)
  rw [lg_entry_eq]
  generalize (lg_sl ([.int j, .int n, .null]) ++ List.replicate (3 - (lg_sl ([.int j, .int n, .null])).length) Slot.unset).toArray = ls at hl ⊢
  have hl : lv_has ls 3 [(0, .int j), (1, .int n), (2, .null)] := hl
  refine lv_iload_n hx hb sxP_0 rfl (lv_at hl 0 rfl) ?_
  refine lv_if_lt (tgt := 9) hx hb sxP_1 (by decide) (fun q => absurd q h0) (fun _ => ?_)
  refine lv_iload_n hx hb sxP_4 rfl (lv_at hl 0 rfl) ?_
  refine lv_iload_n hx hb sxP_5 rfl (lv_at hl 1 rfl) ?_
  refine lv_icmp_lt (tgt := 16) hx hb sxP_6 (by decide) (fun _ => ?_) (fun q => absurd h1 q)
  refine lv_iload_n hx hb sxP_16 rfl (lv_at hl 0 rfl) ?_
  exact W.iret hx hb hr (fun t ht hW => ⟨rfl, ht⟩) (fun q h => by cases h) sxP_17
set_option maxHeartbeats 4000000 in
set_option maxRecDepth 100000 in
theorem sxP_metr {t : Nat} {j n : Int32} (h0 : ¬ j < 0) (h1 : j < n) : Met l sxP_y (Cond.code sxP_y prog_20_method_11_code 3 (some .int) :: am_good) sx_rA (sx_Pc dC dI aC base adK adV [.int j, .int n, .ref t]) (QcRead j) 0 0 (fun _ => False) := by
  refine Met.ofW (cc := prog_20_method_11_code) (maxL := 3) (ret := (some .int)) (by decide) rfl ?_
  intro p e s m args below meth c s₁ B hml hv
  obtain ⟨rfl, hS⟩ := hv
  have hx := B.exec
  have hb := B.bytes
  have hr := B.returns
  have hts := atoms_spec (ws := Cond.code sxP_y prog_20_method_11_code 3 (some .int) :: am_good) B.pre
  have hown : s.vm.findClass "jdk/internal/util/Preconditions" = some m.cls := findClass_of_methodNamed B.named
  have hlocks := B.notSynchronized
  have hV : va_S (fun q => base ≤ q) s.heap s.heap [] := va_S.rf
  have hl := lv_entry ([.int j, .int n, .ref t]) (n := 3) (Nat.le_of_ble_eq_true rfl)
  rw [lg_entry_eq]
  generalize (lg_sl ([.int j, .int n, .ref t]) ++ List.replicate (3 - (lg_sl ([.int j, .int n, .ref t])).length) Slot.unset).toArray = ls at hl ⊢
  have hl : lv_has ls 3 [(0, .int j), (1, .int n), (2, .ref t)] := hl
  refine lv_iload_n hx hb sxP_0 rfl (lv_at hl 0 rfl) ?_
  refine lv_if_lt (tgt := 9) hx hb sxP_1 (by decide) (fun q => absurd q h0) (fun _ => ?_)
  refine lv_iload_n hx hb sxP_4 rfl (lv_at hl 0 rfl) ?_
  refine lv_iload_n hx hb sxP_5 rfl (lv_at hl 1 rfl) ?_
  refine lv_icmp_lt (tgt := 16) hx hb sxP_6 (by decide) (fun _ => ?_) (fun q => absurd h1 q)
  refine lv_iload_n hx hb sxP_16 rfl (lv_at hl 0 rfl) ?_
  exact W.iret hx hb hr (fun t ht hW => ⟨rfl, ht⟩) (fun q h => by cases h) sxP_17
set_option maxHeartbeats 4000000 in
set_option maxRecDepth 100000 in
theorem sxK_met {j n : Int32} (h0 : ¬ j < 0) (h1 : j < n) : Met l sxK_y (Cond.code sxK_y prog_17_method_155_code 2 none :: am_good) sx_rB (sx_Pc dC dI aC base adK adV [.int j, .int n]) (va_Sv (fun _ => True)) 0 0 (fun _ => False) := by
  refine Met.ofW (cc := prog_17_method_155_code) (maxL := 2) (ret := none) (by decide) rfl ?_
  intro p e s m args below meth c s₁ B hml hv
  obtain ⟨rfl, hS⟩ := hv
  have hx := B.exec
  have hb := B.bytes
  have hr := B.returns
  have hts := atoms_spec (ws := Cond.code sxK_y prog_17_method_155_code 2 none :: am_good) B.pre
  have hown : s.vm.findClass "java/lang/String" = some m.cls := findClass_of_methodNamed B.named
  have hlocks := B.notSynchronized
  have hV : va_S (fun q => base ≤ q) s.heap s.heap [] := va_S.rf
  have hl := lv_entry ([.int j, .int n]) (n := 2) (Nat.le_of_ble_eq_true rfl)
  rw [lg_entry_eq]
  generalize (lg_sl ([.int j, .int n]) ++ List.replicate (2 - (lg_sl ([.int j, .int n])).length) Slot.unset).toArray = ls at hl ⊢
  have hl : lv_has ls 2 [(0, .int j), (1, .int n)] := hl
  refine lv_iload_n hx hb sxK_0 rfl (lv_at hl 0 rfl) ?_
  refine lv_iload_n hx hb sxK_1 rfl (lv_at hl 1 rfl) ?_
  have fin : W p l e (headSpec (Cond.code sxK_y prog_17_method_155_code 2 none :: am_good) sx_rB).room s m ([.int j, .int n] : List Value).toArray below meth c s.heap [] 0 0 (MQ below (va_Sv (fun _ => True)) ([.int j, .int n] : List Value).toArray s 0 0 (fun _ => False)) (F0 m (5 + 3) ls [.int j]) := by
    refine lv_pop hx hb sxK_8 rfl ?_
    exact W.vret hx hb hr (fun t ht hW => ⟨rfl, trivial, ht⟩) (fun q h => by cases h) sxK_9
  rcases id hS.2.2.2.2.2 with hZ | ⟨t, hZ⟩
  · refine va_gets hx hb hZ hV hown (hts _ (sx_in sx_w_links.2.2.2 rfl)) (fun _ h => h) sxK_2 ?_
    refine W.callR (W.runS (As := [.int j, .int n, .null]) (rest := []) ⟨hx, hb, hml, hown, hts⟩ (sxP_metn h0 h1) ⟨⟨rfl, rfl, Nat.le_of_ble_eq_true rfl, Nat.le_of_ble_eq_true rfl, pay_in hts (sx_good sxP_tab rfl), List.mem_cons_self, hts _ (sx_in sxP_tab rfl), hts _ (sx_in sx_w_inits.2.2 rfl), by decide, fun sig hs => ?_, hts _ (sx_in sx_w_calls.2.2.2.2.2.2.2.2.2.2.1 rfl)⟩, hts _ (sx_in sx_w_calls.2.2.2.2.2.2.2.2.2.2.2 rfl)⟩ ⟨sx_Pc_blind _, fun U hU hW => ⟨rfl, am_S_moved hS hV hU hW⟩⟩ rfl rfl hl.1 rfl (lv_room (Nat.le_of_ble_eq_true rfl)) sxK_5 ⟨Nat.le_refl _, Nat.le_refl _⟩) ?_
    · have e : (parseMethodDescriptor sxP_y.desc).map (fun d => d.parameters.length) = some 3 := by decide +kernel
      rw [hs] at e
      exact (Option.some.inj e).symm
    exact fin
  · refine va_gets hx hb hZ hV hown (hts _ (sx_in sx_w_links.2.2.2 rfl)) (fun _ h => h) sxK_2 ?_
    refine W.callR (W.runS (As := [.int j, .int n, .ref t]) (rest := []) ⟨hx, hb, hml, hown, hts⟩ (sxP_metr (t := t) h0 h1) ⟨⟨rfl, rfl, Nat.le_of_ble_eq_true rfl, Nat.le_of_ble_eq_true rfl, pay_in hts (sx_good sxP_tab rfl), List.mem_cons_self, hts _ (sx_in sxP_tab rfl), hts _ (sx_in sx_w_inits.2.2 rfl), by decide, fun sig hs => ?_, hts _ (sx_in sx_w_calls.2.2.2.2.2.2.2.2.2.2.1 rfl)⟩, hts _ (sx_in sx_w_calls.2.2.2.2.2.2.2.2.2.2.2 rfl)⟩ ⟨sx_Pc_blind _, fun U hU hW => ⟨rfl, am_S_moved hS hV hU hW⟩⟩ rfl rfl hl.1 rfl (lv_room (Nat.le_of_ble_eq_true rfl)) sxK_5 ⟨Nat.le_refl _, Nat.le_refl _⟩) ?_
    · have e : (parseMethodDescriptor sxP_y.desc).map (fun d => d.parameters.length) = some 3 := by decide +kernel
      rw [hs] at e
      exact (Option.some.inj e).symm
    exact fin
theorem sx_lens : ∀ i, i < 2 → Int32.ofNat (am_lens.getD i 0) = Int32.ofNat (am_str i).length ∧ (am_str i).length = am_lens.getD i 0 ∧ am_lens.getD i 0 < 2 ^ 31 ∧ (am_strs.getD i []) = am_str i := by
  intro i hi
  rcases (show i = 0 ∨ i = 1 by omega) with rfl | rfl <;> exact ⟨rfl, rfl, by decide +kernel, rfl⟩
def sx_okc (v : Int32) : Bool := decide ((((v &&& 255).toUInt32 % 65536).toInt32 = v)) && decide (narrow .char (.int v) = .int v)
theorem sx_chars : ∀ i, i < 2 → (am_str i).all sx_okc = true := by
  intro i hi
  rcases (show i = 0 ∨ i = 1 by omega) with rfl | rfl <;> decide +kernel
theorem sx_char {i : Nat} (hi : i < 2) {j : Nat} (hj : j < (am_str i).length) : ((((am_str i).getD j 0) &&& 255).toUInt32 % 65536).toInt32 = (am_str i).getD j 0 ∧ narrow .char (.int ((am_str i).getD j 0)) = .int ((am_str i).getD j 0) := by
  have h := List.all_eq_true.mp (sx_chars i hi) ((am_str i).getD j 0) (by rw [List.getD_eq_getElem?_getD, List.getElem?_eq_getElem hj]; exact List.getElem_mem hj)
  unfold sx_okc at h
  rw [Bool.and_eq_true] at h
  exact ⟨of_decide_eq_true h.1, of_decide_eq_true h.2⟩
theorem sx_lt {j : Int32} {n : Nat} (hn : n < 2 ^ 31) (h0 : ¬ j < 0) (h : j.toNatClampNeg < n) : j < Int32.ofNat n := by
  rw [Int32.lt_iff_toInt_lt] at h0 ⊢
  rw [Int32.toInt_ofNat_of_lt hn]
  have e : (0 : Int32).toInt = 0 := rfl
  rw [e] at h0
  have h2 : j.toInt.toNat < n := h
  omega
set_option maxHeartbeats 4000000 in
set_option maxRecDepth 100000 in
theorem sxA_met {i : Nat} (hi : i < 2) {j : Int32} (hj : ¬ (j < 0 ∨ (am_str i).length ≤ j.toNatClampNeg)) : Met l sxA_y (Cond.code sxA_y prog_18_method_2_code 2 (some .char) :: am_good) sx_rC (sx_Pc dC dI aC base adK adV [.ref (adV i), .int j]) (QcRead ((am_str i).getD j.toNatClampNeg 0)) 0 0 (fun _ => False) := by
  refine Met.ofW (cc := prog_18_method_2_code) (maxL := 2) (ret := (some .char)) (by decide) rfl ?_
  intro p e s m args below meth c s₁ B hml hv
  obtain ⟨rfl, hS⟩ := hv
  have hx := B.exec
  have hb := B.bytes
  have hr := B.returns
  have hts := atoms_spec (ws := Cond.code sxA_y prog_18_method_2_code 2 (some .char) :: am_good) B.pre
  have hown : s.vm.findClass "java/lang/StringLatin1" = some m.cls := findClass_of_methodNamed B.named
  have hlocks := B.notSynchronized
  have hV : va_S (fun q => base ≤ q) s.heap s.heap [] := va_S.rf
  have hl := lv_entry ([.ref (adV i), .int j]) (n := 2) (Nat.le_of_ble_eq_true rfl)
  rw [lg_entry_eq]
  generalize (lg_sl ([.ref (adV i), .int j]) ++ List.replicate (2 - (lg_sl ([.ref (adV i), .int j])).length) Slot.unset).toArray = ls at hl ⊢
  have hl : lv_has ls 2 [(0, .ref (adV i)), (1, .int j)] := hl
  have h0 : ¬ j < 0 := fun q => hj (Or.inl q)
  have hlt : j.toNatClampNeg < (am_str i).length := Nat.not_le.mp fun q => hj (Or.inr q)
  obtain ⟨e1, e2, e3, e4⟩ := sx_lens i hi
  have hT := (hS.2.1.1 i hi).2.2.2
  refine lv_iload_n hx hb sxA_0 rfl (lv_at hl 1 rfl) ?_
  refine lv_aload_n hx hb sxA_1 rfl (lv_at hl 0 rfl) ?_
  refine va_tlen hx hb hT hV rfl sxA_2 ?_
  refine va_csv (W.runS (As := [.int j, .int (Int32.ofNat (am_lens.getD i 0))]) (rest := []) ⟨hx, hb, hml, hown, hts⟩ (sxK_met h0 (sx_lt e3 h0 (by rw [← e2]; exact hlt))) ⟨⟨rfl, rfl, Nat.le_of_ble_eq_true rfl, Nat.le_of_ble_eq_true rfl, pay_in hts (sx_good sxK_tab rfl), List.mem_cons_self, hts _ (sx_in sxK_tab rfl), hts _ (sx_in sx_w_inits.1 rfl), by decide, fun sig hs => ?_, hts _ (sx_in sx_w_calls.2.2.2.2.2.2.2.2.1 rfl)⟩, hts _ (sx_in sx_w_calls.2.2.2.2.2.2.2.2.2.1 rfl)⟩ ⟨sx_Pc_blind _, fun U hU hW => ⟨rfl, am_S_moved hS hV hU hW⟩⟩ rfl rfl hl.1 rfl (lv_room (Nat.le_of_ble_eq_true rfl)) sxA_3 ⟨Nat.le_refl _, Nat.le_refl _⟩) (fun _ => ?_)
  · have e : (parseMethodDescriptor sxK_y.desc).map (fun d => d.parameters.length) = some 2 := by decide +kernel
    rw [hs] at e
    exact (Option.some.inj e).symm
  refine lv_aload_n hx hb sxA_6 rfl (lv_at hl 0 rfl) ?_
  refine lv_iload_n hx hb sxA_7 rfl (lv_at hl 1 rfl) ?_
  refine va_tb (v := .int ((am_str i).getD j.toNatClampNeg 0)) hx hb hT hV (fun q => hj (q.imp id (fun q => by rw [e2]; exact q))) (by rw [e4]) sxA_8 ?_
  refine lv_sipush (v := 255) hx hb sxA_9 (by decide) ?_
  refine lv_iand hx hb sxA_12 ?_
  refine lv_i2c hx hb sxA_13 (sx_char hi hlt).1 ?_
  exact W.zret (ty := .char) hx hb hr (sx_char hi hlt).2 (fun t ht hW => ⟨rfl, ht⟩) (fun q h => by cases h) sxA_14
set_option maxHeartbeats 4000000 in
set_option maxRecDepth 100000 in
theorem sxL_met : am_SL l dC dI aC base adK adV := by
  intro i hi
  refine Met.ofW (cc := prog_17_method_54_code) (maxL := 1) (ret := (some .int)) (by decide) rfl ?_
  intro p e s m args below meth c s₁ B hml hv
  obtain ⟨rfl, hS⟩ := hv
  have hx := B.exec
  have hb := B.bytes
  have hr := B.returns
  have hts := atoms_spec (ws := Cond.code am_yL prog_17_method_54_code 1 (some .int) :: am_good) B.pre
  have hown : s.vm.findClass "java/lang/String" = some m.cls := findClass_of_methodNamed B.named
  have hlocks := B.notSynchronized
  have hV : va_S (fun q => base ≤ q) s.heap s.heap [] := va_S.rf
  have hl := lv_entry ([.ref (adK i)]) (n := 1) (Nat.le_of_ble_eq_true rfl)
  rw [lg_entry_eq]
  generalize (lg_sl ([.ref (adK i)]) ++ List.replicate (1 - (lg_sl ([.ref (adK i)])).length) Slot.unset).toArray = ls at hl ⊢
  have hl : lv_has ls 1 [(0, .ref (adK i))] := hl
  refine lv_aload_n hx hb sxL_0 rfl (lv_at hl 0 rfl) ?_
  refine vk_getf hx hb (hS.2.1.1 i hi).2.2.1 hV hown (hts _ (sx_in sx_w_links.2.1 rfl)) (fun _ h => h) sxL_1 ?_
  refine va_tlen hx hb (hS.2.1.1 i hi).2.2.2 hV (sx_lens i hi).1 sxL_4 ?_
  refine lv_aload_n hx hb sxL_5 rfl (lv_at hl 0 rfl) ?_
  refine W.callR (W.runV (C := "java/lang/String") (b := adK i) (As := []) (rest := [.int (Int32.ofNat (am_str i).length)]) ⟨hx, hb, hml, hown, hts⟩ (sxC_met hi) ⟨⟨rfl, rfl, Nat.le_of_ble_eq_true rfl, Nat.le_of_ble_eq_true rfl, pay_in hts (sx_good sxC_tab rfl), List.mem_cons_self, hts _ (sx_in sxC_tab rfl), hts _ (sx_in sx_w_inits.1 rfl), by decide, fun sig hs => ?_, hts _ (sx_in sx_w_calls.1 rfl)⟩, hts _ (sx_in sx_w_calls.2.1 rfl), hts _ (sx_in sx_w_calls.2.2.1 rfl)⟩ ⟨am_PcS_blind _ _ _ _ _ _ _ _, vk_recv hS.2.1 hi hV, fun U hU hW => ⟨rfl, am_S_moved hS hV hU hW⟩⟩ rfl rfl hl.1 rfl (lv_room (Nat.le_of_ble_eq_true rfl)) sxL_6 ⟨Nat.le_refl _, Nat.le_refl _⟩) ?_
  · have e : (parseMethodDescriptor sxC_y.desc).map (fun d => d.parameters.length) = some 0 := by decide +kernel
    rw [hs] at e
    exact (Option.some.inj e).symm
  refine lv_ishr hx hb sxL_9 ?_
  refine W.eq (g2 := F0 m 10 ls [.int (Int32.ofNat (am_str i).length)]) (by rw [show (Int32.ofNat (am_str i).length) >>> ((0 : Int32) &&& 31) = Int32.ofNat (am_str i).length by rcases (show i = 0 ∨ i = 1 by omega) with rfl | rfl <;> decide +kernel]) ?_
  exact W.iret hx hb hr (fun t ht hW => ⟨rfl, ht⟩) (fun q h => by cases h) sxL_10
set_option maxHeartbeats 4000000 in
set_option maxRecDepth 100000 in
theorem sxT_met : am_SA l dC dI aC base adK adV := by
  intro i j hi hj
  refine Met.ofW (cc := prog_17_method_56_code) (maxL := 2) (ret := (some .char)) (by decide) rfl ?_
  intro p e s m args below meth c s₁ B hml hv
  obtain ⟨rfl, hS⟩ := hv
  have hx := B.exec
  have hb := B.bytes
  have hr := B.returns
  have hts := atoms_spec (ws := Cond.code am_yA prog_17_method_56_code 2 (some .char) :: am_good) B.pre
  have hown : s.vm.findClass "java/lang/String" = some m.cls := findClass_of_methodNamed B.named
  have hlocks := B.notSynchronized
  have hV : va_S (fun q => base ≤ q) s.heap s.heap [] := va_S.rf
  have hl := lv_entry ([.ref (adK i), .int j]) (n := 2) (Nat.le_of_ble_eq_true rfl)
  rw [lg_entry_eq]
  generalize (lg_sl ([.ref (adK i), .int j]) ++ List.replicate (2 - (lg_sl ([.ref (adK i), .int j])).length) Slot.unset).toArray = ls at hl ⊢
  have hl : lv_has ls 2 [(0, .ref (adK i)), (1, .int j)] := hl
  have hlt : j.toNatClampNeg < (am_str i).length := Nat.not_le.mp fun q => hj (Or.inr q)
  refine lv_aload_n hx hb sxT_0 rfl (lv_at hl 0 rfl) ?_
  refine W.callR (W.runV (C := "java/lang/String") (b := adK i) (As := []) (rest := []) ⟨hx, hb, hml, hown, hts⟩ (sxI_met hi) ⟨⟨rfl, rfl, Nat.le_of_ble_eq_true rfl, Nat.le_of_ble_eq_true rfl, pay_in hts (sx_good sxI_tab rfl), List.mem_cons_self, hts _ (sx_in sxI_tab rfl), hts _ (sx_in sx_w_inits.1 rfl), by decide, fun sig hs => ?_, hts _ (sx_in sx_w_calls.2.2.2.1 rfl)⟩, hts _ (sx_in sx_w_calls.2.2.2.2.1 rfl), hts _ (sx_in sx_w_calls.2.2.2.2.2.1 rfl)⟩ ⟨am_PcS_blind _ _ _ _ _ _ _ _, vk_recv hS.2.1 hi hV, fun U hU hW => ⟨rfl, am_S_moved hS hV hU hW⟩⟩ rfl rfl hl.1 rfl (lv_room (Nat.le_of_ble_eq_true rfl)) sxT_1 ⟨Nat.le_refl _, Nat.le_refl _⟩) ?_
  · have e : (parseMethodDescriptor sxI_y.desc).map (fun d => d.parameters.length) = some 0 := by decide +kernel
    rw [hs] at e
    exact (Option.some.inj e).symm
  refine W.eq (g2 := F0 m 4 ls [.int 1]) rfl ?_
  refine lv_if_eq (tgt := 16) hx hb sxT_4 (by decide) (fun q => absurd q (by decide)) (fun _ => ?_)
  refine lv_aload_n hx hb sxT_7 rfl (lv_at hl 0 rfl) ?_
  refine vk_getf hx hb (hS.2.1.1 i hi).2.2.1 hV hown (hts _ (sx_in sx_w_links.2.1 rfl)) (fun _ h => h) sxT_8 ?_
  refine lv_iload_n hx hb sxT_11 rfl (lv_at hl 1 rfl) ?_
  refine W.callR (W.runS (As := [.ref (adV i), .int j]) (rest := []) ⟨hx, hb, hml, hown, hts⟩ (sxA_met hi hj) ⟨⟨rfl, rfl, Nat.le_of_ble_eq_true rfl, Nat.le_of_ble_eq_true rfl, pay_in hts (sx_good sxA_tab rfl), List.mem_cons_self, hts _ (sx_in sxA_tab rfl), hts _ (sx_in sx_w_inits.2.1 rfl), by decide, fun sig hs => ?_, hts _ (sx_in sx_w_calls.2.2.2.2.2.2.1 rfl)⟩, hts _ (sx_in sx_w_calls.2.2.2.2.2.2.2.1 rfl)⟩ ⟨sx_Pc_blind _, fun U hU hW => ⟨rfl, am_S_moved hS hV hU hW⟩⟩ rfl rfl hl.1 rfl (lv_room (Nat.le_of_ble_eq_true rfl)) sxT_12 ⟨Nat.le_refl _, Nat.le_refl _⟩) ?_
  · have e : (parseMethodDescriptor sxA_y.desc).map (fun d => d.parameters.length) = some 2 := by decide +kernel
    rw [hs] at e
    exact (Option.some.inj e).symm
  exact W.zret (ty := .char) hx hb hr (sx_char hi hlt).2 (fun t ht hW => ⟨rfl, ht⟩) (fun q h => by cases h) sxT_15
end SX
