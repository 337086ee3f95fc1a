/-! the small machine is sound: contexts -/
/-- methods that are walked (Math's own aren't) -/
def am_yok (y : Nat) : Prop := y < 300 ∧ ¬ (294 ≤ y ∧ y ≤ 298)
def am_loc (m : Nat) : Bool := (am_prog m).all fun o => match o.1 with
  | .istore _ => Nat.blt o.2.1 (am_head m).2.1
  | .istore_n _ => Nat.blt o.2.1 (am_head m).2.1
  | .astore _ => Nat.blt o.2.1 (am_head m).2.1
  | .astore_n _ => Nat.blt o.2.1 (am_head m).2.1
  | .lstore _ => Nat.blt (o.2.1 + 1) (am_head m).2.1
  | .lstore_n _ => Nat.blt (o.2.1 + 1) (am_head m).2.1
  | _ => true
theorem am_ld_lt : ∀ (ls : ml) (i : Nat) (v : mv), am_ld ls i = some v → i < ls.length
  | [], _, _, h => by cases h
  | _ :: _, 0, _, _ => Nat.zero_lt_succ _
  | _ :: l, n + 1, v, h => Nat.succ_lt_succ (am_ld_lt l n v h)
theorem am_set_len : ∀ (ls : ml) (i : Nat) (o : Option mv), (am_set ls i o).length = ls.length
  | [], _, _ => rfl
  | _ :: _, 0, _ => rfl
  | _ :: l, n + 1, o => congrArg (· + 1) (am_set_len l n o)
theorem am_ld_set_ne : ∀ (ls : ml) (a i : Nat) (o : Option mv), i ≠ a → am_ld (am_set ls a o) i = am_ld ls i
  | [], _, _, _, _ => rfl
  | _ :: _, 0, 0, _, h => absurd rfl h
  | _ :: _, 0, _ + 1, _, _ => rfl
  | _ :: _, _ + 1, 0, _, _ => rfl
  | _ :: l, a + 1, i + 1, o, h => am_ld_set_ne l a i o (fun q => h (congrArg (· + 1) q))
theorem am_ld_set_eq : ∀ (ls : ml) (a : Nat) (o : Option mv) (v : mv), am_ld (am_set ls a o) a = some v → o = some v
  | [], _, _, _, h => by cases h
  | _ :: _, 0, _, _, h => h
  | _ :: l, a + 1, o, v, h => am_ld_set_eq l a o v h
theorem am_kill_succ (ls : ml) (n : Nat) : am_kill ls (n + 1) = match am_ld ls n with
    | some (.inr (.inl _)) => am_set ls n none
    | _ => ls := rfl
theorem am_kill_len (ls : ml) (a : Nat) : (am_kill ls a).length = ls.length := by
  cases a with
  | zero => rfl
  | succ n =>
    rw [am_kill_succ]
    split
    · exact am_set_len _ _ _
    · rfl
theorem am_ld_kill {ls : ml} {a i : Nat} {v : mv} (h : am_ld (am_kill ls a) i = some v) : am_ld ls i = some v ∧ ¬ (i + 1 = a ∧ am_cat1 v = 2) := by
  cases a with
  | zero => exact ⟨h, fun q => by omega⟩
  | succ n =>
    rw [am_kill_succ] at h
    split at h
    · by_cases hi : i = n
      · subst hi
        have := am_ld_set_eq _ _ _ _ h
        cases this
      · rw [am_ld_set_ne _ _ _ _ hi] at h
        exact ⟨h, fun q => hi (by omega)⟩
    · rename_i hno
      refine ⟨h, fun q => ?_⟩
      have hi : i = n := by omega
      subst hi
      match v, q.2 with
      | .inr (.inl w), _ => exact hno w h
      | .inl w, q2 => cases q2
      | .inr (.inr w), q2 => cases q2
theorem am_t_cat (base : Nat) (adK : Nat → Nat) (v : mv) : (am_t base adK v).category = am_cat1 v := by
  match v with
  | .inl _ => rfl
  | .inr (.inl _) => rfl
  | .inr (.inr _) => rfl
theorem am_t_cats (base : Nat) (adK : Nat → Nat) : ∀ st : List mv, ((st.map (am_t base adK)).map fun v => v.category).sum = am_cat st
  | [] => rfl
  | v :: l => by
    show (am_t base adK v).category + ((l.map (am_t base adK)).map fun v => v.category).sum = am_cat1 v + am_cat l
    rw [am_t_cat, am_t_cats base adK l]
/-- the locals of the frame hold what the small machine knows of them -/
def am_lv (base : Nat) (adK : Nat → Nat) (LS : Array Slot) (nL : Nat) (ls : ml) : Prop := LS.size = nL ∧ lv_wf LS ∧ ∀ i v, am_ld ls i = some v → LS[i]? = some (.val (am_t base adK v))
def am_as (base : Nat) (adK : Nat → Nat) : Nat → ml → List (Nat × Value)
  | _, [] => []
  | n, none :: l => am_as base adK (n + 1) l
  | n, some v :: l => (n, am_t base adK v) :: am_as base adK (n + 1) l
theorem am_as_mem (base : Nat) (adK : Nat → Nat) : ∀ (ls : ml) (n : Nat) (q : Nat × Value), q ∈ am_as base adK n ls ↔ ∃ i v, am_ld ls i = some v ∧ q = (n + i, am_t base adK v)
  | [], n, q => ⟨fun h => (by cases h), fun ⟨_, _, h, _⟩ => by cases h⟩
  | none :: l, n, q => by
    refine (am_as_mem base adK l (n + 1) q).trans ⟨?_, ?_⟩
    · rintro ⟨i, v, h, rfl⟩
      exact ⟨i + 1, v, h, by rw [show n + 1 + i = n + (i + 1) by omega]⟩
    · rintro ⟨i, v, h, rfl⟩
      cases i with
      | zero => cases h
      | succ i => exact ⟨i, v, h, by rw [show n + 1 + i = n + (i + 1) by omega]⟩
  | some w :: l, n, q => by
    refine List.mem_cons.trans ⟨?_, ?_⟩
    · rintro (rfl | h)
      · exact ⟨0, w, rfl, rfl⟩
      · obtain ⟨i, v, h1, rfl⟩ := (am_as_mem base adK l (n + 1) q).mp h
        exact ⟨i + 1, v, h1, by rw [show n + 1 + i = n + (i + 1) by omega]⟩
    · rintro ⟨i, v, h, rfl⟩
      cases i with
      | zero => exact Or.inl (by cases h; rfl)
      | succ i => exact Or.inr ((am_as_mem base adK l (n + 1) _).mpr ⟨i, v, h, by rw [show n + 1 + i = n + (i + 1) by omega]⟩)
theorem am_lv.has {base : Nat} {adK : Nat → Nat} {LS : Array Slot} {nL : Nat} {ls : ml} (h : am_lv base adK LS nL ls) : lv_has LS nL (am_as base adK 0 ls) := by
  refine ⟨h.1, h.2.1, fun q hq => ?_⟩
  obtain ⟨i, v, h1, rfl⟩ := (am_as_mem base adK ls 0 q).mp hq
  rw [Nat.zero_add]
  exact h.2.2 i v h1
theorem am_lv.mask {base : Nat} {adK : Nat → Nat} {LS : Array Slot} {nL : Nat} {ls ls2 : ml} (h : am_lv base adK LS nL ls) (hm : ∀ i v, am_ld ls2 i = some v → am_ld ls i = some v) : am_lv base adK LS nL ls2 := ⟨h.1, h.2.1, fun i v q => h.2.2 i v (hm i v q)⟩
theorem am_ld_mask : ∀ (b : List Bool) (ls : ml) (i : Nat) (v : mv), am_ld (am_mask b ls) i = some v → am_ld ls i = some v
  | [], ls, i, v, h => by cases ls <;> cases h
  | b :: bs, [], i, v, h => by cases h
  | b :: bs, w :: ls, 0, v, h => by
    cases b
    · cases h
    · exact h
  | b :: bs, w :: ls, i + 1, v, h => am_ld_mask bs ls i v h
theorem am_lv.s1 {base : Nat} {adK : Nat → Nat} {LS : Array Slot} {nL : Nat} {ls : ml} {a : Nat} {v : mv} (h : lv_has LS nL ((a, am_t base adK v) :: (am_as base adK 0 ls).filter (fun q => !(q.1 == a) && !(q.1 + 1 == a && q.2.category == 2)))) : am_lv base adK LS nL (am_s1 ls a v) := by
  refine ⟨h.1, h.2.1, fun i w hw => ?_⟩
  unfold am_s1 at hw
  by_cases hi : i = a
  · subst hi
    have e := am_ld_set_eq _ _ _ _ hw
    cases e
    exact h.2.2 (i, am_t base adK v) List.mem_cons_self
  · rw [am_ld_set_ne _ _ _ _ hi] at hw
    obtain ⟨h1, h2⟩ := am_ld_kill hw
    refine h.2.2 (i, am_t base adK w) (List.mem_cons_of_mem _ (List.mem_filter.mpr ⟨(am_as_mem base adK ls 0 _).mpr ⟨i, w, h1, by rw [Nat.zero_add]⟩, ?_⟩))
    simp only [Bool.and_eq_true, Bool.not_eq_true', beq_eq_false_iff_ne, ne_eq, Bool.and_eq_false_iff]
    refine ⟨hi, ?_⟩
    by_cases h3 : i + 1 = a
    · right
      rw [am_t_cat]
      exact fun h4 => h2 ⟨h3, h4⟩
    · exact Or.inl h3
theorem am_lv.s2 {base : Nat} {adK : Nat → Nat} {LS : Array Slot} {nL : Nat} {ls : ml} {a : Nat} {v : mv} (h : lv_has LS nL ((a, am_t base adK v) :: (am_as base adK 0 ls).filter (fun q => !(q.1 == a) && (!(q.1 == a + 1) && !(q.1 + 1 == a && q.2.category == 2))))) : am_lv base adK LS nL (am_s2 ls a v) := by
  refine ⟨h.1, h.2.1, fun i w hw => ?_⟩
  unfold am_s2 at hw
  by_cases hi1 : i = a + 1
  · subst hi1
    have e := am_ld_set_eq _ _ _ _ hw
    cases e
  · rw [am_ld_set_ne _ _ _ _ hi1] at hw
    by_cases hi : i = a
    · subst hi
      have e := am_ld_set_eq _ _ _ _ hw
      cases e
      exact h.2.2 (i, am_t base adK v) List.mem_cons_self
    · rw [am_ld_set_ne _ _ _ _ hi] at hw
      obtain ⟨h1, h2⟩ := am_ld_kill hw
      refine h.2.2 (i, am_t base adK w) (List.mem_cons_of_mem _ (List.mem_filter.mpr ⟨(am_as_mem base adK ls 0 _).mpr ⟨i, w, h1, by rw [Nat.zero_add]⟩, ?_⟩))
      simp only [Bool.and_eq_true, Bool.not_eq_true', beq_eq_false_iff_ne, ne_eq, Bool.and_eq_false_iff]
      refine ⟨hi, hi1, ?_⟩
      by_cases h3 : i + 1 = a
      · right
        rw [am_t_cat]
        exact fun h4 => h2 ⟨h3, h4⟩
      · exact Or.inl h3
/-- references point into the tables -/
def am_okv : mv → Prop
  | .inr (.inr (k, i)) => (k = 200 ∧ i < 2) ∨ (k < 112 ∧ i < am_cnt k)
  | _ => True
def am_vok (ls : ml) (st : List mv) (g : mg) : Prop := (∀ i v, am_ld ls i = some v → am_okv v) ∧ (∀ v ∈ st, am_okv v) ∧ g.2.2.1 < 2 ∧ g.2.2.2 < 2
def am_tys (aC : Nat → ClassId) : List (ClassId × FieldType) := [(aC 20, .int), (aC 21, .long), (aC 22, .byte), (aC 23, .boolean), (aC 24, .char), (aC 25, .object "WordEach$Witness"), (aC 26, .array .int)]
def am_good : List Cond := lw_tbl.filter goodWord
def am_W (m : Nat) : List Cond := Cond.code (am_Y m) (am_B m) (am_head m).2.1 (am_ret m) :: am_good
def am_lens : List Nat := am_strs.map List.length
/-- what is known of the tables and the texts at a state -/
def am_S (dC : Nat → ClassId) (dI : Nat → Nat → Nat) (aC : Nat → ClassId) (base : Nat) (adK adV : Nat → Nat) (U : State) : Prop :=
  va_K (dC, dI) classes (am_tys aC) U ∧ vk_S 2 am_lens am_strs adK adV (fun q => base ≤ q) U U.heap ∧
  (∀ e ∈ am_srs, vk_R (am_R e.1) e.2.1 (am_texts.getD e.2.2.1 "") (adK e.2.2.1) U) ∧ (∀ e ∈ am_nls, va_Nw (Cond.methodLinkNest (am_R e.1) e.2.1 (am_Y e.2.2.1) "WordEach") U) ∧
  va_Z "java/lang/String" "COMPACT_STRINGS" "Z" (.int 1) (fun q => base ≤ q) U U.heap ∧ va_Zq "jdk/internal/util/Preconditions" "SIOOBE_FORMATTER" "Ljava/util/function/BiFunction;" (fun q => base ≤ q) U U.heap
def am_rm (d : Nat) : Room := { frames := d + 10, cells := 0, slots := 0, locals := 40 * d + 400 }
def am_Pc (dC : Nat → ClassId) (dI : Nat → Nat → Nat) (aC : Nat → ClassId) (base : Nat) (adK adV : Nat → Nat) (as : List mv) (g : mg) : Array Value → State → Prop :=
  va_Pc (as.map (am_t base adK)) (fun U => am_S dC dI aC base adK adV U ∧ va_P (dC, dI) classes (am_w aC base g) U.heap)
def am_Qc (dC : Nat → ClassId) (dI : Nat → Nat → Nat) (aC : Nat → ClassId) (base : Nat) (adK : Nat → Nat) (r : Option mv) (g : mg) : Array Value → State → Outcome → State → Prop :=
  fun _ st o t => o = .returned (r.map (am_t base adK)) ∧ va_P (dC, dI) classes (am_w aC base g) t.heap ∧ va_F (fun q => base ≤ q) st t ∧ g.2.2.1 < 2 ∧ g.2.2.2 < 2
def am_Fix (dC : Nat → ClassId) (dI : Nat → Nat → Nat) (aC : Nat → ClassId) (base : Nat) (adK adV : Nat → Nat) (p : Program) (s : State) (m : MethodId) (args : Array Value) (meth : Method) (c : Code) (mi : Nat) : Prop :=
  p.tables.exec = Jvm.exec ∧ c.code = am_B mi ∧ c.maxLocals = (am_head mi).2.1 ∧ s.vm.findClass (am_R (am_head mi).1) = some m.cls ∧ (∀ w ∈ am_W mi, w.before args s = true) ∧ meth.sig.returnType = am_ret mi ∧ meth.locks = false ∧ am_S dC dI aC base adK adV s
/-- the goal: from this frame on the method comes to its end with r, g2 -/
def am_Go (l : Launch) (dC : Nat → ClassId) (dI : Nat → Nat → Nat) (aC : Nat → ClassId) (base : Nat) (adK : Nat → Nat) (p : Program) (e : Env) (s : State) (m : MethodId) (args : Array Value) (below : List Frame) (meth : Method) (c : Code) (mi d : Nat) (r : Option mv) (g2 : mg) (H : Heap) (locs : List Loc) (b : Nat) (LS : Array Slot) (st : List mv) : Prop :=
  W p l e (am_rm d) s m args below meth c H locs 0 0 (MQ below (am_Qc dC dI aC base adK r g2) args s 0 0 (fun q => base ≤ q)) (F0 m b LS (st.map (am_t base adK)))
def am_K (l : Launch) (dC : Nat → ClassId) (dI : Nat → Nat → Nat) (aC : Nat → ClassId) (base : Nat) (adK : Nat → Nat) (p : Program) (e : Env) (s : State) (m : MethodId) (args : Array Value) (below : List Frame) (meth : Method) (c : Code) (mi d : Nat) (r : Option mv) (g2 : mg) (K : Nat → ml → List mv → mg → Option mr) : Prop :=
  ∀ k ls st g, K k ls st g = some (r, g2) → am_vok ls st g → ∀ H locs LS b, am_lv base adK LS (am_head mi).2.1 ls → va_P (dC, dI) classes (am_w aC base g) H → va_S (fun q => base ≤ q) s.heap H locs → am_nth (am_bp mi) k = some b → am_Go l dC dI aC base adK p e s m args below meth c mi d r g2 H locs b LS st
/-- all that a step's theorem begins with -/
def am_X (l : Launch) (dC : Nat → ClassId) (dI : Nat → Nat → Nat) (aC : Nat → ClassId) (base : Nat) (adK adV : Nat → Nat) (p : Program) (e : Env) (s : State) (m : MethodId) (args : Array Value) (below : List Frame) (meth : Method) (c : Code) (mi d : Nat) (r : Option mv) (g2 : mg) (K : Nat → ml → List mv → mg → Option mr) (k : Nat) (ls : ml) (st : List mv) (g : mg) (H : Heap) (locs : List Loc) (b : Nat) (LS : Array Slot) : Prop :=
  am_yok mi ∧ am_Fix dC dI aC base adK adV p s m args meth c mi ∧ am_K l dC dI aC base adK p e s m args below meth c mi d r g2 K ∧ am_lv base adK LS (am_head mi).2.1 ls ∧ va_P (dC, dI) classes (am_w aC base g) H ∧ va_S (fun q => base ≤ q) s.heap H locs ∧ am_vok ls st g ∧ am_nth (am_bp mi) k = some b
theorem am_vok.st {ls : ml} {st st2 : List mv} {g : mg} (h : am_vok ls st g) (h2 : ∀ v ∈ st2, am_okv v) : am_vok ls st2 g := ⟨h.1, h2, h.2.2⟩
theorem am_ok_i (v : Int32) : am_okv (.inl v) := trivial
theorem am_ok_l (v : Int64) : am_okv (.inr (.inl v)) := trivial
theorem am_ok_c {v : mv} {st : List mv} (h1 : am_okv v) (h2 : ∀ v ∈ st, am_okv v) : ∀ w ∈ v :: st, am_okv w := fun w h => by
  rcases List.mem_cons.mp h with rfl | h
  · exact h1
  · exact h2 w h
theorem am_ok_t {v : mv} {st : List mv} (h : ∀ w ∈ v :: st, am_okv w) : ∀ w ∈ st, am_okv w := fun w hw => h w (List.mem_cons_of_mem _ hw)
theorem am_ok_h {v : mv} {st : List mv} (h : ∀ w ∈ v :: st, am_okv w) : am_okv v := h v List.mem_cons_self
theorem am_vok_s1 {ls : ml} {a : Nat} {v : mv} (h : ∀ i v, am_ld ls i = some v → am_okv v) (hv : am_okv v) : ∀ i w, am_ld (am_s1 ls a v) i = some w → am_okv w := by
  intro i w hw
  unfold am_s1 at hw
  by_cases hi : i = a
  · subst hi
    have e := am_ld_set_eq _ _ _ _ hw
    cases e
    exact hv
  · rw [am_ld_set_ne _ _ _ _ hi] at hw
    exact h i w (am_ld_kill hw).1
theorem am_vok_s2 {ls : ml} {a : Nat} {v : mv} (h : ∀ i v, am_ld ls i = some v → am_okv v) (hv : am_okv v) : ∀ i w, am_ld (am_s2 ls a v) i = some w → am_okv w := by
  intro i w hw
  unfold am_s2 at hw
  by_cases hi1 : i = a + 1
  · subst hi1
    have e := am_ld_set_eq _ _ _ _ hw
    cases e
  · rw [am_ld_set_ne _ _ _ _ hi1] at hw
    by_cases hi : i = a
    · subst hi
      have e := am_ld_set_eq _ _ _ _ hw
      cases e
      exact hv
    · rw [am_ld_set_ne _ _ _ _ hi] at hw
      exact h i w (am_ld_kill hw).1
theorem am_in_W {m : Nat} {w : Cond} {i : Nat} (h : tables_1[i]? = some w) (hg : goodWord w = true) : w ∈ am_W m :=
  List.mem_cons_of_mem _ (List.mem_filter.mpr ⟨List.mem_append_right _ (List.mem_of_getElem? h), hg⟩)
theorem am_loc_all : ([0, 1, 2, 3, 4, 5, 6, 7, 8, 9, 10, 11, 12, 13, 14, 15, 16, 17, 18, 19, 20, 21, 22, 23, 24, 25, 26, 27, 28, 29, 30, 31, 32, 33, 34, 35, 36, 37, 38, 39, 40, 41, 42, 43, 44, 45, 46, 47, 48, 49, 50, 51, 52, 53, 54, 55, 56, 57, 58, 59, 60, 61, 62, 63, 64, 65, 66, 67, 68, 69, 70, 71, 72, 73, 74, 75, 76, 77, 78, 79, 80, 81, 82, 83, 84, 85, 86, 87, 88, 89, 90, 91, 92, 93, 94, 95, 96, 97, 98, 99, 100, 101, 102, 103, 104, 105, 106, 107, 108, 109, 110, 111, 112, 113, 114, 115, 116, 117, 118, 119, 120, 121, 122, 123, 124, 125, 126, 127, 128, 129, 130, 131, 132, 133, 134, 135, 136, 137, 138, 139, 140, 141, 142, 143, 144, 145, 146, 147, 148, 149, 150, 151, 152, 153, 154, 155, 156, 157, 158, 159, 160, 161, 162, 163, 164, 165, 166, 167, 168, 169, 170, 171, 172, 173, 174, 175, 176, 177, 178, 179, 180, 181, 182, 183, 184, 185, 186, 187, 188, 189, 190, 191, 192, 193, 194, 195, 196, 197, 198, 199, 200, 201, 202, 203, 204, 205, 206, 207, 208, 209, 210, 211, 212, 213, 214, 215, 216, 217, 218, 219, 220, 221, 222, 223, 224, 225, 226, 227, 228, 229, 230, 231, 232, 233, 234, 235, 236, 237, 238, 239, 240, 241, 242, 243, 244, 245, 246, 247, 248, 249, 250, 251, 252, 253, 254, 255, 256, 257, 258, 259, 260, 261, 262, 263, 264, 265, 266, 267, 268, 269, 270, 271, 272, 273, 274, 275, 276, 277, 278, 279, 280, 281, 282, 283, 284, 285, 286, 287, 288, 289, 290, 291, 292, 293, 294, 295, 296, 297, 298, 299] : List Nat).all am_loc = true := by decide +kernel
theorem am_loc_ok {m : Nat} (h : m < 300) : am_loc m = true := by
  have hm : m ∈ ([0, 1, 2, 3, 4, 5, 6, 7, 8, 9, 10, 11, 12, 13, 14, 15, 16, 17, 18, 19, 20, 21, 22, 23, 24, 25, 26, 27, 28, 29, 30, 31, 32, 33, 34, 35, 36, 37, 38, 39, 40, 41, 42, 43, 44, 45, 46, 47, 48, 49, 50, 51, 52, 53, 54, 55, 56, 57, 58, 59, 60, 61, 62, 63, 64, 65, 66, 67, 68, 69, 70, 71, 72, 73, 74, 75, 76, 77, 78, 79, 80, 81, 82, 83, 84, 85, 86, 87, 88, 89, 90, 91, 92, 93, 94, 95, 96, 97, 98, 99, 100, 101, 102, 103, 104, 105, 106, 107, 108, 109, 110, 111, 112, 113, 114, 115, 116, 117, 118, 119, 120, 121, 122, 123, 124, 125, 126, 127, 128, 129, 130, 131, 132, 133, 134, 135, 136, 137, 138, 139, 140, 141, 142, 143, 144, 145, 146, 147, 148, 149, 150, 151, 152, 153, 154, 155, 156, 157, 158, 159, 160, 161, 162, 163, 164, 165, 166, 167, 168, 169, 170, 171, 172, 173, 174, 175, 176, 177, 178, 179, 180, 181, 182, 183, 184, 185, 186, 187, 188, 189, 190, 191, 192, 193, 194, 195, 196, 197, 198, 199, 200, 201, 202, 203, 204, 205, 206, 207, 208, 209, 210, 211, 212, 213, 214, 215, 216, 217, 218, 219, 220, 221, 222, 223, 224, 225, 226, 227, 228, 229, 230, 231, 232, 233, 234, 235, 236, 237, 238, 239, 240, 241, 242, 243, 244, 245, 246, 247, 248, 249, 250, 251, 252, 253, 254, 255, 256, 257, 258, 259, 260, 261, 262, 263, 264, 265, 266, 267, 268, 269, 270, 271, 272, 273, 274, 275, 276, 277, 278, 279, 280, 281, 282, 283, 284, 285, 286, 287, 288, 289, 290, 291, 292, 293, 294, 295, 296, 297, 298, 299] : List Nat) := by
    rw [show ([0, 1, 2, 3, 4, 5, 6, 7, 8, 9, 10, 11, 12, 13, 14, 15, 16, 17, 18, 19, 20, 21, 22, 23, 24, 25, 26, 27, 28, 29, 30, 31, 32, 33, 34, 35, 36, 37, 38, 39, 40, 41, 42, 43, 44, 45, 46, 47, 48, 49, 50, 51, 52, 53, 54, 55, 56, 57, 58, 59, 60, 61, 62, 63, 64, 65, 66, 67, 68, 69, 70, 71, 72, 73, 74, 75, 76, 77, 78, 79, 80, 81, 82, 83, 84, 85, 86, 87, 88, 89, 90, 91, 92, 93, 94, 95, 96, 97, 98, 99, 100, 101, 102, 103, 104, 105, 106, 107, 108, 109, 110, 111, 112, 113, 114, 115, 116, 117, 118, 119, 120, 121, 122, 123, 124, 125, 126, 127, 128, 129, 130, 131, 132, 133, 134, 135, 136, 137, 138, 139, 140, 141, 142, 143, 144, 145, 146, 147, 148, 149, 150, 151, 152, 153, 154, 155, 156, 157, 158, 159, 160, 161, 162, 163, 164, 165, 166, 167, 168, 169, 170, 171, 172, 173, 174, 175, 176, 177, 178, 179, 180, 181, 182, 183, 184, 185, 186, 187, 188, 189, 190, 191, 192, 193, 194, 195, 196, 197, 198, 199, 200, 201, 202, 203, 204, 205, 206, 207, 208, 209, 210, 211, 212, 213, 214, 215, 216, 217, 218, 219, 220, 221, 222, 223, 224, 225, 226, 227, 228, 229, 230, 231, 232, 233, 234, 235, 236, 237, 238, 239, 240, 241, 242, 243, 244, 245, 246, 247, 248, 249, 250, 251, 252, 253, 254, 255, 256, 257, 258, 259, 260, 261, 262, 263, 264, 265, 266, 267, 268, 269, 270, 271, 272, 273, 274, 275, 276, 277, 278, 279, 280, 281, 282, 283, 284, 285, 286, 287, 288, 289, 290, 291, 292, 293, 294, 295, 296, 297, 298, 299] : List Nat) = List.range 300 by decide +kernel]
    exact List.mem_range.mpr h
  exact List.all_eq_true.mp am_loc_all m hm
theorem am_maxL : ([0, 1, 2, 3, 4, 5, 6, 7, 8, 9, 10, 11, 12, 13, 14, 15, 16, 17, 18, 19, 20, 21, 22, 23, 24, 25, 26, 27, 28, 29, 30, 31, 32, 33, 34, 35, 36, 37, 38, 39, 40, 41, 42, 43, 44, 45, 46, 47, 48, 49, 50, 51, 52, 53, 54, 55, 56, 57, 58, 59, 60, 61, 62, 63, 64, 65, 66, 67, 68, 69, 70, 71, 72, 73, 74, 75, 76, 77, 78, 79, 80, 81, 82, 83, 84, 85, 86, 87, 88, 89, 90, 91, 92, 93, 94, 95, 96, 97, 98, 99, 100, 101, 102, 103, 104, 105, 106, 107, 108, 109, 110, 111, 112, 113, 114, 115, 116, 117, 118, 119, 120, 121, 122, 123, 124, 125, 126, 127, 128, 129, 130, 131, 132, 133, 134, 135, 136, 137, 138, 139, 140, 141, 142, 143, 144, 145, 146, 147, 148, 149, 150, 151, 152, 153, 154, 155, 156, 157, 158, 159, 160, 161, 162, 163, 164, 165, 166, 167, 168, 169, 170, 171, 172, 173, 174, 175, 176, 177, 178, 179, 180, 181, 182, 183, 184, 185, 186, 187, 188, 189, 190, 191, 192, 193, 194, 195, 196, 197, 198, 199, 200, 201, 202, 203, 204, 205, 206, 207, 208, 209, 210, 211, 212, 213, 214, 215, 216, 217, 218, 219, 220, 221, 222, 223, 224, 225, 226, 227, 228, 229, 230, 231, 232, 233, 234, 235, 236, 237, 238, 239, 240, 241, 242, 243, 244, 245, 246, 247, 248, 249, 250, 251, 252, 253, 254, 255, 256, 257, 258, 259, 260, 261, 262, 263, 264, 265, 266, 267, 268, 269, 270, 271, 272, 273, 274, 275, 276, 277, 278, 279, 280, 281, 282, 283, 284, 285, 286, 287, 288, 289, 290, 291, 292, 293, 294, 295, 296, 297, 298, 299] : List Nat).all (fun m => Nat.ble (am_head m).2.1 9) = true := by decide +kernel
theorem am_range300 : ([0, 1, 2, 3, 4, 5, 6, 7, 8, 9, 10, 11, 12, 13, 14, 15, 16, 17, 18, 19, 20, 21, 22, 23, 24, 25, 26, 27, 28, 29, 30, 31, 32, 33, 34, 35, 36, 37, 38, 39, 40, 41, 42, 43, 44, 45, 46, 47, 48, 49, 50, 51, 52, 53, 54, 55, 56, 57, 58, 59, 60, 61, 62, 63, 64, 65, 66, 67, 68, 69, 70, 71, 72, 73, 74, 75, 76, 77, 78, 79, 80, 81, 82, 83, 84, 85, 86, 87, 88, 89, 90, 91, 92, 93, 94, 95, 96, 97, 98, 99, 100, 101, 102, 103, 104, 105, 106, 107, 108, 109, 110, 111, 112, 113, 114, 115, 116, 117, 118, 119, 120, 121, 122, 123, 124, 125, 126, 127, 128, 129, 130, 131, 132, 133, 134, 135, 136, 137, 138, 139, 140, 141, 142, 143, 144, 145, 146, 147, 148, 149, 150, 151, 152, 153, 154, 155, 156, 157, 158, 159, 160, 161, 162, 163, 164, 165, 166, 167, 168, 169, 170, 171, 172, 173, 174, 175, 176, 177, 178, 179, 180, 181, 182, 183, 184, 185, 186, 187, 188, 189, 190, 191, 192, 193, 194, 195, 196, 197, 198, 199, 200, 201, 202, 203, 204, 205, 206, 207, 208, 209, 210, 211, 212, 213, 214, 215, 216, 217, 218, 219, 220, 221, 222, 223, 224, 225, 226, 227, 228, 229, 230, 231, 232, 233, 234, 235, 236, 237, 238, 239, 240, 241, 242, 243, 244, 245, 246, 247, 248, 249, 250, 251, 252, 253, 254, 255, 256, 257, 258, 259, 260, 261, 262, 263, 264, 265, 266, 267, 268, 269, 270, 271, 272, 273, 274, 275, 276, 277, 278, 279, 280, 281, 282, 283, 284, 285, 286, 287, 288, 289, 290, 291, 292, 293, 294, 295, 296, 297, 298, 299] : List Nat) = List.range 300 := by decide +kernel
theorem am_virt_all : ([0, 1, 2, 3, 4, 5, 6, 7, 8, 9, 10, 11, 12, 13, 14, 15, 16, 17, 18, 19, 20, 21, 22, 23, 24, 25, 26, 27, 28, 29, 30, 31, 32, 33, 34, 35, 36, 37, 38, 39, 40, 41, 42, 43, 44, 45, 46, 47, 48, 49, 50, 51, 52, 53, 54, 55, 56, 57, 58, 59, 60, 61, 62, 63, 64, 65, 66, 67, 68, 69, 70, 71, 72, 73, 74, 75, 76, 77, 78, 79, 80, 81, 82, 83, 84, 85, 86, 87, 88, 89, 90, 91, 92, 93, 94, 95, 96, 97, 98, 99, 100, 101, 102, 103, 104, 105, 106, 107, 108, 109, 110, 111, 112, 113, 114, 115, 116, 117, 118, 119, 120, 121, 122, 123, 124, 125, 126, 127, 128, 129, 130, 131, 132, 133, 134, 135, 136, 137, 138, 139, 140, 141, 142, 143, 144, 145, 146, 147, 148, 149, 150, 151, 152, 153, 154, 155, 156, 157, 158, 159, 160, 161, 162, 163, 164, 165, 166, 167, 168, 169, 170, 171, 172, 173, 174, 175, 176, 177, 178, 179, 180, 181, 182, 183, 184, 185, 186, 187, 188, 189, 190, 191, 192, 193, 194, 195, 196, 197, 198, 199, 200, 201, 202, 203, 204, 205, 206, 207, 208, 209, 210, 211, 212, 213, 214, 215, 216, 217, 218, 219, 220, 221, 222, 223, 224, 225, 226, 227, 228, 229, 230, 231, 232, 233, 234, 235, 236, 237, 238, 239, 240, 241, 242, 243, 244, 245, 246, 247, 248, 249, 250, 251, 252, 253, 254, 255, 256, 257, 258, 259, 260, 261, 262, 263, 264, 265, 266, 267, 268, 269, 270, 271, 272, 273, 274, 275, 276, 277, 278, 279, 280, 281, 282, 283, 284, 285, 286, 287, 288, 289, 290, 291, 292, 293, 294, 295, 296, 297, 298, 299] : List Nat).all (fun m => (am_P m).1 || Nat.blt (am_head m).1 13) = true := by decide +kernel
theorem am_virt_lt {m : Nat} (h : m < 300) (hs : (am_P m).1 = false) : (am_head m).1 < 13 := by
  have e := am_virt_all
  rw [am_range300] at e
  have q := List.all_eq_true.mp e m (List.mem_range.mpr h)
  rw [hs, Bool.false_or] at q
  exact Nat.le_of_ble_eq_true q
theorem am_plain_all : ([0, 1, 2, 3, 4, 5, 6, 7, 8, 9, 10, 11, 12, 13, 14, 15, 16, 17, 18, 19, 20, 21, 22, 23, 24, 25, 26, 27, 28, 29, 30, 31, 32, 33, 34, 35, 36, 37, 38, 39, 40, 41, 42, 43, 44, 45, 46, 47, 48, 49, 50, 51, 52, 53, 54, 55, 56, 57, 58, 59, 60, 61, 62, 63, 64, 65, 66, 67, 68, 69, 70, 71, 72, 73, 74, 75, 76, 77, 78, 79, 80, 81, 82, 83, 84, 85, 86, 87, 88, 89, 90, 91, 92, 93, 94, 95, 96, 97, 98, 99, 100, 101, 102, 103, 104, 105, 106, 107, 108, 109, 110, 111, 112, 113, 114, 115, 116, 117, 118, 119, 120, 121, 122, 123, 124, 125, 126, 127, 128, 129, 130, 131, 132, 133, 134, 135, 136, 137, 138, 139, 140, 141, 142, 143, 144, 145, 146, 147, 148, 149, 150, 151, 152, 153, 154, 155, 156, 157, 158, 159, 160, 161, 162, 163, 164, 165, 166, 167, 168, 169, 170, 171, 172, 173, 174, 175, 176, 177, 178, 179, 180, 181, 182, 183, 184, 185, 186, 187, 188, 189, 190, 191, 192, 193, 194, 195, 196, 197, 198, 199, 200, 201, 202, 203, 204, 205, 206, 207, 208, 209, 210, 211, 212, 213, 214, 215, 216, 217, 218, 219, 220, 221, 222, 223, 224, 225, 226, 227, 228, 229, 230, 231, 232, 233, 234, 235, 236, 237, 238, 239, 240, 241, 242, 243, 244, 245, 246, 247, 248, 249, 250, 251, 252, 253, 254, 255, 256, 257, 258, 259, 260, 261, 262, 263, 264, 265, 266, 267, 268, 269, 270, 271, 272, 273, 274, 275, 276, 277, 278, 279, 280, 281, 282, 283, 284, 285, 286, 287, 288, 289, 290, 291, 292, 293, 294, 295, 296, 297, 298, 299] : List Nat).all (fun m => (Nat.ble 294 m && Nat.ble m 298) || (Jvm.plainName (am_Y m).cls && decide (am_nth (am_bp m) 0 = some 0))) = true := by decide +kernel
theorem am_plain {m : Nat} (h : am_yok m) : Jvm.plainName (am_Y m).cls = true ∧ am_nth (am_bp m) 0 = some 0 := by
  have e := am_plain_all
  rw [am_range300] at e
  have q := List.all_eq_true.mp e m (List.mem_range.mpr h.1)
  simp only [Bool.or_eq_true, Bool.and_eq_true] at q
  rcases q with q | q
  · exact absurd ⟨Nat.le_of_ble_eq_true q.1, Nat.le_of_ble_eq_true q.2⟩ h.2
  · exact ⟨q.1, of_decide_eq_true q.2⟩
