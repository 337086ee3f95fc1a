/-! the class: lines, images -/
section
variable {c : Nat → Nat → Nat → Int32} {l : Nat → Nat → Int64} {x y : Nat} {K : Ct} {F : Nat} {row : List (Nat × Nat)} {tp : Nat → Nat} {n : Nat} {fa fp : Int} {rf : Nat → Int32} {sd : Int} {oc : List Nat}
theorem e53 (d : Nat) : ∀ (m i : Nat) (c : Nat → Nat → Nat → Int32), i + m = 6 → (∀ p, p < i → c 28 0 p = iv (-2)) → ∃ c2 : Nat → Nat → Nat → Int32, X (d + 1) 53 2 [some (vr 27 0), some (vi (iv (i : Nat)))] [] (c, l, x, y) = some (none, c2, l, x, y) ∧ (∀ p, p < 6 → c2 28 0 p = iv (-2)) ∧ ∀ k, k ≠ 28 → c2 k = c k := by
  intro m
  induction m with
  | zero =>
    intro i c hi h
    refine ⟨c, ?_, fun p hp => h p (by omega), fun _ _ => rfl⟩
    rw [q_53_2]
    simp (disch := omega) only [iv_add, iv_sub, iv_mul, iv_neg, iv_lt, iv_le, iv_eq, iv_nat, iv_L, iv_L2, am_bi_v, am_bv_v, am_bl_v, if_pos, if_neg, Int.toNat_natCast, Int.toNat_add, Int.toNat_mul, Int.reduceToNat]
  | succ m ih =>
    intro i c hi h
    obtain ⟨c2, g1, g2, g3⟩ := ih (i + 1) (am_ui c 28 0 i (iv (-2))) (by omega) (by
      intro p hp
      by_cases e : p = i
      · subst e; rw [ui_self]
      · rw [ui_ne _ _ _ _ (by omega)]; exact h p (by omega))
    refine ⟨c2, ?_, g2, fun k hk => (g3 k hk).trans (ui_nk _ _ _ _ hk)⟩
    rw [q_53_2]
    simp (disch := omega) only [iv_add, iv_sub, iv_mul, iv_neg, iv_lt, iv_le, iv_eq, iv_nat, iv_L, iv_L2, am_bi_v, am_bv_v, am_bl_v, if_pos, if_neg, Int.toNat_natCast, Int.toNat_add, Int.toNat_mul, Int.reduceToNat]
    exact g1
theorem e0 (d : Nat) : ∀ (m i : Nat) (c : Nat → Nat → Nat → Int32), i + m = 7 → (∀ p, p < i → c 43 0 p = iv 0) → ∃ c2 : Nat → Nat → Nat → Int32, X (d + 1) 0 5 [some (vr 36 0), some (vi (iv (i : Nat)))] [] (c, l, x, y) = some (none, c2, l, x, y) ∧ (∀ p, p < 7 → c2 43 0 p = iv 0) ∧ ∀ k, k ≠ 43 → c2 k = c k := by
  intro m
  induction m with
  | zero =>
    intro i c hi h
    refine ⟨c, ?_, fun p hp => h p (by omega), fun _ _ => rfl⟩
    rw [q_0_5]
    simp (disch := omega) only [iv_add, iv_sub, iv_mul, iv_neg, iv_lt, iv_le, iv_eq, iv_nat, iv_L, iv_L2, am_bi_v, am_bv_v, am_bl_v, if_pos, if_neg, Int.toNat_natCast, Int.toNat_add, Int.toNat_mul, Int.reduceToNat]
  | succ m ih =>
    intro i c hi h
    obtain ⟨c2, g1, g2, g3⟩ := ih (i + 1) (am_ui c 43 0 i (iv 0)) (by omega) (by
      intro p hp
      by_cases e : p = i
      · subst e; rw [ui_self]
      · rw [ui_ne _ _ _ _ (by omega)]; exact h p (by omega))
    refine ⟨c2, ?_, g2, fun k hk => (g3 k hk).trans (ui_nk _ _ _ _ hk)⟩
    rw [q_0_5]
    simp (disch := omega) only [iv_add, iv_sub, iv_mul, iv_neg, iv_lt, iv_le, iv_eq, iv_nat, iv_L, iv_L2, am_bi_v, am_bv_v, am_bl_v, if_pos, if_neg, Int.toNat_natCast, Int.toNat_add, Int.toNat_mul, Int.reduceToNat]
    exact g1
theorem e105 (hc : CR c x K) (hK : VK K) (hF : F < 64) (d : Nat) : ∃ c2 : Nat → Nat → Nat → Int32, E (d + 3) 105 [vr 0 0, vi (iv F)] (c, l, x, y) = some (none, c2, l, x, y) ∧ JR c2 x K F ∧ PF c2 ∧ ∀ k, k ≠ 20 → k ≠ 21 → k ≠ 22 → k ≠ 28 → k ≠ 36 → k ≠ 43 → c2 k = c k := by
  obtain ⟨c1, a1, a2, a3⟩ := e37 (l := l) (y := y) hc hK hF d
  obtain ⟨c2, b1, b2, b3⟩ := e53 (l := l) (x := x) (y := y) (d + 1) 6 0 c1 (by decide) (fun p hp => absurd hp (Nat.not_lt_zero _))
  obtain ⟨c3, d1, d2, d3⟩ := e0 (l := l) (x := x) (y := y) (d + 1) 7 0 (am_ui c2 36 0 6 (iv 0)) (by decide) (fun p hp => absurd hp (Nat.not_lt_zero _))
  refine ⟨c3, ?_, ?_, ⟨?_, ?_, d2⟩, ?_⟩
  · rw [q_105, a1]
    simp only [am_bv_v]
    rw [q_53, show some (vi 0) = some (vi (iv ((0 : Nat) : Int))) from rfl, b1]
    simp only [am_bv_v]
    rw [q_0, show (0 : Int32) = iv 0 from rfl, show some (vi (iv 0)) = some (vi (iv ((0 : Nat) : Int))) from rfl, d1]
    rfl
  · exact JR_fr a2 (fun k _ _ => ((d3 k (by omega)).trans (ui_nk _ _ _ _ (by omega))).trans (b3 k (by omega)))
  · intro p hp
    rw [d3 28 (by decide), ui_nk _ _ _ _ (by decide)]
    exact b2 p hp
  · rw [d3 36 (by decide), ui_self]
  · intro k k1 k2 k3 k4 k5 k6
    rw [d3 k k6, ui_nk _ _ _ _ k5, b3 k k4, a3 k k1 k2 k3]
/-- the line changes -/
def mayLn (K : Ct) (F : Nat) (i : Int) (is : Bool) : Bool := decide ((0 ≤ i ∧ i < nL K) ∧ F.testBit i.toNat ≠ is)
def linF (K : Ct) (F : Nat) (i : Int) (is : Bool) : Nat := if mayLn K F i is then F ^^^ 2 ^ i.toNat else F
theorem k116 (h : AC c x y K F row tp n fa fp rf sd oc) (hv : VS K F row tp n fa fp sd oc) {i : Int} (hi : -2147483648 ≤ i ∧ i < 2147483648) (is : Bool) (d : Nat) : ∃ c2 : Nat → Nat → Nat → Int32, E (d + 4) 116 [vr 0 0, vi (iv i), vi (iv (if is then 1 else 0))] (c, l, x, y) = some (some (vi (iv (if mayLn K F i is then 1 else 0))), c2, l, x, y) ∧ AC c2 x y K (linF K F i is) row tp n fa fp (oneMore rf 3 (mayLn K F i is)) sd oc ∧ ((mayLn K F i is = true ∧ PF c2 ∧ KR c c2) ∨ (mayLn K F i is = false ∧ KC c c2)) := by
  have hF := F64 hv
  have h6 := hv.1.2.1.1
  obtain ⟨r1, r2⟩ := ac_ref h (k := 3) (by decide)
  rw [q_116, e20 h.1 hi]
  unfold linF oneMore mayLn
  by_cases e : 0 ≤ i ∧ i < nL K
  · obtain ⟨k, rfl⟩ := Int.eq_ofNat_of_zero_le e.1
    rw [if_pos e]
    simp (disch := omega) only [am_bi_v, iv_L, iv_eq, if_neg]
    rw [e38 hF h.1.2.2.2.1 (by omega), Int.toNat_natCast]
    simp only [am_bi_v]
    by_cases hb : F.testBit k = is
    · have hd : decide (((0 : Int) ≤ k ∧ (k : Int) < nL K) ∧ F.testBit k ≠ is) = false := decide_eq_false (fun q => q.2 hb)
      rw [hd, hb]
      refine ⟨_, ?_, r1, Or.inr ⟨rfl, r2⟩⟩
      rw [if_pos rfl]
      rfl
    · have hd : decide (((0 : Int) ≤ k ∧ (k : Int) < nL K) ∧ F.testBit k ≠ is) = true := decide_eq_true ⟨e, hb⟩
      rw [hd]
      have hF2 : F ^^^ 2 ^ k < 64 := toggle_lt (m := 6) hF (by omega)
      have hp6 : 2 ^ k ≤ 2 ^ 6 := Nat.pow_le_pow_right (by decide) (by omega)
      have hp7 : ((2 ^ k : Nat) : Int) ≤ 64 := Int.ofNat_le.mpr hp6
      obtain ⟨c2, g1, g2, g3, g4⟩ := e105 (l := l) (y := y) h.1.1 hv.1 hF2 d
      refine ⟨c2, ?_, AC_JR h g2 h.2.1 (fun k hk => g4 k (by omega) (by omega) (by omega) (by omega) (by omega) (by omega)), Or.inl ⟨rfl, g3, fun k hk => g4 k (by omega) (by omega) (by omega) (by omega) (by omega) (by omega)⟩⟩
      have hne : ¬ (iv (if F.testBit k = true then 1 else 0) = iv (if is = true then 1 else 0)) := by
        cases hq : F.testBit k <;> cases is
        · exact absurd hq hb
        · decide
        · decide
        · exact absurd hq hb
      rw [if_neg hne]
      have hsh : iv 1 <<< (iv (k : Int) &&& 31) = iv ((2 ^ k : Nat) : Int) := shl1 k (by omega)
      rw [hsh, h.1.2.2.2.1, iv_xor (by omega) ⟨Int.natCast_nonneg _, Int.lt_of_le_of_lt hp7 (by decide)⟩, Int.toNat_natCast, Int.toNat_natCast, g1]
      rfl
  · have hd : decide ((0 ≤ i ∧ i < nL K) ∧ F.testBit i.toNat ≠ is) = false := decide_eq_false (fun q => e q.1)
    rw [hd, if_neg e]
    exact ⟨_, rfl, r1, Or.inr ⟨rfl, r2⟩⟩
theorem VS_line (hv : VS K F row tp n fa fp sd oc) (i : Int) (is : Bool) : VS K (linF K F i is) row tp n fa fp sd oc := by
  refine ⟨hv.1, ?_, hv.2.2⟩
  unfold linF
  cases hm : mayLn K F i is with
  | false => exact hv.2.1
  | true =>
    have := (of_decide_eq_true hm).1
    rw [if_pos rfl]
    exact toggle_lt hv.2.1 (by omega)
def chkL (l : List Nat) : Nat := l.foldl (fun c b => (3 * c + b) % 241) 97
def imgB (row : List (Nat × Nat)) (F : Nat) : List Nat := row.length :: (row.flatMap (fun p => [p.1, p.2]) ++ [F])
def imgL (row : List (Nat × Nat)) (F : Nat) : List Nat := imgB row F ++ [chkL (imgB row F)]
theorem chk_lt : ∀ (l : List Nat) (s : Nat), s < 241 → l.foldl (fun c b => (3 * c + b) % 241) s < 241
  | [], s, h => h
  | b :: l, s, _ => chk_lt l ((3 * s + b) % 241) (Nat.mod_lt _ (by decide))
/-- a byte is added to the image -/
theorem e81 {L : List Nat} (hn : c 23 0 4 = iv L.length) (hr : RowAt c 26 0 L) (hl : L.length < 17) (b : Nat) (d : Nat) : ∃ c2 : Nat → Nat → Nat → Int32, E (d + 1) 81 [vr 23 0, vi (iv b)] (c, l, x, y) = some (none, c2, l, x, y) ∧ c2 23 0 4 = iv (L ++ [b]).length ∧ RowAt c2 26 0 (L ++ [b]) ∧ (∀ k, k ≠ 23 → k ≠ 26 → c2 k = c k) ∧ c2 23 0 3 = c 23 0 3 := by
  refine ⟨am_ui (am_ui c 26 0 L.length (iv b)) 23 0 4 (iv ((L.length : Int) + 1)), ?_, ?_, ?_, ?_, ?_⟩
  · rw [q_81, hn]
    simp (disch := omega) only [iv_add, iv_sub, iv_mul, iv_neg, iv_lt, iv_le, iv_eq, iv_nat, iv_L, iv_L2, am_bi_v, am_bv_v, am_bl_v, if_pos, if_neg, Int.toNat_natCast, Int.toNat_add, Int.toNat_mul, Int.reduceToNat]
  · rw [ui_self, List.length_append]; rfl
  · refine RowAt_snoc (fun k hk => ?_) b ?_
    · rw [ui_ne _ _ _ _ (by omega), ui_ne _ _ _ _ (by omega)]; exact hr k hk
    · rw [ui_ne _ _ _ _ (by omega), ui_self]
  · intro k h1 h2
    rw [ui_nk _ _ _ _ h1, ui_nk _ _ _ _ h2]
  · rw [ui_ne _ _ _ _ (by omega), ui_ne _ _ _ _ (by omega)]
theorem flat_take {i : Nat} (h : i < row.length) : (row.take (i + 1)).flatMap (fun p => [p.1, p.2]) = (row.take i).flatMap (fun p => [p.1, p.2]) ++ [(whs row).getD i 0, (wds row).getD i 0] := by
  rw [List.take_succ_eq_append_getElem h, List.flatMap_append]
  unfold whs wds
  rw [List.getD_eq_getElem?_getD, List.getD_eq_getElem?_getD, List.getElem?_map, List.getElem?_map, List.getElem?_eq_getElem h]
  rfl
theorem flat_len : ∀ (row : List (Nat × Nat)), (row.flatMap (fun p => [p.1, p.2])).length = 2 * row.length
  | [] => rfl
  | p :: row => by
    rw [List.flatMap_cons, List.length_append, flat_len row, List.length_cons]
    simp only [List.length_cons, List.length_nil]
    omega
theorem k143 (h : AC c x y K F row tp n fa fp rf sd oc) (hv : VS K F row tp n fa fp sd oc) (d : Nat) : ∃ c2 : Nat → Nat → Nat → Int32, E (d + 3) 143 [vr 0 0] (c, l, x, y) = some (some (vi (iv (2 * (row.length : Int) + 3))), c2, l, x, y) ∧ AC c2 x y K F row tp n fa fp rf sd (imgL row F) ∧ KC c c2 := by
  have h7 := row7 hv
  have hF := F64 hv
  have h20 := hv.1.1.1
  have pairs : ∀ (m i : Nat) (c1 : Nat → Nat → Nat → Int32), i + m = row.length → c1 23 0 4 = iv (row.length :: (row.take i).flatMap (fun p => [p.1, p.2])).length → RowAt c1 26 0 (row.length :: (row.take i).flatMap (fun p => [p.1, p.2])) → (∀ k, k ≠ 23 → k ≠ 26 → c1 k = c k) → c1 23 0 3 = c 23 0 3 → ∃ c2 : Nat → Nat → Nat → Int32, X (d + 2) 80 9 [some (vr 23 0), some (vi (iv F)), some (vi (iv (i : Nat))), none] [] (c1, l, x, y) = X (d + 2) 80 34 [some (vr 23 0), none, some (vi (iv 97)), some (vi (iv 0))] [] (c2, l, x, y) ∧ c2 23 0 4 = iv (imgB row F).length ∧ RowAt c2 26 0 (imgB row F) ∧ (∀ k, k ≠ 23 → k ≠ 26 → c2 k = c k) ∧ c2 23 0 3 = c 23 0 3 := by
    intro m
    induction m with
    | zero =>
      intro i c1 hi g1 g2 g3 g4
      rw [List.take_of_length_le (by omega)] at g1 g2
      have hl := flat_len row
      obtain ⟨c2, a1, a2, a3, a4, a5⟩ := e81 (l := l) (x := x) (y := y) g1 g2 (by rw [List.length_cons]; omega) F d
      refine ⟨c2, ?_, a2, a3, fun k k1 k2 => (a4 k k1 k2).trans (g3 k k1 k2), a5.trans g4⟩
      rw [q_80_9, g4, h.2.2.1.1]
      simp (disch := omega) only [iv_add, iv_sub, iv_mul, iv_neg, iv_lt, iv_le, iv_eq, iv_nat, iv_L, iv_L2, am_bi_v, am_bv_v, am_bl_v, if_pos, if_neg, Int.toNat_natCast, Int.toNat_add, Int.toNat_mul, Int.reduceToNat, a1]
    | succ m ih =>
      intro i c1 hi g1 g2 g3 g4
      have hil : i < row.length := by omega
      have hfl := flat_len (row.take i)
      rw [List.length_take, Nat.min_eq_left (by omega)] at hfl
      obtain ⟨c2, a1, a2, a3, a4, a5⟩ := e81 (l := l) (x := x) (y := y) g1 g2 (by rw [List.length_cons]; omega) ((whs row).getD i 0) d
      obtain ⟨c3, b1, b2, b3, b4, b5⟩ := e81 (l := l) (x := x) (y := y) a2 a3 (by rw [List.length_append, List.length_cons, List.length_singleton]; omega) ((wds row).getD i 0) d
      have hft := flat_take hil
      have hcat : row.length :: (row.take (i + 1)).flatMap (fun p => [p.1, p.2]) = (row.length :: (row.take i).flatMap (fun p => [p.1, p.2])) ++ [(whs row).getD i 0] ++ [(wds row).getD i 0] := by
        rw [hft]; simp
      obtain ⟨c4, d1, d2, d3, d4, d5⟩ := ih (i + 1) c3 (by omega) (by rw [hcat]; exact b2) (by rw [hcat]; exact b3) (fun k k1 k2 => ((b4 k k1 k2).trans (a4 k k1 k2)).trans (g3 k k1 k2)) ((b5.trans a5).trans g4)
      refine ⟨c4, ?_, d2, d3, d4, d5⟩
      have w1 : c1 25 0 i = iv ((whs row).getD i 0 : Nat) := by rw [g3 25 (by decide) (by decide)]; exact h.2.2.1.2.2 i (by rw [whs_len]; exact hil)
      have w2 : c2 24 0 i = iv ((wds row).getD i 0 : Nat) := by rw [a4 24 (by decide) (by decide), g3 24 (by decide) (by decide)]; exact h.2.2.1.2.1 i (by rw [wds_len]; exact hil)
      rw [q_80_9, g4, h.2.2.1.1]
      simp (disch := omega) only [iv_add, iv_sub, iv_mul, iv_neg, iv_lt, iv_le, iv_eq, iv_nat, iv_L, iv_L2, am_bi_v, am_bv_v, am_bl_v, if_pos, if_neg, Int.toNat_natCast, Int.toNat_add, Int.toNat_mul, Int.reduceToNat, w1, a1, w2, b1]
      exact d1
  have lenB : (imgB row F).length = 2 * row.length + 2 := by
    unfold imgB
    rw [List.length_cons, List.length_append, flat_len]
    rfl
  have memB : ∀ b ∈ imgB row F, b < 256 := by
    intro b hb
    unfold imgB at hb
    rcases List.mem_cons.mp hb with q | q
    · omega
    · rcases List.mem_append.mp q with q | q
      · obtain ⟨p, hp, hq⟩ := List.mem_flatMap.mp q
        have h3 := hv.2.2.1.2.2 p hp
        have h4 := (hv.1.2.2.2.1.2 p.1 h3.1).2.2.2.2.2.2 _ h3.2
        have h5 := hv.1.2.2.2.1.1
        rcases List.mem_cons.mp hq with q | q
        · omega
        · rw [List.mem_singleton.mp q]; omega
      · rw [List.mem_singleton.mp q]; omega
  obtain ⟨c0, z1, z2, z3, z4, z5⟩ := e81 (c := am_ui c 23 0 4 (iv 0)) (l := l) (x := x) (y := y) (L := []) (ui_self _ _ _ _) (fun k hk => absurd hk (Nat.not_lt_zero _)) (by decide) row.length d
  obtain ⟨c1, p1, p2, p3, p4, p5⟩ := pairs row.length 0 c0 (by omega) z2 z3 (fun k k1 k2 => (z4 k k1 k2).trans (ui_nk _ _ _ _ k1)) (z5.trans (ui_ne _ _ _ _ (by omega)))
  have chk : ∀ (m i s : Nat), i + m = (imgB row F).length → s < 241 → X (d + 2) 80 34 [some (vr 23 0), none, some (vi (iv (s : Nat))), some (vi (iv (i : Nat)))] [] (c1, l, x, y) = am_bv (E (d + 1) 81 [vr 23 0, vi (iv ((((imgB row F).drop i).foldl (fun c b => (3 * c + b) % 241) s : Nat) : Int))] (c1, l, x, y)) (fun g1 => some (none, g1)) := by
    intro m
    induction m with
    | zero =>
      intro i s hi hs
      rw [q_80_34, p2]
      simp (disch := omega) only [iv_lt, if_neg]
      rw [List.drop_of_length_le (by omega)]
      rfl
    | succ m ih =>
      intro i s hi hs
      have hib : i < (imgB row F).length := by omega
      have hm := memB _ (getD_mem hib)
      rw [q_80_34, p2]
      simp (disch := omega) only [iv_add, iv_sub, iv_mul, iv_neg, iv_lt, iv_le, iv_eq, iv_nat, iv_L, iv_L2, am_bi_v, am_bv_v, am_bl_v, if_pos, if_neg, Int.toNat_natCast, Int.toNat_add, Int.toNat_mul, Int.reduceToNat, p3 i hib, iv_div]
      rw [drop_getD hib, List.foldl_cons, ← ih (i + 1) _ (by omega) (Nat.mod_lt _ (by decide))]
      rw [show ((i : Int) + 1) = ((i + 1 : Nat) : Int) by omega, show (3 * (s : Int) + ((imgB row F).getD i 0 : Nat) - (3 * (s : Int) + ((imgB row F).getD i 0 : Nat)) / 241 * 241) = (((3 * s + (imgB row F).getD i 0) % 241 : Nat) : Int) by omega]
  have hck := chk (imgB row F).length 0 97 (by omega) (by decide)
  obtain ⟨c3, t1, t2, t3, t4, t5⟩ := e81 (l := l) (x := x) (y := y) p2 p3 (by omega) (chkL (imgB row F)) d
  refine ⟨c3, ?_, ?_, ?_⟩
  · rw [q_143, h.1.2.2.2.1, q_80, h.2.2.1.1, show (0 : Int32) = iv 0 from rfl, z1]
    simp only [am_bv_v]
    rw [show some (vi (iv 0)) = some (vi (iv ((0 : Nat) : Int))) from rfl, p1, show some (vi (iv 97)) = some (vi (iv ((97 : Nat) : Int))) from rfl, show some (vi (iv 0)) = some (vi (iv ((0 : Nat) : Int))) from rfl, hck, List.drop_zero, show (imgB row F).foldl (fun c b => (3 * c + b) % 241) 97 = chkL (imgB row F) from rfl, t1]
    simp only [am_bv_v, t2]
    rw [List.length_append, lenB, List.length_singleton, show ((2 * row.length + 2 + 1 : Nat) : Int) = 2 * (row.length : Int) + 3 by omega]
  · obtain ⟨h1, h2, h3, h4, h5, h6, h8⟩ := h
    have hf : ∀ q, q ≠ 23 → q ≠ 26 → c3 q = c q := fun q q1 q2 => (t4 q q1 q2).trans (p4 q q1 q2)
    refine ⟨JR_fr h1 (fun q _ _ => hf q (by omega) (by omega)), h2, ⟨?_, RowAt_fr h3.2.1 (hf 24 (by omega) (by omega)), RowAt_fr h3.2.2 (hf 25 (by omega) (by omega))⟩, ⟨t2, t3⟩, ?_, ?_, ?_⟩
    · rw [t5, p5]; exact h3.1
    · rw [hf 1 (by omega) (by omega), hf 2 (by omega) (by omega)]; exact h5
    · rw [hf 46 (by omega) (by omega)]; exact h6
    · rw [hf 34 (by omega) (by omega)]; exact h8
  · intro q hq
    exact (t4 q (by omega) (by omega)).trans (p4 q (by omega) (by omega))
end
