/-! the reference: simple calls -/
section
variable {c : Nat → Nat → Nat → Int32} {l : Nat → Nat → Int64} {x y : Nat} {K : Ct} {F : Nat} {row : List (Nat × Nat)} {tp : Nat → Nat} {n : Nat} {fa fp : Int} {rf : Nat → Int32} {sd : Int} {oc : List Nat}
theorem jv_div {a b : Int} (ha : 0 ≤ a ∧ a < 9223372036854775808) (hb : 1 < b ∧ b < 9223372036854775808) : jv a / jv b = jv (a / b) := by
  apply Int64.toInt_inj.1
  rw [Int64.toInt_div_of_ne_right, jv_toInt (by omega), jv_toInt (by omega), Int.tdiv_eq_ediv_of_nonneg ha.1, jv_toInt]
  · have h1 := Int.ediv_nonneg ha.1 (b := b) (by omega)
    have h2 := Int.ediv_le_self b ha.1
    omega
  · intro h
    have h2 := congrArg Int64.toInt h
    rw [jv_toInt (by omega)] at h2
    have h3 : (-1 : Int64).toInt = -1 := by decide
    omega
theorem jv_iv {a : Int} (ha : -2147483648 ≤ a ∧ a < 2147483648) : (jv a).toInt32 = iv a := by
  apply Int32.toInt_inj.1
  rw [Int64.toInt_toInt32, jv_toInt (by omega), iv_toInt ha]
  exact Int.bmod_eq_of_le (by omega) (by omega)
theorem e27_snoc (s : List Nat) (a : Nat) : e27 (s ++ [a]) = 27 * e27 s + a := by
  unfold e27
  rw [List.foldl_append]
  rfl
theorem e27_pos {s : List Nat} (h : ∀ a ∈ s, 1 ≤ a ∧ a ≤ 26) (h0 : s ≠ []) : 0 < e27 s := by
  rcases List.eq_nil_or_concat s with rfl | ⟨t, a, rfl⟩
  · exact absurd rfl h0
  · rw [List.concat_eq_append] at h ⊢
    have := h a (by simp)
    rw [e27_snoc]
    omega
theorem e27_lt : ∀ (n : Nat) (s : List Nat), s.length = n → (∀ a ∈ s, 1 ≤ a ∧ a ≤ 26) → e27 s < 27 ^ n := by
  intro n
  induction n with
  | zero => intro s hs _; rw [List.eq_nil_of_length_eq_zero hs]; decide
  | succ n ih =>
    intro s hs h
    rcases List.eq_nil_or_concat s with rfl | ⟨t, a, rfl⟩
    · cases hs
    · rw [List.concat_eq_append] at h hs ⊢
      rw [List.length_append, List.length_singleton] at hs
      have h1 := ih t (by omega) (fun b hb => h b (by simp [hb]))
      have h2 := h a (by simp)
      rw [e27_snoc, Nat.pow_succ]
      omega
theorem e27_lt6 {s : List Nat} (h : isSp s) : e27 s < 387420489 := by
  have h1 := e27_lt s.length s rfl h.2.2
  have h2 : 27 ^ s.length ≤ 27 ^ 6 := Nat.pow_le_pow_right (by decide) h.2.1
  omega
theorem e27_take {s : List Nat} (h : isSp s) {q : Nat} (hq : q < s.length) : e27 (s.take (q + 1)) = 27 * e27 (s.take q) + s.getD q 0 ∧ 1 ≤ s.getD q 0 ∧ s.getD q 0 ≤ 26 ∧ e27 (s.take (q + 1)) < 387420489 := by
  have h1 := h.2.2 _ (getD_mem hq)
  refine ⟨by rw [take_succ_getD hq, e27_snoc], h1.1, h1.2, ?_⟩
  refine e27_lt6 (s := s.take (q + 1)) ⟨?_, ?_, fun a ha => h.2.2 a (List.mem_of_mem_take ha)⟩
  · rw [List.length_take]; omega
  · rw [List.length_take]; have := h.2.1; omega
theorem e189 {s : List Nat} (h : isSp s) {k : Nat} (hk : k < 6) (d : Nat) : E (d + 1) 189 [vl (jv (e27 s)), vi (iv k)] (c, l, x, y) = some (some (vi (iv (s.getD k 0 : Nat))), c, l, x, y) := by
  have hl := h.2.1
  have h6 := e27_lt6 h
  have l27 : (27 : Int64) = jv 27 := rfl
  have l0 : (0 : Int64) = jv 0 := rfl
  have down : ∀ (m q : Nat), q = k + m → q < s.length → X (d + 1) 189 25 [none, none, some (vi (iv k)), some (vl (jv (e27 (s.take (q + 1))))), none, none, some (vi (iv (q : Nat))), none] [] (c, l, x, y) = some (some (vi (iv (s.getD k 0 : Nat))), c, l, x, y) := by
    intro m
    induction m with
    | zero =>
      intro q hq hqs
      obtain ⟨t1, t2, t3, t4⟩ := e27_take h hqs
      rw [q_189_25]
      simp (disch := omega) only [iv_lt, if_neg, l27, jv_div, jv_mul, jv_sub, jv_iv]
      rw [show ((e27 (s.take (q + 1)) : Nat) : Int) - ((e27 (s.take (q + 1)) : Nat) : Int) / 27 * 27 = ((s.getD q 0 : Nat) : Int) by omega, show q = k by omega]
    | succ m ih =>
      intro q hq hqs
      obtain ⟨t1, t2, t3, t4⟩ := e27_take h hqs
      have := ih (q - 1) (by omega) (by omega)
      rw [show q - 1 + 1 = q by omega] at this
      rw [q_189_25]
      simp (disch := omega) only [iv_lt, if_pos, l27, jv_div, iv_L, iv_neg, iv_add]
      rw [show ((e27 (s.take (q + 1)) : Nat) : Int) / 27 = ((e27 (s.take q) : Nat) : Int) by omega, show ((q : Int) + -1) = ((q - 1 : Nat) : Int) by omega]
      exact this
  have up : ∀ (m j : Nat), j + m = s.length → X (d + 1) 189 6 [none, none, some (vi (iv k)), some (vl (jv (e27 s))), none, some (vi (iv (j : Nat))), some (vl (jv (e27 (s.take m)))), none] [] (c, l, x, y) = some (some (vi (iv (s.getD k 0 : Nat))), c, l, x, y) := by
    intro m
    induction m with
    | zero =>
      intro j hj
      rw [q_189_6, List.take_zero, show e27 [] = 0 from rfl, l0, jv_cmp (by decide) (by decide)]
      rw [if_neg (by decide)]
      simp (disch := omega) only [iv_lt, iv_L, iv_sub]
      by_cases e : k < s.length
      · rw [if_pos (by omega)]
        have := down (s.length - 1 - k) (s.length - 1) (by omega) (by omega)
        rw [show s.length - 1 + 1 = s.length by omega, List.take_of_length_le (Nat.le_refl _)] at this
        rw [show ((j : Int) - 1) = ((s.length - 1 : Nat) : Int) by omega]
        exact this
      · rw [if_neg (by omega), List.getD_eq_getElem?_getD, List.getElem?_eq_none (by omega)]
        rfl
    | succ m ih =>
      intro j hj
      obtain ⟨t1, t2, t3, t4⟩ := e27_take h (show m < s.length by omega)
      have hpos : 0 < e27 (s.take (m + 1)) := by omega
      rw [q_189_6, l0, jv_cmp (by omega) (by decide), if_pos (by rw [if_pos (by omega)]; decide), l27, jv_div (by omega) (by decide), show (1 : Int32) = iv 1 from rfl, iv_add, show ((e27 (s.take (m + 1)) : Nat) : Int) / 27 = ((e27 (s.take m) : Nat) : Int) by omega, show ((j : Int) + 1) = ((j + 1 : Nat) : Int) by omega]
      exact ih (j + 1) (by omega)
  rw [q_189]
  have := up s.length 0 (by omega)
  rw [List.take_of_length_le (Nat.le_refl _)] at this
  exact this
theorem m178 (h : AR c l K F row tp n fa fp rf sd oc) {z : Int} (hz : -2147483648 ≤ z ∧ z < 2147483648) (d : Nat) : E (d + 1) 178 [vr 48 0, vi (iv z)] (c, l, x, y) = some (some (vi (iv (if z = 0 then fa else if z = 1 then fp else -1))), c, l, x, y) := by
  rw [q_178, h.2.2.2.1.2.1, h.2.2.2.1.2.2.1]
  simp (disch := omega) only [iv_L, iv_neg, iv_eq]
  by_cases e : z = 0
  · simp only [if_pos e]
  · by_cases e1 : z = 1
    · simp only [if_neg e, if_pos e1]
    · simp only [if_neg e, if_neg e1]
theorem m179 (h : AR c l K F row tp n fa fp rf sd oc) (hv : VS K F row tp n fa fp sd oc) {z : Int} (hz : -2147483648 ≤ z ∧ z < 2147483648) (d : Nat) : E (d + 2) 179 [vr 48 0, vi (iv z)] (c, l, x, y) = some (some (vi (iv (coS K F row z))), c, l, x, y) := by
  have hc := h.1.1
  have hacc := hv.1.2.2.2.2.2
  have h20 := hv.1.1.1
  have e8 := hc.2.2.2.2.2.2
  rw [q_179, e180 h.1, h.2.1.1, h.1.2.2.2]
  simp (maxSteps := 2000000) (disch := omega) only [iv_L, iv_neg, iv_eq, am_bi_v]
  unfold coS
  by_cases e0 : z = 0
  · subst e0; simp (disch := omega) only [if_true, iv_add, iv_lt, iv_nat, if_neg, Int.toNat_natCast, Int.toNat_add, Int.toNat_mul, Int.reduceToNat]; exact congrArg (fun v => some (some (vi v), c, l, x, y)) hc.1.1
  by_cases e1 : z = 1
  · subst e1; simp (disch := omega) only [if_true, iv_add, iv_lt, iv_nat, if_neg, Int.toNat_natCast, Int.toNat_add, Int.toNat_mul, Int.reduceToNat]; exact congrArg (fun v => some (some (vi v), c, l, x, y)) hc.2.1.1
  by_cases e2 : z = 2
  · subst e2; simp (disch := omega) only [if_true, iv_add, iv_lt, iv_nat, if_neg, Int.toNat_natCast, Int.toNat_add, Int.toNat_mul, Int.reduceToNat]; exact congrArg (fun v => some (some (vi v), c, l, x, y)) hc.2.2.1.1
  by_cases e3 : z = 3
  · subst e3; simp (disch := omega) only [if_true, iv_add, iv_lt, iv_nat, if_neg, Int.toNat_natCast, Int.toNat_add, Int.toNat_mul, Int.reduceToNat]; exact congrArg (fun v => some (some (vi v), c, l, x, y)) hc.2.2.2.1.1
  by_cases e4 : z = 4
  · subst e4; simp (disch := omega) only [if_true, iv_add, iv_lt, iv_nat, if_neg, Int.toNat_natCast, Int.toNat_add, Int.toNat_mul, Int.reduceToNat]; exact congrArg (fun v => some (some (vi v), c, l, x, y)) hc.2.2.2.2.1.1
  simp only [if_neg e0, if_neg e1, if_neg e2, if_neg e3, if_neg e4]
  by_cases e5 : z = 5
  · simp only [if_pos e5]
  by_cases e6 : z = 6
  · simp only [if_neg e5, if_pos e6]
  by_cases e7 : z = 7
  · simp only [if_neg e5, if_neg e6, if_pos e7]
  by_cases e9 : z = 8
  · simp only [if_neg e5, if_neg e6, if_neg e7, if_pos e9]
    by_cases ha : kAc K = -1
    · rw [if_pos ha]
      rcases hacc with q | q
      · rw [q.2]
      · omega
    · rw [if_neg ha, (e8 ha).2]
  · simp only [if_neg e5, if_neg e6, if_neg e7, if_neg e9]
theorem e182 (h : RR c l K F) {z : Int} (hz : -2147483648 ≤ z ∧ z < 2147483648) (d : Nat) : E (d + 2) 182 [vr 48 0, vi (iv z)] (c, l, x, y) = some (some (vi (iv (if 0 ≤ z ∧ z < nW K then 1 else 0))), c, l, x, y) := by
  have hn := h.2.1.1.1
  rw [q_182, q_183, h.1.1.1]
  simp (disch := omega) only [am_bi_v, iv_L, iv_sub, jv_of, jv_L, jv_neg, jv_add, jv_sub, e171]
  by_cases e : 0 ≤ z ∧ z < nW K
  · rw [if_pos e, if_pos (show 0 ≤ z ∧ z ≤ (nW K : Int) - 1 by omega)]
    exact if_pos (Or.inr rfl)
  · rw [if_neg e, if_neg (show ¬ (0 ≤ z ∧ z ≤ (nW K : Int) - 1) by omega)]
    exact if_pos (Or.inl rfl)
theorem e191 (h : RR c l K F) {z : Int} (hz : -2147483648 ≤ z ∧ z < 2147483648) (d : Nat) : E (d + 2) 191 [vr 48 0, vi (iv z)] (c, l, x, y) = some (some (vi (iv (if 0 ≤ z ∧ z < nB K then 1 else 0))), c, l, x, y) := by
  have hn := h.2.1.2.2.2.1.1
  rw [q_191, q_185, h.1.2.2.2.1.1]
  simp (disch := omega) only [am_bi_v, iv_L, iv_sub, jv_of, jv_L, jv_neg, jv_add, jv_sub, e171]
  by_cases e : 0 ≤ z ∧ z < nB K
  · rw [if_pos e, if_pos (show 0 ≤ z ∧ z ≤ (nB K : Int) - 1 by omega)]
    exact if_pos (Or.inr rfl)
  · rw [if_neg e, if_neg (show ¬ (0 ≤ z ∧ z ≤ (nB K : Int) - 1) by omega)]
    exact if_pos (Or.inl rfl)
theorem e187 (h : RR c l K F) {b : Nat} (hb : b < nB K) (d : Nat) : E (d + 1) 187 [vr 48 0, vi (iv b)] (c, l, x, y) = some (some (vi (iv (sayK K b).length)), c, l, x, y) := by
  have hn := h.2.1.2.2.2.1.1
  rw [q_187]
  simp (disch := omega) only [iv_add, iv_sub, iv_mul, iv_neg, iv_lt, iv_le, iv_eq, iv_nat, iv_L, iv_L2, am_bi_v, am_bv_v, am_bl_v, if_pos, if_neg, Int.toNat_natCast, Int.toNat_add, Int.toNat_mul, Int.reduceToNat, (h.1.2.2.2.1.2 b hb).2.2.2.1]
theorem e188 (h : RR c l K F) {b k : Nat} (hb : b < nB K) (hk : k < (sayK K b).length) (d : Nat) : E (d + 1) 188 [vr 48 0, vi (iv b), vi (iv k)] (c, l, x, y) = some (some (vi (iv ((sayK K b).getD k 0 : Nat))), c, l, x, y) := by
  have hn := h.2.1.2.2.2.1
  have hl := (hn.2 b hb).2.2.2.2.1
  rw [q_188]
  simp (disch := omega) only [iv_add, iv_sub, iv_mul, iv_neg, iv_lt, iv_le, iv_eq, iv_nat, iv_L, iv_L2, am_bi_v, am_bv_v, am_bl_v, if_pos, if_neg, Int.toNat_natCast, Int.toNat_add, Int.toNat_mul, Int.reduceToNat, (h.1.2.2.2.1.2 b hb).2.2.2.2 k hk]
theorem e224 (h : RR c l K F) {b : Nat} (hb : b < nB K) (d : Nat) : E (d + 1) 224 [vr 48 0, vi (iv b)] (c, l, x, y) = some (some (vi (iv (bnK K b).2.2.1)), c, l, x, y) := by
  have hn := h.2.1.2.2.2.1.1
  rw [q_224]
  simp (disch := omega) only [iv_add, iv_sub, iv_mul, iv_neg, iv_lt, iv_le, iv_eq, iv_nat, iv_L, iv_L2, am_bi_v, am_bv_v, am_bl_v, if_pos, if_neg, Int.toNat_natCast, Int.toNat_add, Int.toNat_mul, Int.reduceToNat, (h.1.2.2.2.1.2 b hb).2.2.1]
theorem e186 (h : RR c l K F) {b : Nat} (hb : b < nB K) {z : Int} (hz : -2147483648 ≤ z ∧ z < 2147483648) (d : Nat) : E (d + 2) 186 [vr 48 0, vi (iv b), vi (iv z)] (c, l, x, y) = some (some (vi (iv (if (sayK K b).any (fun v : Nat => (v : Int) == z) then 1 else 0))), c, l, x, y) := by
  have hn := h.2.1.2.2.2.1
  have hl := (hn.2 b hb).2.2.2.2
  have h20 := h.2.1.1.1
  have key : ∀ (m k : Nat), k + m = (sayK K b).length → X (d + 2) 186 2 [some (vr 48 0), some (vi (iv b)), some (vi (iv z)), some (vi (iv (k : Nat)))] [] (c, l, x, y) = some (some (vi (iv (if ((sayK K b).drop k).any (fun v : Nat => (v : Int) == z) then 1 else 0))), c, l, x, y) := by
    intro m
    induction m with
    | zero =>
      intro k hk
      rw [q_186_2, e187 h hb]
      simp (disch := omega) only [am_bi_v, iv_lt, if_neg]
      rw [List.drop_of_length_le (by omega)]
      rfl
    | succ m ih =>
      intro k hk
      have hkl : k < (sayK K b).length := by omega
      have hm := hl.2.2 _ (getD_mem hkl)
      rw [q_186_2, e187 h hb]
      simp (disch := omega) only [am_bi_v, iv_lt, if_pos, e188 h hb hkl, iv_eq, iv_L, iv_add]
      rw [drop_getD hkl, List.any_cons]
      by_cases e : (((sayK K b).getD k 0 : Nat) : Int) = z
      · rw [if_pos e, beq_iff_eq.mpr e, Bool.true_or]
        rfl
      · rw [if_neg e, beq_eq_false_iff_ne.mpr e, Bool.false_or, show ((k : Int) + 1) = ((k + 1 : Nat) : Int) by omega]
        exact ih (k + 1) (by omega)
  rw [q_186]
  exact key (sayK K b).length 0 (by omega)
theorem e192 {ws : List Nat} (hr : RowAt c 78 0 ws) (hn : c 48 0 42 = iv ws.length) (hl : ws.length ≤ 8) (hw : ∀ w ∈ ws, w < 1000) {z : Int} (hz : -2147483648 ≤ z ∧ z < 2147483648) (d : Nat) : E (d + 1) 192 [vr 48 0, vi (iv z)] (c, l, x, y) = some (some (vi (iv (atR ws z))), c, l, x, y) := by
  rw [q_192]
  refine (findIdx_range ws z (fun i => X (d + 1) 192 2 [some (vr 48 0), some (vi (iv z)), some (vi (iv (i : Nat)))] [] (c, l, x, y)) (fun i => some (some (vi (iv (i : Nat))), c, l, x, y)) (some (some (vi (iv (-1))), c, l, x, y)) ?_ ?_).trans ?_
  · intro i hi
    have hm := hw _ (getD_mem hi)
    rw [q_192_2, hn]
    simp (disch := omega) only [iv_add, iv_sub, iv_mul, iv_neg, iv_lt, iv_le, iv_eq, iv_nat, iv_L, iv_L2, am_bi_v, am_bv_v, am_bl_v, if_pos, if_neg, Int.toNat_natCast, Int.toNat_add, Int.toNat_mul, Int.reduceToNat, hr i hi]
    rfl
  · rw [q_192_2, hn]
    simp (disch := omega) only [iv_add, iv_sub, iv_mul, iv_neg, iv_lt, iv_le, iv_eq, iv_nat, iv_L, iv_L2, am_bi_v, am_bv_v, am_bl_v, if_pos, if_neg, Int.toNat_natCast, Int.toNat_add, Int.toNat_mul, Int.reduceToNat]
  · unfold atR
    cases ws.findIdx? (fun w : Nat => (w : Int) == z) <;> rfl
theorem spokeR (h : AR c l K F row tp n fa fp rf sd oc) (hv : VS K F row tp n fa fp sd oc) {z : Int} (hz : -2147483648 ≤ z ∧ z < 2147483648) (d : Nat) : E (d + 1) 192 [vr 48 0, vi (iv z)] (c, l, x, y) = some (some (vi (iv (atR (whs row) z))), c, l, x, y) :=
  e192 h.2.1.2.2 (by rw [whs_len]; exact h.2.1.1) (by rw [whs_len]; have := row7 hv; omega) (fun w q => by have := whs_lt hv w q; omega) hz d
theorem m181_16 (h : RR c l K F) {z : Int} (hz : -2147483648 ≤ z ∧ z < 2147483648) (d : Nat) : ∀ (m i v : Nat), i + m = nB K → v ≤ i → X (d + 3) 181 16 [some (vr 48 0), some (vi (iv z)), none, some (vi (iv (v : Nat))), some (vi (iv (i : Nat)))] [] (c, l, x, y) = some (some (vi (iv ((v + (List.range' i m).countP (fun b => (sayK K b).any (fun v : Nat => (v : Int) == z)) : Nat) : Int))), c, l, x, y) := by
  have hn := h.2.1.2.2.2.1.1
  intro m
  induction m with
  | zero =>
    intro i v hi hv
    rw [q_181_16, q_185, h.1.2.2.2.1.1]
    simp (disch := omega) only [am_bi_v, iv_lt, if_neg]
    rfl
  | succ m ih =>
    intro i v hi hv
    rw [q_181_16, q_185, h.1.2.2.2.1.1]
    simp (disch := omega) only [am_bi_v, iv_lt, if_pos, e186 h (show i < nB K by omega) hz, iv_L, iv_add]
    rw [List.range'_succ, List.countP_cons, show ((i : Int) + 1) = ((i + 1 : Nat) : Int) by omega]
    cases e : (sayK K i).any (fun v : Nat => (v : Int) == z) with
    | true =>
      rw [if_neg (by decide), show ((v : Int) + 1) = ((v + 1 : Nat) : Int) by omega, ih (i + 1) (v + 1) (by omega) (by omega), if_pos rfl]
      congr 5
      omega
    | false =>
      rw [if_pos (by decide), ih (i + 1) v (by omega) (by omega), if_neg (by simp)]
      rfl
theorem m181_32 {ws : List Nat} (hr : RowAt c 77 0 ws) (hn : c 48 0 42 = iv ws.length) (hl : ws.length ≤ 8) (hw : ∀ w ∈ ws, w < 1000) {z : Int} (hz : -2147483648 ≤ z ∧ z < 2147483648) (d : Nat) : ∀ (m i v : Nat), i + m = ws.length → v ≤ i → X (d + 1) 181 32 [some (vr 48 0), some (vi (iv z)), none, some (vi (iv (v : Nat))), some (vi (iv (i : Nat)))] [] (c, l, x, y) = some (some (vi (iv ((v + cntW (ws.drop i) z : Nat) : Int))), c, l, x, y) := by
  intro m
  induction m with
  | zero =>
    intro i v hi hv
    rw [q_181_32, hn]
    simp (disch := omega) only [iv_add, iv_sub, iv_mul, iv_neg, iv_lt, iv_le, iv_eq, iv_nat, iv_L, iv_L2, am_bi_v, am_bv_v, am_bl_v, if_pos, if_neg, Int.toNat_natCast, Int.toNat_add, Int.toNat_mul, Int.reduceToNat]
    rw [List.drop_of_length_le (by omega)]
    rfl
  | succ m ih =>
    intro i v hi hv
    have hil : i < ws.length := by omega
    have hm := hw _ (getD_mem hil)
    rw [q_181_32, hn]
    simp (disch := omega) only [iv_add, iv_sub, iv_mul, iv_neg, iv_lt, iv_le, iv_eq, iv_nat, iv_L, iv_L2, am_bi_v, am_bv_v, am_bl_v, if_pos, if_neg, Int.toNat_natCast, Int.toNat_add, Int.toNat_mul, Int.reduceToNat, hr i hil]
    rw [drop_getD hil, show ((i : Int) + 1) = ((i + 1 : Nat) : Int) by omega]
    unfold cntW
    rw [List.countP_cons]
    by_cases e : ((ws.getD i 0 : Nat) : Int) = z
    · rw [if_pos e, show ((v : Int) + 1) = ((v + 1 : Nat) : Int) by omega, ih (i + 1) (v + 1) (by omega) (by omega)]
      unfold cntW
      rw [beq_iff_eq.mpr e, if_pos rfl]
      congr 5
      omega
    · rw [if_neg e, ih (i + 1) v (by omega) (by omega)]
      unfold cntW
      rw [beq_eq_false_iff_ne.mpr e, if_neg (by simp)]
      rfl
theorem m181 (h : AR c l K F row tp n fa fp rf sd oc) (hv : VS K F row tp n fa fp sd oc) {w z : Int} (hw : -2147483648 ≤ w ∧ w < 2147483648) (hz : -2147483648 ≤ z ∧ z < 2147483648) (d : Nat) : E (d + 3) 181 [vr 48 0, vi (iv w), vi (iv z)] (c, l, x, y) = some (some (vi (iv (woS K row w z))), c, l, x, y) := by
  have h20 := hv.1.1.1
  have h7 := row7 hv
  rw [q_181, e182 h.1 hw]
  unfold woS
  by_cases e : 0 ≤ w ∧ w < nW K
  · rw [if_pos e, if_pos e]
    obtain ⟨k, rfl⟩ := Int.eq_ofNat_of_zero_le e.1
    have hk : k < nW K := by omega
    have hw1 := hv.1.1.2 k hk
    have hcell := h.1.1.1.2 k hk
    have a1 := m181_16 (x := x) (y := y) h.1 hw d (nB K) 0 0 (by omega) (Nat.le_refl _)
    have a2 := m181_32 (l := l) (x := x) (y := y) h.2.1.2.1 (by rw [wds_len]; exact h.2.1.1) (by rw [wds_len]; omega) (fun w q => by have := wds_lt hv w q; omega) hw (d + 2) (wds row).length 0 0 (by omega) (Nat.le_refl _)
    simp (disch := omega) only [am_bi_v, iv_L, iv_eq, if_neg, e184 h.1 hk]
    by_cases z0 : z = 0
    · simp only [if_pos z0]; rfl
    by_cases z1 : z = 1
    · simp only [if_neg z0, if_pos z1]
      refine a1.trans ?_
      unfold spkS
      rw [Nat.zero_add, ← List.range_eq_range']
    by_cases z2 : z = 2
    · simp only [if_neg z0, if_neg z1, if_pos z2]
      refine a2.trans ?_
      rw [Nat.zero_add, List.drop_zero]
    · simp only [if_neg z0, if_neg z1, if_neg z2]
      simp (disch := omega) only [jv_of, jv_L, jv_neg, jv_add, jv_sub, e171, am_bi_v]
      unfold letS
      by_cases z3 : 10 ≤ z ∧ z ≤ 15
      · rw [if_pos z3, if_pos (show 0 ≤ z - 10 ∧ z - 10 < 6 by omega)]
        obtain ⟨j, hj⟩ := Int.eq_ofNat_of_zero_le (show 0 ≤ z - 10 by omega)
        rw [if_neg (by decide)]
        simp (disch := omega) only [iv_add, iv_sub, iv_mul, iv_neg, iv_lt, iv_le, iv_eq, iv_nat, iv_L, iv_L2, am_bi_v, am_bv_v, am_bl_v, if_pos, if_neg, Int.toNat_natCast, Int.toNat_add, Int.toNat_mul, Int.reduceToNat, hcell.2]
        rw [hj, e189 hw1.1 (by omega)]
        rfl
      · rw [if_neg z3, if_neg (show ¬ (0 ≤ z - 10 ∧ z - 10 < 6) by omega)]
        rfl
  · rw [if_neg e, if_neg e]
    rfl
theorem m190 (h : AR c l K F row tp n fa fp rf sd oc) (hv : VS K F row tp n fa fp sd oc) {w z : Int} (hw : -2147483648 ≤ w ∧ w < 2147483648) (hz : -2147483648 ≤ z ∧ z < 2147483648) (d : Nat) : E (d + 3) 190 [vr 48 0, vi (iv w), vi (iv z)] (c, l, x, y) = some (some (vi (iv (beS K row w z))), c, l, x, y) := by
  have h7 := hv.1.2.2.2.1.1
  rw [q_190, e191 h.1 hw]
  unfold beS
  by_cases e : 0 ≤ w ∧ w < nB K
  · rw [if_pos e, if_pos e]
    obtain ⟨k, rfl⟩ := Int.eq_ofNat_of_zero_le e.1
    have hk : k < nB K := by omega
    have hb := hv.1.2.2.2.1.2 k hk
    have hc := h.1.1.2.2.2.1.2 k hk
    simp (disch := omega) only [am_bi_v, iv_L, iv_eq, if_neg, jv_of, jv_L, jv_neg, jv_add, jv_sub, e171, Int.toNat_natCast]
    by_cases z02 : 0 ≤ z ∧ z ≤ 2
    · rw [if_pos z02, if_neg (by decide)]
      obtain ⟨j, rfl⟩ := Int.eq_ofNat_of_zero_le z02.1
      have hj : j < 3 := by omega
      simp (disch := omega) only [iv_add, iv_sub, iv_mul, iv_neg, iv_lt, iv_le, iv_eq, iv_nat, iv_L, iv_L2, am_bi_v, am_bv_v, am_bl_v, if_pos, if_neg, Int.toNat_natCast, Int.toNat_add, Int.toNat_mul, Int.reduceToNat]
      rcases (show j = 0 ∨ j = 1 ∨ j = 2 by omega) with rfl | rfl | rfl
      · exact congrArg (fun v => some (some (vi v), c, l, x, y)) hc.2.1
      · exact congrArg (fun v => some (some (vi v), c, l, x, y)) hc.2.2.1
      · exact congrArg (fun v => some (some (vi v), c, l, x, y)) hc.2.2.2.1
    · rw [if_neg z02, if_pos (by decide), if_neg (show ¬ z = 0 by omega), if_neg (show ¬ z = 1 by omega), if_neg (show ¬ z = 2 by omega)]
      by_cases z3 : z = 3
      · rw [if_pos z3, if_pos z3, spokeR h hv hw]
        rfl
      · rw [if_neg z3, if_neg z3]
        by_cases z20 : 20 ≤ z ∧ z ≤ 25
        · rw [if_pos z20, if_neg (by decide), if_neg (show ¬ (10 ≤ z ∧ z < 10 + ((sayK K k).length : Int)) by have := hb.2.2.2.2.1; omega)]
          unfold letS
          rw [if_pos (show 0 ≤ z - 20 ∧ z - 20 < 6 by omega)]
          obtain ⟨j, hj⟩ := Int.eq_ofNat_of_zero_le (show 0 ≤ z - 20 by omega)
          simp (disch := omega) only [iv_add, iv_sub, iv_mul, iv_neg, iv_lt, iv_le, iv_eq, iv_nat, iv_L, iv_L2, am_bi_v, am_bv_v, am_bl_v, if_pos, if_neg, Int.toNat_natCast, Int.toNat_add, Int.toNat_mul, Int.reduceToNat, hc.1]
          rw [hj, e189 hb.1 (by omega)]
          rfl
        · rw [if_neg z20, if_pos (by decide), e187 h.1 hk]
          have hl4 := hb.2.2.2.2.1
          simp (disch := omega) only [am_bi_v, iv_sub]
          by_cases zlow : z < -2147483638
          · have hwrap : iv (z - 10) = iv (z - 10 + 4294967296) := by
              apply Int32.toInt_inj.1
              rw [iv, iv, Int32.toInt_ofInt, Int32.toInt_ofInt]
              show Int.bmod _ (2 ^ 32) = Int.bmod _ (2 ^ 32)
              rw [show z - 10 + 4294967296 = z - 10 + ((2 ^ 32 : Nat) : Int) from rfl, Int.add_bmod_right]
            rw [hwrap]
            simp (disch := omega) only [jv_of, jv_L, jv_neg, jv_add, jv_sub, e171, am_bi_v]
            rw [if_neg (show ¬ (0 ≤ z - 10 + 4294967296 ∧ z - 10 + 4294967296 ≤ ((sayK K k).length : Int) - 1) by omega), if_neg (show ¬ (10 ≤ z ∧ z < 10 + ((sayK K k).length : Int)) by omega)]
            unfold letS
            rw [if_neg (show ¬ (0 ≤ z - 20 ∧ z - 20 < 6) by omega)]
            rfl
          · simp (disch := omega) only [jv_of, jv_L, jv_neg, jv_add, jv_sub, e171, am_bi_v]
            by_cases z10 : 10 ≤ z ∧ z < 10 + ((sayK K k).length : Int)
            · rw [if_pos (show 0 ≤ z - 10 ∧ z - 10 ≤ ((sayK K k).length : Int) - 1 by omega), if_pos z10, if_neg (by decide)]
              obtain ⟨j, hj⟩ := Int.eq_ofNat_of_zero_le (show 0 ≤ z - 10 by omega)
              rw [hj, e188 h.1 hk (by omega)]
              rfl
            · rw [if_neg (show ¬ (0 ≤ z - 10 ∧ z - 10 ≤ ((sayK K k).length : Int) - 1) by omega), if_neg z10]
              unfold letS
              rw [if_neg (show ¬ (0 ≤ z - 20 ∧ z - 20 < 6) by omega)]
              rfl
  · rw [if_neg e, if_neg e]
    rfl
end
