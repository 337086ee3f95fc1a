/-! the reference: what a row means -/
section
variable {c : Nat → Nat → Nat → Int32} {l : Nat → Nat → Int64} {x y : Nat} {K : Ct} {F : Nat} {row : List (Nat × Nat)} {tp : Nat → Nat} {n : Nat} {fa fp : Int} {rf : Nat → Int32} {sd : Int} {oc : List Nat}
theorem m193 (h : AR c l K F row tp n fa fp rf sd oc) {w z : Int} (hw : -2147483648 ≤ w ∧ w < 2147483648) (hz : -2147483648 ≤ z ∧ z < 2147483648) (d : Nat) : E (d + 2) 193 [vr 48 0, vi (iv w), vi (iv z)] (c, l, x, y) = some (some (vi (iv (grS K w z))), c, l, x, y) := by
  have hn := h.1.2.1.2.1.1
  rw [q_193, q_177, h.1.1.2.1.1]
  simp (disch := omega) only [am_bi_v, iv_L, iv_sub, jv_of, jv_L, jv_neg, jv_add, jv_sub, e171]
  unfold grS
  by_cases e : 0 ≤ w ∧ w < nL K
  · rw [if_pos (show 0 ≤ w ∧ w ≤ (nL K : Int) - 1 by omega), if_neg (by decide)]
    obtain ⟨k, rfl⟩ := Int.eq_ofNat_of_zero_le e.1
    have hk : k < nL K := by omega
    have hs := sl_len _ (h.1.2.1.2.1.2 k hk)
    by_cases e0 : 0 ≤ z ∧ z ≤ 2
    · obtain ⟨j, rfl⟩ := Int.eq_ofNat_of_zero_le e0.1
      have hc := h.1.1.2.1.2 k hk j (by omega)
      rw [if_pos e0, if_neg (by decide)]
      simp (disch := omega) only [iv_add, iv_sub, iv_mul, iv_neg, iv_lt, iv_le, iv_eq, iv_nat, iv_L, iv_L2, am_bi_v, am_bv_v, am_bl_v, if_pos, if_neg, Int.toNat_natCast, Int.toNat_add, Int.toNat_mul, Int.reduceToNat, hc]
      unfold slotE
      by_cases e1 : j < (lnK K k).length
      · rw [if_pos (by omega), List.getD_eq_getElem?_getD, List.getElem?_eq_getElem e1]
        rfl
      · rw [if_neg (by omega), List.getElem?_eq_none (by omega)]
    · rw [if_neg e0, if_pos (by decide), if_neg (by rw [Int.toNat_natCast]; omega)]
      rfl
  · rw [if_neg (show ¬ (0 ≤ w ∧ w ≤ (nL K : Int) - 1) by omega), if_pos (by decide), if_neg (fun q => e q.1)]
    rfl
theorem m194 (h : AR c l K F row tp n fa fp rf sd oc) (hv : VS K F row tp n fa fp sd oc) {p z : Int} (hp : -2147483648 ≤ p ∧ p < 2147483648) (hz : -2147483648 ≤ z ∧ z < 2147483648) (d : Nat) : E (d + 2) 194 [vr 48 0, vi (iv p), vi (iv z)] (c, l, x, y) = some (some (vi (iv (roS row p (decide (z ≠ 0))))), c, l, x, y) := by
  have h7 := row7 hv
  rw [q_194, h.2.1.1]
  simp (disch := omega) only [iv_L, iv_sub, jv_of, jv_L, jv_neg, jv_add, jv_sub, e171, am_bi_v]
  unfold roS
  by_cases e : 0 ≤ p ∧ p < row.length
  · rw [if_pos (show 0 ≤ p ∧ p ≤ (row.length : Int) - 1 by omega), if_pos e, if_neg (by decide)]
    obtain ⟨k, rfl⟩ := Int.eq_ofNat_of_zero_le e.1
    have hk : k < row.length := by omega
    simp (disch := omega) only [iv_add, iv_sub, iv_mul, iv_neg, iv_lt, iv_le, iv_eq, iv_nat, iv_L, iv_L2, am_bi_v, am_bv_v, am_bl_v, if_pos, if_neg, Int.toNat_natCast, Int.toNat_add, Int.toNat_mul, Int.reduceToNat, h.2.1.2.1 k (by rw [wds_len]; exact hk), h.2.1.2.2 k (by rw [whs_len]; exact hk)]
    by_cases z0 : z = 0
    · rw [if_pos z0, if_neg (by simp [z0])]
    · rw [if_neg z0, if_pos (by simp [z0])]
  · rw [if_neg (show ¬ (0 ≤ p ∧ p ≤ (row.length : Int) - 1) by omega), if_neg e]
    rfl
/-- the row is read -/
theorem e201 (h : AR c l K F row tp n fa fp rf sd oc) (hv : VS K F row tp n fa fp sd oc) (d : Nat) : ∃ c2 : Nat → Nat → Nat → Int32, E (d + 6) 201 [vr 48 0] (c, l, x, y) = some (some (vi (iv (if (mnR K F (wds row)).isSome then 1 else 0))), c2, l, x, y) ∧ Sx c c2 ∧ (∀ cs, mnR K F (wds row) = some cs → ClsAt c2 cs) ∧ (mnR K F (wds row) = none → c2 48 0 48 = iv (senR K F (wds row))) := by
  have h7 := row7 hv
  obtain ⟨c1, a1, a2, a3⟩ := e202 (l := l) (x := x) (y := y) h.2.1.2.1 (by rw [wds_len]; exact h.2.1.1) (by rw [wds_len]; omega) (sk := -1) (by omega) (d + 3)
  obtain ⟨c2, b1, b2, b3, b4⟩ := e204 (x := x) (y := y) (Sx_RR a2 h.1) a3 (wds_lt hv) (by show (wds row).length ≤ 16; rw [wds_len]; omega) d
  refine ⟨c2, ?_, a2.tr b2, b3, b4⟩
  rw [q_201, show (-1 : Int32) = iv (-1) from rfl, a1]
  simp only [am_bv_v]
  rw [b1]
  simp only [am_bi_v]
  rw [show meanO K F (hearA K F (rowBut (wds row) (-1))) = mnR K F (wds row) from rfl]
  cases (mnR K F (wds row)).isSome with
  | true => exact if_pos (Or.inr rfl)
  | false => exact if_pos (Or.inl rfl)
theorem m200 (h : AR c l K F row tp n fa fp rf sd oc) (hv : VS K F row tp n fa fp sd oc) (d : Nat) : ∃ c2 : Nat → Nat → Nat → Int32, E (d + 7) 200 [vr 48 0] (c, l, x, y) = some (some (vi (iv (senR K F (wds row)))), c2, l, x, y) ∧ Sx c c2 := by
  obtain ⟨c2, b1, b2, b3, b4⟩ := e201 (x := x) (y := y) h hv d
  have hs := (senR_iff (K := K) (F := F) (wds row)).1
  refine ⟨c2, ?_, b2⟩
  rw [q_200, b1]
  simp only [am_bi_v]
  cases hm : mnR K F (wds row) with
  | none => rw [← b4 hm]; rfl
  | some cs =>
    rw [hs.mpr (by rw [hm]; rfl)]
    rfl
theorem m208 (h : AR c l K F row tp n fa fp rf sd oc) (hv : VS K F row tp n fa fp sd oc) {k z : Int} (hk : -2147483648 ≤ k ∧ k < 2147483648) (hz : -2147483648 ≤ z ∧ z < 2147483648) (d : Nat) : ∃ c2 : Nat → Nat → Nat → Int32, E (d + 7) 208 [vr 48 0, vi (iv k), vi (iv z)] (c, l, x, y) = some (some (vi (iv (telR K F (wds row) k z))), c2, l, x, y) ∧ Sx c c2 := by
  have h7 := row7 hv
  obtain ⟨c2, b1, b2, b3, b4⟩ := e201 (x := x) (y := y) h hv d
  refine ⟨c2, ?_, b2⟩
  rw [q_208, b1]
  simp only [am_bi_v]
  unfold telR
  cases hm : mnR K F (wds row) with
  | none => rfl
  | some cs =>
    obtain ⟨m1, m2, m3, m4⟩ := mean_HI hv.1 (wds_lt hv) hm
    rw [wds_len] at m2
    have hC := b3 cs hm
    simp only [Option.isSome_some, if_true]
    rw [if_neg (by decide), hC.1]
    simp (disch := omega) only [iv_L, iv_sub, jv_of, jv_L, jv_neg, jv_add, jv_sub, e171, am_bi_v]
    unfold telC
    by_cases e : 0 ≤ k ∧ k ≤ (cs.length : Int) - 1
    · rw [if_pos e, if_neg (by decide), if_pos e.1]
      obtain ⟨j, rfl⟩ := Int.eq_ofNat_of_zero_le e.1
      have hj : j < cs.length := by omega
      rw [Int.toNat_natCast, List.getElem?_eq_getElem hj]
      have hcl : clN cs j = cs[j] := by unfold clN; rw [List.getD_eq_getElem?_getD, List.getElem?_eq_getElem hj]; rfl
      have hq := hC.2 j hj
      rw [hcl] at hq
      dsimp only
      unfold telCl
      by_cases e2 : 0 ≤ z ∧ z ≤ 5
      · rw [if_pos e2, if_neg (by decide)]
        obtain ⟨i, rfl⟩ := Int.eq_ofNat_of_zero_le e2.1
        simp (disch := omega) only [iv_add, iv_sub, iv_mul, iv_neg, iv_lt, iv_le, iv_eq, iv_nat, iv_L, iv_L2, am_bi_v, am_bv_v, am_bl_v, if_pos, if_neg, Int.toNat_natCast, Int.toNat_add, Int.toNat_mul, Int.reduceToNat]
        rcases (show i = 0 ∨ i = 1 ∨ i = 2 ∨ i = 3 ∨ i = 4 ∨ i = 5 by omega) with rfl | rfl | rfl | rfl | rfl | rfl
        · exact congrArg (fun v => some (some (vi v), c2, l, x, y)) hq.1
        · exact congrArg (fun v => some (some (vi v), c2, l, x, y)) hq.2.1
        · exact congrArg (fun v => some (some (vi v), c2, l, x, y)) hq.2.2.1
        · exact congrArg (fun v => some (some (vi v), c2, l, x, y)) hq.2.2.2.1
        · exact congrArg (fun v => some (some (vi v), c2, l, x, y)) hq.2.2.2.2.1
        · exact congrArg (fun v => some (some (vi v), c2, l, x, y)) hq.2.2.2.2.2
      · rw [if_neg e2, if_pos (by decide), if_neg (show ¬ z = 0 by omega), if_neg (show ¬ z = 1 by omega), if_neg (show ¬ z = 2 by omega), if_neg (show ¬ z = 3 by omega), if_neg (show ¬ z = 4 by omega), if_neg (show ¬ z = 5 by omega)]
        rfl
    · rw [if_neg e, if_pos (by decide)]
      by_cases e0 : 0 ≤ k
      · rw [if_pos e0, List.getElem?_eq_none (by omega)]
        rfl
      · rw [if_neg e0]
        rfl
theorem m209 (h : AR c l K F row tp n fa fp rf sd oc) (hv : VS K F row tp n fa fp sd oc) {z : Int} (hz : -2147483648 ≤ z ∧ z < 2147483648) (d : Nat) : ∃ c2 : Nat → Nat → Nat → Int32, E (d + 7) 209 [vr 48 0, vi (iv z)] (c, l, x, y) = some (some (vi (iv (exaR K F (wds row) z))), c2, l, x, y) ∧ Sx c c2 := by
  have h7 := row7 hv
  rw [q_209]
  simp (disch := omega) only [iv_L, jv_of, jv_L, jv_neg, jv_add, jv_sub, e171, am_bi_v]
  unfold exaR
  by_cases e : 0 ≤ z ∧ z ≤ 2
  · obtain ⟨c2, b1, b2, b3, b4⟩ := e201 (x := x) (y := y) h hv d
    refine ⟨c2, ?_, b2⟩
    obtain ⟨k, rfl⟩ := Int.eq_ofNat_of_zero_le e.1
    rw [if_pos e, if_pos e, if_neg (by decide), b1]
    simp only [am_bi_v]
    cases hm : mnR K F (wds row) with
    | none => rfl
    | some cs =>
      obtain ⟨m1, m2, m3, m4⟩ := mean_HI hv.1 (wds_lt hv) hm
      rw [wds_len] at m1 m2
      have e3 := e210 (x := x) (y := y) (Sx_RR b2 h.1) (b3 cs hm) (by omega) m3 (fun cl q => CB_mono (m1 cl q) (by omega)) m4 (show k < 3 by omega) (d + 3)
      simp only [Option.isSome_some, if_true]
      rw [if_neg (by decide), e3]
      simp only [am_bi_v, Int.toNat_natCast]
      by_cases e9 : allSo K k cs = true
      · rw [if_neg (by rw [if_pos e9]; decide), if_pos e9]
      · rw [if_pos (by rw [if_neg e9]), if_neg e9]
  · refine ⟨c, ?_, Sx.rf c⟩
    rw [if_neg e, if_neg e]
    rfl
theorem e214 (h : AR c l K F row tp n fa fp rf sd oc) (hv : VS K F row tp n fa fp sd oc) (d : Nat) : ∃ c2 : Nat → Nat → Nat → Int32, E (d + 7) 214 [vr 48 0] (c, l, x, y) = some (some (vi (iv (rul K F (wds row)))), c2, l, x, y) ∧ Sx c c2 := by
  have h7 := row7 hv
  obtain ⟨c1, a1, a2, a3⟩ := e202 (l := l) (x := x) (y := y) h.2.1.2.1 (by rw [wds_len]; exact h.2.1.1) (by rw [wds_len]; omega) (sk := -1) (by omega) (d + 4)
  obtain ⟨c2, b1, b2⟩ := e215 (x := x) (y := y) (Sx_RR a2 h.1) a3 (wds_lt hv) (by show (wds row).length ≤ 16; rw [wds_len]; omega) d
  refine ⟨c2, ?_, a2.tr b2⟩
  rw [q_214, show (-1 : Int32) = iv (-1) from rfl, a1]
  simp only [am_bv_v]
  rw [b1]
  rfl
theorem m213 (h : AR c l K F row tp n fa fp rf sd oc) (hv : VS K F row tp n fa fp sd oc) {z : Int} (hz : -2147483648 ≤ z ∧ z < 2147483648) (d : Nat) : ∃ c2 : Nat → Nat → Nat → Int32, E (d + 8) 213 [vr 48 0, vi (iv z)] (c, l, x, y) = some (some (vi (iv (rlgS K F (wds row) z))), c2, l, x, y) ∧ Sx c c2 := by
  obtain ⟨c2, b1, b2⟩ := e214 (x := x) (y := y) h hv d
  have hr := rul_lt K F (wds row)
  have ht := tru_lt K
  rw [q_213]
  simp (disch := omega) only [iv_L, iv_neg, iv_eq]
  unfold rlgS
  by_cases z0 : z = 0
  · refine ⟨c2, ?_, b2⟩
    simp only [if_pos z0]; rw [b1]; rfl
  by_cases z1 : z = 1
  · refine ⟨c, ?_, Sx.rf c⟩
    simp only [if_neg z0, if_pos z1]; rw [e216 h.1]; rfl
  by_cases z2 : z = 2
  · refine ⟨c2, ?_, b2⟩
    simp only [if_neg z0, if_neg z1, if_pos z2]
    rw [b1]
    simp only [am_bi_v]
    rw [e216 (Sx_RR b2 h.1)]
    simp (disch := omega) only [am_bi_v, iv_eq]
    by_cases e : rul K F (wds row) = tru K
    · rw [if_pos (by omega), if_pos e]
    · rw [if_neg (by omega), if_neg e]
  · refine ⟨c, ?_, Sx.rf c⟩
    simp only [if_neg z0, if_neg z1, if_neg z2]
theorem e219 (h : RR c l K F) {m : Nat} (hm : m < nC K) (d : Nat) : ∃ c2 : Nat → Nat → Nat → Int32, E (d + 7) 219 [vr 48 0, vi (iv m)] (c, l, x, y) = some (some (vi (iv (rul K F (csK K m)))), c2, l, x, y) ∧ Sx c c2 := by
  have h8 := h.2.1.2.2.2.2.1.2 m hm
  obtain ⟨c1, a1, a2, a3⟩ := e220 (x := x) (y := y) h hm (sk := -1) (by omega) (d + 4)
  obtain ⟨c2, b1, b2⟩ := e215 (x := x) (y := y) (Sx_RR a2 h) a3 h8.2.2 (by show (csK K m).length ≤ 16; omega) d
  refine ⟨c2, ?_, a2.tr b2⟩
  rw [q_219, show (-1 : Int32) = iv (-1) from rfl, a1]
  simp only [am_bv_v]
  rw [b1]
  rfl
theorem m217 (h : AR c l K F row tp n fa fp rf sd oc) (hv : VS K F row tp n fa fp sd oc) {i z : Int} (hi : -2147483648 ≤ i ∧ i < 2147483648) (hz : -2147483648 ≤ z ∧ z < 2147483648) (d : Nat) : ∃ c2 : Nat → Nat → Nat → Int32, E (d + 8) 217 [vr 48 0, vi (iv i), vi (iv z)] (c, l, x, y) = some (some (vi (iv (insS K F i z))), c2, l, x, y) ∧ Sx c c2 := by
  have h8 := hv.1.2.2.2.2.1
  rw [q_217, q_218, h.1.1.2.2.2.2.1.1]
  simp (disch := omega) only [am_bi_v, iv_L, iv_sub, iv_neg, jv_of, jv_L, jv_neg, jv_add, jv_sub, e171, iv_eq]
  unfold insS
  by_cases e : 0 ≤ i ∧ i < nC K
  · rw [if_pos (show 0 ≤ i ∧ i ≤ (nC K : Int) - 1 by omega), if_pos e]
    obtain ⟨m, rfl⟩ := Int.eq_ofNat_of_zero_le e.1
    have hm : m < nC K := by omega
    have hl := h8.2 m hm
    rw [if_neg (by decide), Int.toNat_natCast]
    by_cases z0 : z = 0
    · obtain ⟨c2, b1, b2⟩ := e219 (x := x) (y := y) h.1 hm d
      refine ⟨c2, ?_, b2⟩
      simp only [if_pos z0]; rw [b1]; rfl
    by_cases z1 : z = 1
    · obtain ⟨c1, a1, a2, a3⟩ := e220 (x := x) (y := y) h.1 hm (sk := -1) (by omega) (d + 5)
      obtain ⟨c2, b1, b2, b3, b4⟩ := e204 (x := x) (y := y) (Sx_RR a2 h.1) a3 hl.2.2 (by show (csK K m).length ≤ 16; omega) (d + 2)
      refine ⟨c2, ?_, a2.tr b2⟩
      simp only [if_neg z0, if_pos z1]
      rw [a1]
      simp only [am_bv_v]
      rw [b1]
      simp only [am_bi_v]
      have hs := (senR_iff (K := K) (F := F) (csK K m)).1
      change _ = some (some (vi (iv (senR K F (csK K m)))), c2, l, x, y)
      change ∀ cs, mnR K F (csK K m) = some cs → _ at b3
      change mnR K F (csK K m) = none → c2 48 0 48 = iv (senR K F (csK K m)) at b4
      change (if iv (if (mnR K F (csK K m)).isSome = true then 1 else 0) = iv 0 then _ else _) = _
      cases hm2 : mnR K F (csK K m) with
      | none => rw [← b4 hm2]; rfl
      | some cs =>
        rw [hs.mpr (by rw [hm2]; rfl)]
        rfl
    by_cases z2 : z = 2
    · refine ⟨c, ?_, Sx.rf c⟩
      simp only [if_neg z0, if_neg z1, if_pos z2]
      simp (disch := omega) only [iv_add, iv_sub, iv_mul, iv_neg, iv_lt, iv_le, iv_eq, iv_nat, iv_L, iv_L2, am_bi_v, am_bv_v, am_bl_v, if_pos, if_neg, Int.toNat_natCast, Int.toNat_add, Int.toNat_mul, Int.reduceToNat, (h.1.1.2.2.2.2.1.2 m hm).1]
    · refine ⟨c, ?_, Sx.rf c⟩
      simp only [if_neg z0, if_neg z1, if_neg z2]
  · refine ⟨c, ?_, Sx.rf c⟩
    rw [if_neg (show ¬ (0 ≤ i ∧ i ≤ (nC K : Int) - 1) by omega), if_neg e]
    rfl
theorem insAt_len (ws : List Nat) (p w : Nat) (h : p ≤ ws.length) : (insAt ws p w).length = ws.length + 1 := by
  unfold insAt
  rw [List.length_append, List.length_cons, List.length_take, List.length_drop]
  omega
theorem insAt_getD (ws : List Nat) (p w j : Nat) (h : p ≤ ws.length) : (insAt ws p w).getD j 0 = if j < p then ws.getD j 0 else if j = p then w else ws.getD (j - 1) 0 := by
  unfold insAt
  have hl : (ws.take p).length = p := by rw [List.length_take]; omega
  rw [List.getD_eq_getElem?_getD, List.getD_eq_getElem?_getD, List.getD_eq_getElem?_getD]
  by_cases e : j < p
  · rw [if_pos e, List.getElem?_append_left (by omega), List.getElem?_take_of_lt e]
  · rw [if_neg e, List.getElem?_append_right (by omega), hl]
    by_cases e2 : j = p
    · rw [if_pos e2, e2, Nat.sub_self]
      rfl
    · rw [if_neg e2, show j - p = (j - p - 1) + 1 by omega, List.getElem?_cons_succ, List.getElem?_drop, show p + (j - p - 1) = j - 1 by omega]
theorem insAt_mem {ws : List Nat} {p w v : Nat} (h : v ∈ insAt ws p w) : v = w ∨ v ∈ ws := by
  unfold insAt at h
  rcases List.mem_append.mp h with q | q
  · exact Or.inr (List.mem_of_mem_take q)
  · rcases List.mem_cons.mp q with q | q
    · exact Or.inl q
    · exact Or.inr (List.mem_of_mem_drop q)
/-- a word is put into what is tried -/
theorem e230 {ws : List Nat} (hT : TR c ws) (hl : ws.length < 16) {p w : Nat} (hp : p ≤ ws.length) (d : Nat) : ∃ c2 : Nat → Nat → Nat → Int32, E (d + 1) 230 [vr 48 0, vi (iv p), vi (iv w)] (c, l, x, y) = some (none, c2, l, x, y) ∧ Sx c c2 ∧ TR c2 (insAt ws p w) := by
  have key : ∀ (m k : Nat) (c1 : Nat → Nat → Nat → Int32), k = p + m → k ≤ ws.length → Sx c c1 → c1 48 0 44 = iv ws.length → (∀ j, j < k → c1 79 0 j = iv (ws.getD j 0 : Nat)) → (∀ j, k < j → j ≤ ws.length → c1 79 0 j = iv (ws.getD (j - 1) 0 : Nat)) → ∃ c2 : Nat → Nat → Nat → Int32, X (d + 1) 230 3 [some (vr 48 0), some (vi (iv p)), some (vi (iv w)), some (vi (iv (k : Nat)))] [] (c1, l, x, y) = some (none, c2, l, x, y) ∧ Sx c c2 ∧ TR c2 (insAt ws p w) := by
    intro m
    induction m with
    | zero =>
      intro k c1 hk hkl hS h44 h1 h2
      refine ⟨am_ui (am_ui c1 79 0 p (iv w)) 48 0 44 (iv ((ws.length : Int) + 1)), ?_, hS.tr ((Sx.ui _ _ _ _ (by omega)).tr (Sx.ui _ _ _ _ (by omega))), ?_, ?_⟩
      · rw [q_230_3, h44]
        simp (disch := omega) only [iv_add, iv_sub, iv_mul, iv_neg, iv_lt, iv_le, iv_eq, iv_nat, iv_L, iv_L2, am_bi_v, am_bv_v, am_bl_v, if_pos, if_neg, Int.toNat_natCast, Int.toNat_add, Int.toNat_mul, Int.reduceToNat]
      · rw [ui_self, insAt_len ws p w hp]; rfl
      · intro j hj
        rw [insAt_len ws p w hp] at hj
        rw [insAt_getD ws p w j hp, ui_ne _ _ _ _ (by omega)]
        by_cases e : j = p
        · subst e; rw [ui_self, if_neg (by omega), if_pos rfl]
        · rw [ui_ne _ _ _ _ (by omega)]
          by_cases e2 : j < p
          · rw [if_pos e2]; exact h1 j (by omega)
          · rw [if_neg e2, if_neg e]; exact h2 j (by omega) (by omega)
    | succ m ih =>
      intro k c1 hk hkl hS h44 h1 h2
      obtain ⟨c2, g1, g2, g3⟩ := ih (k - 1) (am_ui c1 79 0 k (iv (ws.getD (k - 1) 0 : Nat))) (by omega) (by omega) (hS.tr (Sx.ui _ _ _ _ (by omega))) (by rw [ui_ne _ _ _ _ (by omega)]; exact h44) (fun j hj => by rw [ui_ne _ _ _ _ (by omega)]; exact h1 j (by omega)) (by
        intro j hj hjl
        by_cases e : j = k
        · subst e; rw [ui_self]
        · rw [ui_ne _ _ _ _ (by omega)]; exact h2 j (by omega) hjl)
      refine ⟨c2, ?_, g2, g3⟩
      rw [q_230_3]
      simp (disch := omega) only [iv_add, iv_sub, iv_mul, iv_neg, iv_lt, iv_le, iv_eq, iv_nat, iv_L, iv_L2, am_bi_v, am_bv_v, am_bl_v, if_pos, if_neg, Int.toNat_natCast, Int.toNat_add, Int.toNat_mul, Int.reduceToNat]
      rw [show ((k : Int) - 1).toNat = k - 1 by omega, h1 (k - 1) (by omega), show ((k : Int) + -1) = ((k - 1 : Nat) : Int) by omega]
      exact g1
  rw [q_230, hT.1]
  exact key (ws.length - p) ws.length c (by omega) (Nat.le_refl _) (Sx.rf c) hT.1 (fun j hj => hT.2 j hj) (fun j h1 h2 => by omega)
/-- the ruling with a word put at a place -/
theorem rulesIns (h : AR c l K F row tp n fa fp rf sd oc) (hv : VS K F row tp n fa fp sd oc) {p w : Nat} (hp : p ≤ row.length) (hw : w < nW K) (d : Nat) : ∃ c1 c2 c3 : Nat → Nat → Nat → Int32, E (d + 6) 202 [vr 48 0, vi (iv (-1))] (c, l, x, y) = some (none, c1, l, x, y) ∧ E (d + 6) 230 [vr 48 0, vi (iv p), vi (iv w)] (c1, l, x, y) = some (none, c2, l, x, y) ∧ E (d + 6) 215 [vr 48 0] (c2, l, x, y) = some (some (vi (iv (rul K F (insAt (wds row) p w)))), c3, l, x, y) ∧ Sx c c3 := by
  have h7 := row7 hv
  obtain ⟨c1, a1, a2, a3⟩ := e202 (l := l) (x := x) (y := y) h.2.1.2.1 (by rw [wds_len]; exact h.2.1.1) (by rw [wds_len]; omega) (sk := -1) (by omega) (d + 4)
  obtain ⟨c2, b1, b2, b3⟩ := e230 (l := l) (x := x) (y := y) (ws := wds row) a3 (by rw [wds_len]; omega) (p := p) (w := w) (by rw [wds_len]; exact hp) (d + 5)
  obtain ⟨c3, d1, d2⟩ := e215 (x := x) (y := y) (Sx_RR (a2.tr b2) h.1) b3 (fun v q => by
    rcases insAt_mem q with q | q
    · rw [q]; exact hw
    · exact wds_lt hv v q) (by rw [insAt_len _ _ _ (by rw [wds_len]; exact hp), wds_len]; omega) d
  exact ⟨c1, c2, c3, a1, b1, d1, (a2.tr b2).tr d2⟩
theorem e232 (h : AR c l K F row tp n fa fp rf sd oc) (hv : VS K F row tp n fa fp sd oc) {p w : Nat} (hp : p ≤ row.length) (hw : w < nW K) (d : Nat) : ∃ c2 : Nat → Nat → Nat → Int32, E (d + 7) 232 [vr 48 0, vi (iv p), vi (iv w), vi (iv (rul K F (wds row)))] (c, l, x, y) = some (some (vi (iv (if undB K F (wds row) p w then 1 else 0))), c2, l, x, y) ∧ Sx c c2 := by
  obtain ⟨c1, c2, c3, a1, a2, a3, a4⟩ := rulesIns (x := x) (y := y) h hv hp hw d
  have r1 := rul_lt K F (insAt (wds row) p w)
  have r2 := rul_lt K F (wds row)
  refine ⟨c3, ?_, a4⟩
  rw [q_232, show (-1 : Int32) = iv (-1) from rfl, a1]
  simp only [am_bv_v]
  rw [a2]
  simp only [am_bv_v]
  rw [a3]
  simp (disch := omega) only [am_bi_v, iv_eq]
  unfold undB
  by_cases e : rul K F (insAt (wds row) p w) = rul K F (wds row)
  · rw [if_pos (by omega), if_neg (by simpa using e)]; rfl
  · rw [if_neg (by omega), if_pos (by simpa using e)]; rfl
theorem m235 (h : AR c l K F row tp n fa fp rf sd oc) (hv : VS K F row tp n fa fp sd oc) {p w : Int} (hp : -2147483648 ≤ p ∧ p < 2147483648) (hw : -2147483648 ≤ w ∧ w < 2147483648) (d : Nat) : ∃ c2 : Nat → Nat → Nat → Int32, E (d + 7) 235 [vr 48 0, vi (iv p), vi (iv w)] (c, l, x, y) = some (some (vi (iv (betS K F (wds row) p w))), c2, l, x, y) ∧ Sx c c2 := by
  have h7 := row7 hv
  have h20 := hv.1.1.1
  rw [q_235, h.2.1.1]
  simp (disch := omega) only [iv_L, iv_neg, jv_of, jv_L, jv_neg, jv_add, jv_sub, e171, am_bi_v]
  unfold betS
  rw [wds_len]
  by_cases e : 0 ≤ p ∧ p ≤ row.length
  · rw [if_pos e, if_neg (by decide), e182 h.1 hw]
    simp only [am_bi_v]
    by_cases e2 : 0 ≤ w ∧ w < nW K
    · rw [if_pos e2, if_neg (by decide), if_pos ⟨e, e2⟩]
      obtain ⟨i, rfl⟩ := Int.eq_ofNat_of_zero_le e.1
      obtain ⟨j, rfl⟩ := Int.eq_ofNat_of_zero_le e2.1
      obtain ⟨c1, c2, c3, a1, a2, a3, a4⟩ := rulesIns (x := x) (y := y) h hv (p := i) (w := j) (by omega) (by omega) d
      refine ⟨c3, ?_, a4⟩
      rw [a1]
      simp only [am_bv_v]
      rw [a2]
      simp only [am_bv_v]
      rw [a3]
      rfl
    · refine ⟨c, ?_, Sx.rf c⟩
      rw [if_neg e2, if_pos (by decide), if_neg (fun q => e2 q.2)]
  · refine ⟨c, ?_, Sx.rf c⟩
    rw [if_neg e, if_pos (by decide), if_neg (fun q => e q.1)]
theorem m234 (h : AR c l K F row tp n fa fp rf sd oc) (hv : VS K F row tp n fa fp sd oc) {b : Int} (hb : -2147483648 ≤ b ∧ b < 2147483648) (d : Nat) : ∃ c2 : Nat → Nat → Nat → Int32, E (d + 7) 234 [vr 48 0, vi (iv b)] (c, l, x, y) = some (some (vi (iv (illS K F row b))), c2, l, x, y) ∧ Sx c c2 := by
  have h7 := row7 hv
  have hbd := atR_bd (whs row) b
  rw [whs_len] at hbd
  rw [q_234, e191 h.1 hb]
  unfold illS
  by_cases e : 0 ≤ b ∧ b < nB K
  · rw [if_pos e]
    simp (disch := omega) only [am_bi_v, iv_L, iv_neg, iv_eq, if_neg, spokeR h hv hb]
    by_cases ha : atR (whs row) b = -1
    · refine ⟨c, ?_, Sx.rf c⟩
      rw [if_pos ha, if_pos ha]
    · obtain ⟨c1, a1, a2, a3⟩ := e202 (l := l) (x := x) (y := y) h.2.1.2.1 (by rw [wds_len]; exact h.2.1.1) (by rw [wds_len]; omega) (sk := atR (whs row) b) (by omega) (d + 4)
      obtain ⟨c2, b1, b2⟩ := e215 (x := x) (y := y) (Sx_RR a2 h.1) a3 (fun w q => wds_lt hv w (rowBut_mem w q)) (by have := rowBut_len (wds row) (atR (whs row) b); rw [wds_len] at this; omega) d
      refine ⟨c2, ?_, a2.tr b2⟩
      rw [if_neg ha, if_neg ha, a1]
      simp only [am_bv_v]
      rw [b1]
      rfl
  · refine ⟨c, ?_, Sx.rf c⟩
    rw [if_neg e]
    have hn : atR (whs row) b = -1 := by
      unfold atR
      cases hf : (whs row).findIdx? (fun w : Nat => (w : Int) == b) with
      | none => rfl
      | some i =>
        exfalso
        obtain ⟨hi, hp, -⟩ := List.findIdx?_eq_some_iff_getElem.mp hf
        have hp := beq_iff_eq.mp hp
        have hm : (whs row)[i] ∈ whs row := List.getElem_mem hi
        obtain ⟨q, hq, hq2⟩ := List.mem_map.mp hm
        have := (hv.2.2.1.2.2 q hq).1
        omega
    rw [if_pos hn]
    rfl
theorem m243 (h : RR c l K F) {z : Int} (hz : -2147483648 ≤ z ∧ z < 2147483648) (d : Nat) : ∃ c2 : Nat → Nat → Nat → Int32, E (d + 8) 243 [vr 48 0, vi (iv z)] (c, l, x, y) = some (some (vi (iv (casS K F z))), c2, l, x, y) ∧ Sx c c2 := by
  have h8 := h.2.1.2.2.2.2.1.1
  have key : ∀ (m i v : Nat) (c : Nat → Nat → Nat → Int32), i + m = nC K → v ≤ i → RR c l K F → ∃ c2 : Nat → Nat → Nat → Int32, X (d + 8) 243 12 [some (vr 48 0), some (vi (iv z)), some (vi (iv (v : Nat))), some (vi (iv (i : Nat)))] [] (c, l, x, y) = some (some (vi (iv ((v + (List.range' i m).countP (fun i => (rul K F (csK K i) : Int) == z) : Nat) : Int))), c2, l, x, y) ∧ Sx c c2 := by
    intro m
    induction m with
    | zero =>
      intro i v c hi hv h
      refine ⟨c, ?_, Sx.rf c⟩
      rw [q_243_12, q_218, h.1.2.2.2.2.1.1]
      simp (disch := omega) only [am_bi_v, iv_lt, if_neg]
      rfl
    | succ m ih =>
      intro i v c hi hv h
      have hr := rul_lt K F (csK K i)
      obtain ⟨c1, a1, a2⟩ := e219 (x := x) (y := y) h (show i < nC K by omega) d
      rw [q_243_12, q_218, h.1.2.2.2.2.1.1]
      simp (disch := omega) only [am_bi_v, iv_lt, if_pos, a1, iv_eq, iv_L, iv_add]
      rw [List.range'_succ, List.countP_cons, show ((i : Int) + 1) = ((i + 1 : Nat) : Int) by omega]
      by_cases e : (rul K F (csK K i) : Int) = z
      · obtain ⟨c2, b1, b2⟩ := ih (i + 1) (v + 1) c1 (by omega) (by omega) (Sx_RR a2 h)
        refine ⟨c2, ?_, a2.tr b2⟩
        rw [if_pos e, if_pos (beq_iff_eq.mpr e), show ((v : Int) + 1) = ((v + 1 : Nat) : Int) by omega, b1]
        congr 5
        omega
      · obtain ⟨c2, b1, b2⟩ := ih (i + 1) v c1 (by omega) (by omega) (Sx_RR a2 h)
        refine ⟨c2, ?_, a2.tr b2⟩
        rw [if_neg e, if_neg (fun q => e (beq_iff_eq.mp q)), b1]
        rfl
  rw [q_243]
  simp (disch := omega) only [iv_L, iv_neg, jv_of, jv_L, jv_neg, jv_add, jv_sub, e171, am_bi_v]
  unfold casS
  by_cases e : 0 ≤ z ∧ z < 3
  · obtain ⟨c2, b1, b2⟩ := key (nC K) 0 0 c (by omega) (Nat.le_refl _) h
    refine ⟨c2, ?_, b2⟩
    rw [if_pos (show 0 ≤ z ∧ z ≤ 2 by omega), if_neg (by decide), if_pos e]
    rw [Nat.zero_add, ← List.range_eq_range'] at b1
    exact b1
  · refine ⟨c, ?_, Sx.rf c⟩
    rw [if_neg (show ¬ (0 ≤ z ∧ z ≤ 2) by omega), if_pos (by decide), if_neg e]
theorem rowBut_big {ws : List Nat} {p : Int} (hp : (ws.length : Int) ≤ p) : rowBut ws p = ws := by
  unfold rowBut
  rw [if_pos (by omega), List.eraseIdx_of_length_le (by omega)]
theorem m241 (h : RR c l K F) {z : Int} (hz : -2147483648 ≤ z ∧ z < 2147483648) (d : Nat) : ∃ c2 : Nat → Nat → Nat → Int32, E (d + 8) 241 [vr 48 0, vi (iv z)] (c, l, x, y) = some (some (vi (iv (plcS K F z))), c2, l, x, y) ∧ Sx c c2 := by
  have h8 := h.2.1.2.2.2.2.1
  rw [q_241]
  simp (disch := omega) only [iv_L, iv_neg, jv_of, jv_L, jv_neg, jv_add, jv_sub, e171, am_bi_v]
  unfold plcS
  by_cases e : 0 ≤ z ∧ z < 8
  · have key : ∀ (m i v : Nat) (c : Nat → Nat → Nat → Int32), i + m = nC K → v ≤ i → RR c l K F → ∃ c2 : Nat → Nat → Nat → Int32, X (d + 8) 241 12 [some (vr 48 0), some (vi (iv z)), some (vi (iv (v : Nat))), some (vi (iv (i : Nat))), none] [] (c, l, x, y) = some (some (vi (iv ((v + (List.range' i m).countP (fun i => rul K F (rowBut (csK K i) z) != rul K F (csK K i)) : Nat) : Int))), c2, l, x, y) ∧ Sx c c2 := by
      intro m
      induction m with
      | zero =>
        intro i v c hi hv h
        refine ⟨c, ?_, Sx.rf c⟩
        rw [q_241_12, q_218, h.1.2.2.2.2.1.1]
        simp (disch := omega) only [am_bi_v, iv_lt, if_neg]
        rfl
      | succ m ih =>
        intro i v c hi hv h
        have hic : i < nC K := by omega
        have hl := h8.2 i hic
        have r1 := rul_lt K F (csK K i)
        have r2 := rul_lt K F (rowBut (csK K i) z)
        obtain ⟨c1, a1, a2⟩ := e219 (x := x) (y := y) h hic d
        obtain ⟨c2, a3, a4, a5⟩ := e220 (x := x) (y := y) (Sx_RR a2 h) hic (sk := z) (by omega) (d + 5)
        obtain ⟨c3, a6, a7⟩ := e215 (x := x) (y := y) (Sx_RR (a2.tr a4) h) a5 (fun w q => hl.2.2 w (rowBut_mem w q)) (by have := rowBut_len (csK K i) z; omega) (d + 1)
        have hcell := (h.1.2.2.2.2.1.2 i hic).1
        rw [q_241_12, q_218, h.1.2.2.2.2.1.1]
        simp (disch := omega) only [am_bi_v, iv_lt, if_pos, iv_L, iv_L2, iv_add, iv_mul, iv_nat, if_neg, Int.toNat_natCast, Int.toNat_add, Int.toNat_mul, Int.reduceToNat, hcell]
        rw [List.range'_succ, List.countP_cons, show ((i : Int) + 1) = ((i + 1 : Nat) : Int) by omega]
        by_cases ez : z < ((csK K i).length : Int)
        · rw [if_pos ez, a1]
          simp only [am_bi_v]
          rw [a3]
          simp only [am_bv_v]
          rw [a6]
          simp (disch := omega) only [am_bi_v, iv_eq]
          by_cases e : rul K F (rowBut (csK K i) z) = rul K F (csK K i)
          · obtain ⟨c4, b1, b2⟩ := ih (i + 1) v c3 (by omega) (by omega) (Sx_RR ((a2.tr a4).tr a7) h)
            refine ⟨c4, ?_, ((a2.tr a4).tr a7).tr b2⟩
            rw [if_pos (by omega), if_neg (by simpa using e), b1]
            rfl
          · obtain ⟨c4, b1, b2⟩ := ih (i + 1) (v + 1) c3 (by omega) (by omega) (Sx_RR ((a2.tr a4).tr a7) h)
            refine ⟨c4, ?_, ((a2.tr a4).tr a7).tr b2⟩
            rw [if_neg (by omega), if_pos (by simpa using e), show ((v : Int) + 1) = ((v + 1 : Nat) : Int) by omega, b1]
            congr 5
            omega
        · obtain ⟨c4, b1, b2⟩ := ih (i + 1) v c (by omega) (by omega) h
          refine ⟨c4, ?_, b2⟩
          rw [if_neg ez, if_neg (by rw [rowBut_big (by omega)]; simp), b1]
          rfl
    obtain ⟨c2, b1, b2⟩ := key (nC K) 0 0 c (by omega) (Nat.le_refl _) h
    refine ⟨c2, ?_, b2⟩
    rw [if_pos (show 0 ≤ z ∧ z ≤ 7 by omega), if_neg (by decide), if_pos e]
    rw [Nat.zero_add, ← List.range_eq_range'] at b1
    exact b1
  · refine ⟨c, ?_, Sx.rf c⟩
    rw [if_neg (show ¬ (0 ≤ z ∧ z ≤ 7) by omega), if_pos (by decide), if_neg e]
end
