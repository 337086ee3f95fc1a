/-! the reference's ask: codes at work -/
def PL (l : Nat → Nat → Int64) : List Int → Prop
  | [] => True
  | v :: st => l 110 st.length = jv v ∧ PL l st
def FE (c c2 : Nat → Nat → Nat → Int32) : Prop := (∀ k, k ≠ 48 → (k < 79 ∨ 83 < k) → c2 k = c k) ∧ ∀ i s, s ≠ 44 → s ≠ 47 → s ≠ 48 → s ≠ 50 → s ≠ 84 → c2 48 i s = c 48 i s
def LE (l l2 : Nat → Nat → Int64) : Prop := ∀ k, k ≠ 110 → l2 k = l k
section
variable {c : Nat → Nat → Nat → Int32} {l : Nat → Nat → Int64} {x y : Nat} {K : Ct} {F : Nat}
theorem FE.refl (c : Nat → Nat → Nat → Int32) : FE c c := ⟨fun _ _ _ => rfl, fun _ _ _ _ _ _ _ => rfl⟩
theorem FE.tr {c1 c2 c3 : Nat → Nat → Nat → Int32} (h : FE c1 c2) (g : FE c2 c3) : FE c1 c3 := ⟨fun k h1 h2 => (g.1 k h1 h2).trans (h.1 k h1 h2), fun i s a1 a2 a3 a4 a5 => (g.2 i s a1 a2 a3 a4 a5).trans (h.2 i s a1 a2 a3 a4 a5)⟩
theorem FE.ui (v : Int32) : FE c (am_ui c 48 0 84 v) := ⟨fun k h1 _ => ui_nk _ _ _ _ h1, fun i s a1 a2 a3 a4 a5 => ui_ne _ _ _ _ (by omega)⟩
theorem FE_Sx {c2 : Nat → Nat → Nat → Int32} (h : Sx c c2) : FE c c2 := ⟨h.1, fun i s a1 a2 a3 a4 _ => h.2 i s a1 a2 a3 a4⟩
theorem LE.refl (l : Nat → Nat → Int64) : LE l l := fun _ _ => rfl
theorem LE.tr {l1 l2 l3 : Nat → Nat → Int64} (h : LE l1 l2) (g : LE l2 l3) : LE l1 l3 := fun k h1 => (g k h1).trans (h k h1)
theorem ul_ne (l : Nat → Nat → Int64) (k j : Nat) (v : Int64) {k2 j2 : Nat} (h : ¬ (k2 = k ∧ j2 = j)) : am_ul l k j v k2 j2 = l k2 j2 := by
  unfold am_ul
  split
  · rename_i q
    exact absurd ⟨q.1, q.2⟩ h
  · rfl
theorem LE.ul (j : Nat) (v : Int64) : LE l (am_ul l 110 j v) := fun k2 h1 => funext fun j2 => ul_ne l 110 j v (by omega)
theorem RR_FE {c2 : Nat → Nat → Nat → Int32} {l2 : Nat → Nat → Int64} (h : FE c c2) (hl : LE l l2) (g : RR c l K F) : RR c2 l2 K F := by
  have g2 := RR_l g (hl 69 (by omega)) (hl 71 (by omega))
  unfold RR RS at g2 ⊢
  rw [h.1 68 (by omega) (by omega), h.1 70 (by omega) (by omega), h.1 72 (by omega) (by omega), h.1 73 (by omega) (by omega), h.1 74 (by omega) (by omega), h.1 75 (by omega) (by omega), h.1 76 (by omega) (by omega), h.2 0 38 (by omega) (by omega) (by omega) (by omega) (by omega), h.2 0 39 (by omega) (by omega) (by omega) (by omega) (by omega)]
  exact g2
theorem PL_ul : ∀ (st : List Int) (k : Nat) (v : Int64), st.length ≤ k → PL l st → PL (am_ul l 110 k v) st
  | [], _, _, _, _ => trivial
  | w :: st, k, v, hk, h => by
    rw [List.length_cons] at hk
    refine ⟨?_, PL_ul st k v (by omega) h.2⟩
    rw [ul_ne _ _ _ _ (by omega)]
    exact h.1
theorem PL_push {st : List Int} {v : Int} (h : PL l st) : PL (am_ul l 110 st.length (jv v)) (v :: st) := by
  refine ⟨?_, PL_ul st _ _ (Nat.le_refl _) h⟩
  unfold am_ul
  rw [if_pos ⟨rfl, rfl⟩]
theorem jv_tdiv {a b : Int} (ha : -1000000 ≤ a ∧ a ≤ 1000000) (hb : -1000000 ≤ b ∧ b ≤ 1000000) : jv a / jv b = jv (a.tdiv b) := by
  have h := tdv_bd a b
  apply Int64.toInt_inj.1
  rw [Int64.toInt_div_of_ne_left, jv_toInt (by omega), jv_toInt (by omega), jv_toInt (by omega)]
  intro q
  have h2 := congrArg Int64.toInt q
  rw [jv_toInt (by omega)] at h2
  have h3 : (Int64.minValue).toInt = -9223372036854775808 := by decide
  omega
/-- comparisons -/
theorem cmp_gt {a b : Int} (ha : -4000000000000000000 ≤ a ∧ a ≤ 4000000000000000000) (hb : -4000000000000000000 ≤ b ∧ b ≤ 4000000000000000000) : (0 < lg_cmp (jv a) (jv b)) = (b < a) := by
  rw [jv_cmp (by omega) (by omega)]
  have e : (0 < iv (if b < a then 1 else if a = b then 0 else -1)) = ((0 : Int) < (if b < a then 1 else if a = b then 0 else -1)) := iv_lt (a := 0) (by omega) (by split <;> (try split) <;> omega)
  rw [e]
  apply propext
  split
  · omega
  · split <;> omega
theorem cmp_lt {a b : Int} (ha : -4000000000000000000 ≤ a ∧ a ≤ 4000000000000000000) (hb : -4000000000000000000 ≤ b ∧ b ≤ 4000000000000000000) : (lg_cmp (jv a) (jv b) < 0) = (a < b) := by
  rw [jv_cmp (by omega) (by omega)]
  have e : (iv (if b < a then 1 else if a = b then 0 else -1) < 0) = ((if b < a then 1 else if a = b then 0 else -1 : Int) < 0) := iv_lt (b := 0) (by split <;> (try split) <;> omega) (by omega)
  rw [e]
  apply propext
  split
  · omega
  · split <;> omega
theorem cmp_eq {a b : Int} (ha : -4000000000000000000 ≤ a ∧ a ≤ 4000000000000000000) (hb : -4000000000000000000 ≤ b ∧ b ≤ 4000000000000000000) : (lg_cmp (jv a) (jv b) = 0) = (a = b) := by
  rw [jv_cmp (by omega) (by omega)]
  have e : (iv (if b < a then 1 else if a = b then 0 else -1) = 0) = ((if b < a then 1 else if a = b then 0 else -1 : Int) = 0) := iv_eq (b := 0) (by split <;> (try split) <;> omega) (by omega)
  rw [e]
  apply propext
  split
  · omega
  · split <;> omega
theorem e283 {a : Int} (ha : -4000000000000000000 ≤ a ∧ a ≤ 4000000000000000000) (d : Nat) : E (d + 1) 283 [vl (jv a)] (c, l, x, y) = some (some (vl (jv (clp a))), c, l, x, y) := by
  have hM : (1000000 : Int64) = jv 1000000 := rfl
  have h1 := cmp_gt (a := a) (b := 1000000) ha (by omega)
  have h2 := cmp_lt (a := a) (b := -1000000) ha (by omega)
  rw [q_283, hM, jv_neg]
  simp only [h1, h2]
  unfold clp
  by_cases e : 1000000 < a
  · rw [if_pos e, if_pos e]
  · rw [if_neg e, if_neg e]
    by_cases e2 : a < -1000000
    · rw [if_pos e2, if_pos e2]
    · rw [if_neg e2, if_neg e2]
theorem e286 {a b : Int} (ha : -1000000 ≤ a ∧ a ≤ 1000000) (hb : -1000000 ≤ b ∧ b ≤ 1000000) (d : Nat) : E (d + 1) 286 [vl (jv a), vl (jv b)] (c, l, x, y) = some (some (vl (jv (if b = 0 then 0 else a.fdiv b))), c, l, x, y) := by
  rw [q_286]
  have hq := tdv_bd a b
  have hm : (a.tdiv b * b).natAbs ≤ a.natAbs := by
    rw [Int.natAbs_mul, Int.natAbs_tdiv]
    exact Nat.div_mul_le_self _ _
  have h1 : (lg_cmp (jv b) 0 = 0) = (b = 0) := cmp_eq (b := 0) (by omega) (by omega)
  have h2 : (jv b = 0) = (b = 0) := jv_eq (b := 0) (by omega) (by omega)
  have h3 : (lg_cmp (jv a) 0 < 0) = (a < 0) := cmp_lt (b := 0) (by omega) (by omega)
  have h4 : (lg_cmp (jv b) 0 < 0) = (b < 0) := cmp_lt (b := 0) (by omega) (by omega)
  have h5 : jv a - jv a / jv b * jv b = jv (a - a.tdiv b * b) := by rw [jv_tdiv ha hb, jv_mul, jv_sub]
  have h6 : (lg_cmp (jv (a - a.tdiv b * b)) 0 = 0) = (a - a.tdiv b * b = 0) := cmp_eq (b := 0) (by omega) (by omega)
  have h7 : jv a / jv b - 1 = jv (a.tdiv b - 1) := by
    rw [jv_tdiv ha hb]
    show jv (a.tdiv b) - jv 1 = _
    rw [jv_sub]
  simp only [h5, h1, h2, h3, h4, h6, h7]
  by_cases e0 : b = 0
  · rw [if_pos e0, if_pos e0]
    rfl
  rw [if_neg e0, if_neg e0, if_neg e0, if_neg e0, jv_tdiv ha hb, fd_eq e0]
  by_cases e1 : a.tdiv b * b = a
  · rw [if_pos (by omega), if_pos e1]
    split <;> rfl
  · rw [if_neg (by omega), if_neg e1]
    by_cases e2 : a < 0
    · rw [if_pos e2, decide_eq_true e2]
      by_cases e3 : b < 0
      · rw [if_pos e3, decide_eq_true e3, if_neg (by decide)]
      · rw [if_neg e3, decide_eq_false e3, if_pos (by decide)]
    · rw [if_neg e2, decide_eq_false e2]
      by_cases e3 : b < 0
      · rw [if_pos e3, decide_eq_true e3, if_pos (by decide)]
      · rw [if_neg e3, decide_eq_false e3, if_neg (by decide)]
theorem e280 {k : Nat} (hk : k < 1700) (h84 : c 48 0 84 = iv (k : Nat)) (v : Int64) (d : Nat) : E (d + 1) 280 [vr 48 0, vl v] (c, l, x, y) = some (none, am_ui c 48 0 84 (iv ((k + 1 : Nat) : Int)), am_ul l 110 k v, x, y) := by
  have h0 : (iv (k : Nat) < 0) = ((k : Int) < 0) := iv_lt (b := 0) (by omega) (by omega)
  have h1 : iv (k : Nat) + 1 = iv ((k + 1 : Nat) : Int) := by
    show iv (k : Nat) + iv 1 = _
    rw [iv_add]
    rfl
  rw [q_280, h84, h1, iv_nat (by omega), Int.toNat_natCast, if_neg (by rw [h0]; omega)]
theorem e285 {a b : Int} {st : List Int} {cd : Nat} (hc : 1 ≤ cd ∧ cd ≤ 11) (hl : st.length < 1600) (h84 : c 48 0 84 = iv ((st.length + 2 : Nat) : Int)) (hP : PL l (b :: a :: st)) (ha : -1000000 ≤ a ∧ a ≤ 1000000) (hb : -1000000 ≤ b ∧ b ≤ 1000000) (d : Nat) : E (d + 2) 285 [vr 48 0, vi (iv (cd : Nat))] (c, l, x, y) = some (none, am_ui (am_ui c 48 0 84 (iv (st.length : Nat))) 48 0 84 (iv ((st.length + 1 : Nat) : Int)), am_ul l 110 st.length (jv (binO cd a b)), x, y) := by
  obtain ⟨p1, p2, p3⟩ := hP
  rw [List.length_cons] at p1
  have s1 : iv ((st.length + 2 : Nat) : Int) - 1 = iv ((st.length + 1 : Nat) : Int) := by
    show iv ((st.length + 2 : Nat) : Int) - iv 1 = _
    rw [iv_sub, show ((st.length + 2 : Nat) : Int) - 1 = ((st.length + 1 : Nat) : Int) by omega]
  have s2 : iv ((st.length + 2 : Nat) : Int) - 2 = iv (st.length : Nat) := by
    show iv ((st.length + 2 : Nat) : Int) - iv 2 = _
    rw [iv_sub, show ((st.length + 2 : Nat) : Int) - 2 = (st.length : Int) by omega]
  have z1 : ¬ (iv ((st.length + 1 : Nat) : Int) < 0 ∨ 1700 ≤ st.length + 1) := by
    rw [show (iv ((st.length + 1 : Nat) : Int) < 0) = (((st.length + 1 : Nat) : Int) < 0) from iv_lt (b := 0) (by omega) (by omega)]
    omega
  have z2 : ¬ (iv (st.length : Nat) < 0 ∨ 1700 ≤ st.length) := by
    rw [show (iv (st.length : Nat) < 0) = ((st.length : Int) < 0) from iv_lt (b := 0) (by omega) (by omega)]
    omega
  have h80 := fun (w : Int64) => e280 (c := am_ui c 48 0 84 (iv (st.length : Nat))) (l := l) (x := x) (y := y) (k := st.length) (by omega) (ui_self ..) w d
  rw [q_285, h84, s1, s2, iv_nat (by omega), iv_nat (by omega), Int.toNat_natCast, Int.toNat_natCast, if_neg z1, if_neg z2, p1, p2]
  have g1 : (lg_cmp (jv a) (jv b) < 0) = (a < b) := cmp_lt (by omega) (by omega)
  have g2 : (0 < lg_cmp (jv a) (jv b)) = (b < a) := cmp_gt (by omega) (by omega)
  have g3 : (lg_cmp (jv a) (jv b) = 0) = (a = b) := cmp_eq (by omega) (by omega)
  have g4 : (0 < lg_cmp (jv (a + b)) 0) = (0 < a + b) := cmp_gt (b := 0) (by omega) (by omega)
  have hmb : -4000000000000000000 ≤ a * b ∧ a * b ≤ 4000000000000000000 := by
    have h1 : (a * b).natAbs ≤ 1000000 * 1000000 := by
      rw [Int.natAbs_mul]
      exact Nat.mul_le_mul (by omega) (by omega)
    omega
  rcases (show cd = 1 ∨ cd = 2 ∨ cd = 3 ∨ cd = 4 ∨ cd = 5 ∨ cd = 6 ∨ cd = 7 ∨ cd = 8 ∨ cd = 9 ∨ cd = 10 ∨ cd = 11 by omega) with rfl | rfl | rfl | rfl | rfl | rfl | rfl | rfl | rfl | rfl | rfl
  · rw [if_pos (by rfl), jv_add, e283 (by omega)]
    simp only [am_bl_v]
    rw [h80, binO_e1]
    rfl
  · rw [if_neg (by decide), if_pos (by rfl), jv_sub, e283 (by omega)]
    simp only [am_bl_v]
    rw [h80, binO_e2]
    rfl
  · rw [if_neg (by decide), if_neg (by decide), if_pos (by rfl), jv_mul, e283 hmb]
    simp only [am_bl_v]
    rw [h80, binO_e3]
    rfl
  · rw [if_neg (by decide), if_neg (by decide), if_neg (by decide), if_pos (by rfl), e286 ha hb]
    simp only [am_bl_v]
    rw [h80, binO_e4]
    rfl
  · rw [if_neg (by decide), if_neg (by decide), if_neg (by decide), if_neg (by decide), if_pos (by rfl)]
    simp only [g1]
    rw [binO_e5]
    by_cases q : a < b
    · rw [if_pos q, if_pos q, h80]; rfl
    · rw [if_neg q, if_neg q, h80]; rfl
  · rw [if_neg (by decide), if_neg (by decide), if_neg (by decide), if_neg (by decide), if_neg (by decide), if_pos (by rfl)]
    simp only [g2]
    rw [binO_e6]
    by_cases q : b < a
    · rw [if_pos q, if_pos q, h80]; rfl
    · rw [if_neg q, if_neg q, h80]; rfl
  · rw [if_neg (by decide), if_neg (by decide), if_neg (by decide), if_neg (by decide), if_neg (by decide), if_neg (by decide), if_pos (by rfl)]
    simp only [g1]
    rw [binO_e7]
    unfold b01
    by_cases q : a < b
    · rw [if_pos q, if_pos q, h80]; rfl
    · rw [if_neg q, if_neg q, h80]; rfl
  · rw [if_neg (by decide), if_neg (by decide), if_neg (by decide), if_neg (by decide), if_neg (by decide), if_neg (by decide), if_neg (by decide), if_pos (by rfl)]
    simp only [g2]
    rw [binO_e8]
    unfold b01
    by_cases q : b < a
    · rw [if_pos q, if_pos q, h80]; rfl
    · rw [if_neg q, if_neg q, h80]; rfl
  · rw [if_neg (by decide), if_neg (by decide), if_neg (by decide), if_neg (by decide), if_neg (by decide), if_neg (by decide), if_neg (by decide), if_neg (by decide), if_pos (by rfl)]
    simp only [g3]
    rw [binO_e9]
    unfold b01
    by_cases q : a = b
    · rw [if_pos q, if_pos q, h80]; rfl
    · rw [if_neg q, if_neg q, h80]; rfl
  · rw [if_neg (by decide), if_neg (by decide), if_neg (by decide), if_neg (by decide), if_neg (by decide), if_neg (by decide), if_neg (by decide), if_neg (by decide), if_neg (by decide), if_pos (by rfl), jv_mul, h80, binO_e10]
    rfl
  · rw [if_neg (by decide), if_neg (by decide), if_neg (by decide), if_neg (by decide), if_neg (by decide), if_neg (by decide), if_neg (by decide), if_neg (by decide), if_neg (by decide), if_neg (by decide), jv_add]
    simp only [g4]
    rw [binO_e11]
    unfold b01
    by_cases q : 0 < a + b
    · rw [if_pos q, if_pos q, h80]; rfl
    · rw [if_neg q, if_neg q, h80]; rfl
end
