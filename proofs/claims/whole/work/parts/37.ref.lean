/-! the reference: longs, its COURT -/
def jv (z : Int) : Int64 := Int64.ofInt z
theorem jv_toInt {z : Int} (h : -9223372036854775808 ≤ z ∧ z < 9223372036854775808) : (jv z).toInt = z := Int64.toInt_ofInt_of_le (by omega) (by omega)
theorem jv_of {a : Int} (ha : -2147483648 ≤ a ∧ a < 2147483648) : (iv a).toInt64 = jv a := by
  apply Int64.toInt_inj.1
  rw [jv_toInt (by omega), Int32.toInt_toInt64, iv_toInt ha]
theorem jv_L : (0 : Int64) = jv 0 ∧ (1 : Int64) = jv 1 ∧ (2 : Int64) = jv 2 ∧ (3 : Int64) = jv 3 ∧ (5 : Int64) = jv 5 ∧ (10 : Int64) = jv 10 ∧ (15 : Int64) = jv 15 ∧ (20 : Int64) = jv 20 ∧ (25 : Int64) = jv 25 ∧ (99 : Int64) = jv 99 ∧ (200 : Int64) = jv 200 ∧ (7 : Int64) = jv 7 := ⟨rfl, rfl, rfl, rfl, rfl, rfl, rfl, rfl, rfl, rfl, rfl, rfl⟩
theorem jv_neg (a : Int) : -jv a = jv (-a) := (Int64.ofInt_neg a).symm
theorem jv_add (a b : Int) : jv a + jv b = jv (a + b) := (Int64.ofInt_add a b).symm
theorem jv_sub (a b : Int) : jv a - jv b = jv (a - b) := (Int64.ofInt_sub a b).symm
theorem jv_mul (a b : Int) : jv a * jv b = jv (a * b) := (Int64.ofInt_mul a b).symm
theorem jv_lt {a b : Int} (ha : -9223372036854775808 ≤ a ∧ a < 9223372036854775808) (hb : -9223372036854775808 ≤ b ∧ b < 9223372036854775808) : (jv a < jv b) = (a < b) := by
  rw [Int64.lt_iff_toInt_lt, jv_toInt ha, jv_toInt hb]
theorem jv_eq {a b : Int} (ha : -9223372036854775808 ≤ a ∧ a < 9223372036854775808) (hb : -9223372036854775808 ≤ b ∧ b < 9223372036854775808) : (jv a = jv b) = (a = b) := by
  apply propext
  constructor
  · intro h
    have h2 := congrArg Int64.toInt h
    rw [jv_toInt ha, jv_toInt hb] at h2
    exact h2
  · intro h; rw [h]
theorem jv_cmp {a b : Int} (ha : -9223372036854775808 ≤ a ∧ a < 9223372036854775808) (hb : -9223372036854775808 ≤ b ∧ b < 9223372036854775808) : lg_cmp (jv a) (jv b) = iv (if b < a then 1 else if a = b then 0 else -1) := by
  unfold lg_cmp
  simp only [gt_iff_lt, jv_lt hb ha, jv_eq ha hb]
  split
  · rfl
  split <;> rfl
section
variable {c : Nat → Nat → Nat → Int32} {l : Nat → Nat → Int64} {x y : Nat} {K : Ct} {F : Nat}
theorem e171 {p q r : Int} (hp : -9223372036854775808 ≤ p ∧ p < 9223372036854775808) (hq : -9223372036854775808 ≤ q ∧ q < 9223372036854775808) (hr : -9223372036854775808 ≤ r ∧ r < 9223372036854775808) (d : Nat) : E (d + 1) 171 [vl (jv p), vl (jv q), vl (jv r)] (c, l, x, y) = some (some (vi (iv (if q ≤ p ∧ p ≤ r then 1 else 0))), c, l, x, y) := by
  rw [q_171, jv_cmp hp hq, jv_cmp hp hr]
  by_cases h1 : q ≤ p
  · have e1 : ¬ (iv (if q < p then 1 else if p = q then 0 else -1) < 0) := by
      by_cases h : q < p
      · rw [if_pos h]; decide
      · rw [if_neg h, if_pos (by omega)]; decide
    rw [if_neg e1]
    by_cases h2 : p ≤ r
    · have e2 : ¬ (0 < iv (if r < p then 1 else if p = r then 0 else -1)) := by
        rw [if_neg (by omega)]
        split <;> decide
      rw [if_neg e2, if_pos ⟨h1, h2⟩]; rfl
    · rw [if_pos (by rw [if_pos (by omega)]; decide), if_neg (by omega)]; rfl
  · rw [if_pos (by rw [if_neg (by omega), if_neg (by omega)]; decide), if_neg (by omega)]; rfl
/-- a word's letters as a number to the base 27 -/
def e27 (s : List Nat) : Nat := s.foldl (fun v a => 27 * v + a) 0
def slotE (s : List Nat) (k : Nat) : Int := match s[k]? with
  | some a => a
  | none => -1
/-- the COURT of the reference is K -/
def RS (c : Nat → Nat → Nat → Int32) (l : Nat → Nat → Int64) (K : Ct) : Prop :=
  (c 68 0 5 = iv (nW K) ∧ ∀ w, w < nW K → c 70 0 (20 + w) = iv (knd K w) ∧ l 69 (20 + w) = jv (e27 (spK K w))) ∧
  (c 68 0 6 = iv (nL K) ∧ ∀ i, i < nL K → ∀ k, k < 3 → c 72 0 (18 + 3 * i + k) = iv (slotE (lnK K i) k)) ∧
  (c 68 0 7 = iv (nF K) ∧ ∀ f, f < nF K → c 73 0 (48 + 3 * f) = iv (fcK K f).1 ∧ c 73 0 (48 + 3 * f + 1) = iv (fcK K f).2.1 ∧ c 73 0 (48 + 3 * f + 2) = iv (fcK K f).2.2) ∧
  (c 68 0 8 = iv (nB K) ∧ ∀ b, b < nB K → l 71 (7 + b) = jv (e27 (bnK K b).1) ∧ c 74 0 (49 + 7 * b) = iv (bnK K b).2.1 ∧ c 74 0 (49 + 7 * b + 1) = iv (bnK K b).2.2.1 ∧ c 74 0 (49 + 7 * b + 2) = iv (sayK K b).length ∧ ∀ k, k < (sayK K b).length → c 74 0 (49 + 7 * b + 3 + k) = iv ((sayK K b).getD k 0 : Nat)) ∧
  (c 68 0 9 = iv (nC K) ∧ ∀ i, i < nC K → c 75 0 (72 + 9 * i) = iv (csK K i).length ∧ ∀ k, k < (csK K i).length → c 75 0 (72 + 9 * i + 1 + k) = iv ((csK K i).getD k 0 : Nat)) ∧
  ((if c 48 0 38 = 0 then (-1 : Int32) else c 76 0 2) = iv (kAc K) ∧ (kAc K ≠ -1 → c 76 0 2 = iv (kAc K) ∧ c 76 0 3 = iv (kDe K)))
def RR (c : Nat → Nat → Nat → Int32) (l : Nat → Nat → Int64) (K : Ct) (F : Nat) : Prop := RS c l K ∧ VK K ∧ F < 64 ∧ c 48 0 39 = iv F
/-- what the reference's readings may write -/
def Sx (c c2 : Nat → Nat → Nat → Int32) : Prop := (∀ k, k ≠ 48 → (k < 79 ∨ 83 < k) → c2 k = c k) ∧ ∀ i s, s ≠ 44 → s ≠ 47 → s ≠ 48 → s ≠ 50 → c2 48 i s = c 48 i s
theorem Sx.rf (c : Nat → Nat → Nat → Int32) : Sx c c := ⟨fun _ _ _ => rfl, fun _ _ _ _ _ _ => rfl⟩
theorem Sx.tr {c1 c2 c3 : Nat → Nat → Nat → Int32} (h : Sx c1 c2) (g : Sx c2 c3) : Sx c1 c3 := ⟨fun k h1 h2 => (g.1 k h1 h2).trans (h.1 k h1 h2), fun i s h1 h2 h3 h4 => (g.2 i s h1 h2 h3 h4).trans (h.2 i s h1 h2 h3 h4)⟩
theorem Sx.ui (k i j : Nat) (v : Int32) (h : (79 ≤ k ∧ k ≤ 83) ∨ (k = 48 ∧ (j = 44 ∨ j = 47 ∨ j = 48 ∨ j = 50))) : Sx c (am_ui c k i j v) := by
  constructor
  · intro k2 h1 h2
    exact ui_nk _ _ _ _ (by omega)
  · intro i2 s h1 h2 h3 h4
    exact ui_ne _ _ _ _ (by omega)
theorem Sx_RR {c2 : Nat → Nat → Nat → Int32} (h : Sx c c2) (g : RR c l K F) : RR c2 l K F := by
  unfold RR RS at g ⊢
  rw [h.1 68 (by decide) (by decide), h.1 70 (by decide) (by decide), h.1 72 (by decide) (by decide), h.1 73 (by decide) (by decide), h.1 74 (by decide) (by decide), h.1 75 (by decide) (by decide), h.1 76 (by decide) (by decide), h.2 0 38 (by decide) (by decide) (by decide) (by decide), h.2 0 39 (by decide) (by decide) (by decide) (by decide)]
  exact g
theorem e180 (h : RR c l K F) (d : Nat) : E (d + 1) 180 [vr 48 0] (c, l, x, y) = some (some (vi (iv (kAc K))), c, l, x, y) := by
  have := h.1.2.2.2.2.2.1
  rw [q_180, ← this]
  split <;> rfl
theorem e184 (h : RR c l K F) {w : Nat} (hw : w < nW K) (d : Nat) : E (d + 1) 184 [vr 48 0, vi (iv w)] (c, l, x, y) = some (some (vi (iv (knd K w))), c, l, x, y) := by
  have hn := h.2.1.1.1
  rw [q_184]
  simp (disch := omega) only [iv_add, iv_sub, iv_mul, iv_neg, iv_lt, iv_le, iv_eq, iv_nat, iv_L, iv_L2, am_bi_v, am_bv_v, am_bl_v, if_pos, if_neg, Int.toNat_natCast, Int.toNat_add, Int.toNat_mul, Int.reduceToNat, Int.toNat_natCast, Int.toNat_add, Int.reduceToNat, (h.1.1.2 w hw).1]
theorem e212 (h : RR c l K F) {who deed whom : Int} (h1 : -1 ≤ who ∧ who < 32) (h2 : -1 ≤ deed ∧ deed < 32) (h3 : -1 ≤ whom ∧ whom < 32) (d : Nat) : E (d + 1) 212 [vr 48 0, vi (iv who), vi (iv deed), vi (iv whom)] (c, l, x, y) = some (some (vi (iv (if isF K who deed whom then 1 else 0))), c, l, x, y) := by
  have hf := h.2.1.2.2.1
  have hc := h.1.2.2.1
  have hn := h.2.1.1.1
  rw [q_212]
  have key := lp_any (fun i : Nat => X (d + 1) 212 2 [some (vr 48 0), some (vi (iv who)), some (vi (iv deed)), some (vi (iv whom)), some (vi (iv (48 + 3 * (i : Nat))))] [] (c, l, x, y)) (nF K) (fun f => (fcK K f).1 == who && (fcK K f).2.1 == deed && (whom == -1 || (fcK K f).2.2 == whom)) (some (some (vi (iv 1)), c, l, x, y)) (some (some (vi (iv 0)), c, l, x, y)) (by
    intro i hi
    have a := hc.2 i hi
    have b := hf.2 i hi
    rw [q_212_2]
    simp (disch := omega) only [iv_add, iv_sub, iv_mul, iv_neg, iv_lt, iv_le, iv_eq, iv_nat, iv_L, iv_L2, am_bi_v, am_bv_v, am_bl_v, if_pos, if_neg, Int.toNat_natCast, Int.toNat_add, Int.toNat_mul, Int.reduceToNat, Int.toNat_natCast, Int.toNat_add, Int.toNat_mul, Int.reduceToNat, hc.1, a.1, a.2.1, a.2.2]
    rw [show (48 + 3 * ((i + 1 : Nat) : Int)) = 48 + 3 * (i : Int) + 3 by omega]
    by_cases e1 : (fcK K i).1 = who <;> by_cases e2 : (fcK K i).2.1 = deed <;> by_cases e3 : whom = -1 <;> by_cases e4 : (fcK K i).2.2 = whom <;> simp [e1, e2, e3, e4]) (by
    rw [q_212_2]
    simp (disch := omega) only [iv_add, iv_sub, iv_mul, iv_neg, iv_lt, iv_le, iv_eq, iv_nat, iv_L, iv_L2, am_bi_v, am_bv_v, am_bl_v, if_pos, if_neg, Int.toNat_natCast, Int.toNat_add, Int.toNat_mul, Int.reduceToNat, Int.toNat_natCast, hc.1])
  exact key.trans (by unfold isF; split <;> rfl)
end
