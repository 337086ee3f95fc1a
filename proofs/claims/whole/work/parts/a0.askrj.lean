/-! the reference's ask: parts of a CASE, codes run -/
section
variable {c : Nat → Nat → Nat → Int32} {l : Nat → Nat → Int64} {x y : Nat} {K : Ct} {F : Nat}
theorem case_in (h : RR c l K F) {i : Nat} (hi : i < nC K) : i < 8 ∧ (csK K i).length ≤ 8 ∧ ∀ w ∈ csK K i, w < nW K := by
  have h1 := h.2.1.2.2.2.2.1.2 i hi
  have h2 := h.2.1.2.2.2.2.1.1
  exact ⟨by omega, h1.2.1, h1.2.2⟩
theorem e282_4 {v : Int} (hv : -1000000 ≤ v ∧ v ≤ 1000000) {i : Nat} (hi : i < 8) {ws : List Nat} (hl : ws.length ≤ 8) (hw : ∀ w ∈ ws, w < 1000) (hc0 : c 75 0 (72 + 9 * i) = iv (ws.length : Nat)) (hc : ∀ k, k < ws.length → c 75 0 (72 + 9 * i + 1 + k) = iv (ws.getD k 0 : Nat)) (d : Nat) : ∀ (B A : List Nat) (s : Nat), ws = A ++ B → s ≤ A.length → X (d + 1) 282 4 [some (vr 48 0), some (vl (jv v)), none, some (vi (iv (i : Nat))), some (vi (iv (s : Nat))), some (vi (iv (A.length : Nat)))] [] (c, l, x, y) = some (some (vl (jv ((s + B.countP (fun w : Nat => (w : Int) == v) : Nat) : Int))), c, l, x, y) := by
  have e0 : (72 : Int32) + ((9 : Int32) * iv (i : Nat)) = iv ((72 + 9 * i : Nat) : Int) := by
    show iv 72 + iv 9 * iv (i : Nat) = _
    rw [iv_mul, iv_add]
    rfl
  have e1 : (73 : Int32) + ((9 : Int32) * iv (i : Nat)) = iv ((73 + 9 * i : Nat) : Int) := by
    show iv 73 + iv 9 * iv (i : Nat) = _
    rw [iv_mul, iv_add]
    rfl
  have z0 : ¬ (iv ((72 + 9 * i : Nat) : Int) < 0 ∨ 144 ≤ (iv ((72 + 9 * i : Nat) : Int)).toNatClampNeg) := by
    rw [show (iv ((72 + 9 * i : Nat) : Int) < 0) = (((72 + 9 * i : Nat) : Int) < 0) from iv_lt (b := 0) (by omega) (by omega), iv_nat (by omega)]
    omega
  intro B
  induction B with
  | nil =>
    intro A s hA hs
    rw [List.append_nil] at hA
    have hs2 : ((s : Nat) : Int) < 2147483648 := by rw [hA] at hl; omega
    rw [q_282_4, e0, if_neg z0, iv_nat (by omega), Int.toNat_natCast, hc0, hA, if_neg (by rw [iv_lt (by rw [hA] at hl; omega) (by rw [hA] at hl; omega)]; omega), jv_of (by omega)]
    rfl
  | cons w B ih =>
    intro A s hA hs
    have hlen : ws.length = A.length + (B.length + 1) := by rw [hA, List.length_append, List.length_cons]
    have hcell := hc A.length (by omega)
    have hget : ws.getD A.length 0 = w := by
      rw [hA, List.getD_eq_getElem?_getD, List.getElem?_append_right (Nat.le_refl _), Nat.sub_self]
      rfl
    rw [hget] at hcell
    have hw1 := hw w (by rw [hA]; exact List.mem_append_right _ (List.mem_cons_self ..))
    have e2 : iv ((73 + 9 * i : Nat) : Int) + iv (A.length : Nat) = iv ((72 + 9 * i + 1 + A.length : Nat) : Int) := by
      rw [iv_add]
      congr 1
      omega
    have z1 : ¬ (iv ((72 + 9 * i + 1 + A.length : Nat) : Int) < 0 ∨ 144 ≤ (iv ((72 + 9 * i + 1 + A.length : Nat) : Int)).toNatClampNeg) := by
      rw [show (iv ((72 + 9 * i + 1 + A.length : Nat) : Int) < 0) = (((72 + 9 * i + 1 + A.length : Nat) : Int) < 0) from iv_lt (b := 0) (by omega) (by omega), iv_nat (by omega)]
      omega
    have e3 : iv (A.length : Nat) + 1 = iv ((A ++ [w]).length : Nat) := by
      rw [List.length_append, List.length_singleton]
      show iv (A.length : Nat) + iv 1 = _
      rw [iv_add]
      rfl
    have e4 : iv (s : Nat) + 1 = iv ((s + 1 : Nat) : Int) := by
      show iv (s : Nat) + iv 1 = _
      rw [iv_add]
      rfl
    have hq : (lg_cmp (iv (w : Nat)).toInt64 (jv v) = 0) = ((w : Int) = v) := by
      rw [jv_of (by omega)]
      exact cmp_eq (by omega) (by omega)
    have hAB : ws = (A ++ [w]) ++ B := by rw [hA, List.append_assoc]; rfl
    rw [q_282_4, e0, e1, e2, if_neg z0, iv_nat (a := ((72 + 9 * i : Nat) : Int)) (by omega), Int.toNat_natCast, hc0, if_pos (by rw [iv_lt (by omega) (by omega)]; omega), if_neg z1, iv_nat (a := ((72 + 9 * i + 1 + A.length : Nat) : Int)) (by omega), Int.toNat_natCast, hcell, e3, e4]
    simp only [hq]
    rw [List.countP_cons]
    by_cases q : (w : Int) = v
    · rw [if_pos q, if_pos (by rw [beq_iff_eq]; exact q), ih (A ++ [w]) (s + 1) hAB (by rw [List.length_append, List.length_singleton]; omega)]
      congr 5
      omega
    · rw [if_neg q, if_neg (by rw [beq_iff_eq]; exact q), ih (A ++ [w]) s hAB (by rw [List.length_append, List.length_singleton]; omega)]
      rfl
theorem e281 (h : RR c l K F) {i : Nat} (hi : i < nC K) {v : Int} (hv : -1000000 ≤ v ∧ v ≤ 1000000) {o : Nat} (ho : o = 0 ∨ o = 1) (d : Nat) : E (d + 2) 281 [vr 48 0, vi (iv (o : Nat)), vl (jv v), vi (iv (i : Nat))] (c, l, x, y) = some (some (vl (jv (if o = 0 then atW (csK K i) v else hasW (csK K i) v))), c, l, x, y) := by
  obtain ⟨k1, k2, k3⟩ := case_in h hi
  obtain ⟨g1, g2⟩ := h.1.2.2.2.2.1.2 i hi
  have h20 := h.2.1.1.1
  have e0 : (72 : Int32) + ((9 : Int32) * iv (i : Nat)) = iv ((72 + 9 * i : Nat) : Int) := by
    show iv 72 + iv 9 * iv (i : Nat) = _
    rw [iv_mul, iv_add]
    rfl
  have e1 : (73 : Int32) + ((9 : Int32) * iv (i : Nat)) = iv ((73 + 9 * i : Nat) : Int) := by
    show iv 73 + iv 9 * iv (i : Nat) = _
    rw [iv_mul, iv_add]
    rfl
  have z0 : ¬ (iv ((72 + 9 * i : Nat) : Int) < 0 ∨ 144 ≤ (iv ((72 + 9 * i : Nat) : Int)).toNatClampNeg) := by
    rw [show (iv ((72 + 9 * i : Nat) : Int) < 0) = (((72 + 9 * i : Nat) : Int) < 0) from iv_lt (b := 0) (by omega) (by omega), iv_nat (by omega)]
    omega
  rw [q_281]
  rcases ho with rfl | rfl
  · have e2 : (iv ((csK K i).length : Nat) - 1).toInt64 = jv (((csK K i).length : Int) - 1) := by
      show (iv ((csK K i).length : Nat) - iv 1).toInt64 = _
      rw [iv_sub, jv_of (by omega)]
    have h171 := e171 (c := c) (l := l) (x := x) (y := y) (p := v) (q := 0) (r := ((csK K i).length : Int) - 1) (by omega) (by omega) (by omega) d
    have h171 : E (d + 1) 171 [vl (jv v), vl 0, vl (jv (((csK K i).length : Int) - 1))] (c, l, x, y) = _ := h171
    rw [if_pos (show iv ((0 : Nat) : Int) = 0 from rfl), e0, e1, if_neg z0, iv_nat (a := ((72 + 9 * i : Nat) : Int)) (by omega), Int.toNat_natCast, g1, e2, h171]
    simp only [am_bi_v]
    rw [if_pos trivial]
    unfold atW
    by_cases q : 0 ≤ v ∧ v < ((csK K i).length : Int)
    · have e3 : iv ((73 + 9 * i : Nat) : Int) + (jv v).toInt32 = iv ((72 + 9 * i + 1 + v.toNat : Nat) : Int) := by
        rw [jv_iv (by omega), iv_add]
        congr 1
        omega
      have z1 : ¬ (iv ((72 + 9 * i + 1 + v.toNat : Nat) : Int) < 0 ∨ 144 ≤ (iv ((72 + 9 * i + 1 + v.toNat : Nat) : Int)).toNatClampNeg) := by
        rw [show (iv ((72 + 9 * i + 1 + v.toNat : Nat) : Int) < 0) = (((72 + 9 * i + 1 + v.toNat : Nat) : Int) < 0) from iv_lt (b := 0) (by omega) (by omega), iv_nat (by omega)]
        omega
      have hm : (csK K i).getD v.toNat 0 < nW K := by
        have hlt : v.toNat < (csK K i).length := by omega
        rw [List.getD_eq_getElem?_getD, List.getElem?_eq_getElem hlt]
        exact k3 _ (List.getElem_mem hlt)
      rw [if_pos (show (0 ≤ v ∧ v ≤ ((csK K i).length : Int) - 1) by omega), if_neg (show ¬ iv 1 = 0 by decide), e3, if_neg z1, iv_nat (a := ((72 + 9 * i + 1 + v.toNat : Nat) : Int)) (by omega), Int.toNat_natCast, g2 v.toNat (by omega), jv_of (by omega), if_pos q]
    · rw [if_neg (show ¬ (0 ≤ v ∧ v ≤ ((csK K i).length : Int) - 1) by omega), if_pos (show iv 0 = 0 from rfl), if_neg q]
      rfl
  · rw [if_neg (show ¬ iv ((1 : Nat) : Int) = 0 by decide), q_282]
    have h4 := e282_4 (c := c) (l := l) (x := x) (y := y) hv k1 k2 (fun w hw => by have := k3 w hw; omega) g1 g2 d (csK K i) [] 0 rfl (Nat.le_refl _)
    have h4 : X (d + 1) 282 4 [some (vr 48 0), some (vl (jv v)), none, some (vi (iv (i : Nat))), some (vi 0), some (vi 0)] [] (c, l, x, y) = _ := h4
    rw [h4]
    simp only [am_bl_v]
    rw [if_neg (by omega), Nat.zero_add]
    rfl
theorem e284 (h : RR c l K F) {i : Nat} (hi : i < nC K) {o : Nat} (ho : o ≤ 3) (d : Nat) : ∃ c2 : Nat → Nat → Nat → Int32, E (d + 8) 284 [vr 48 0, vi (iv (o : Nat)), vi (iv (i : Nat))] (c, l, x, y) = some (some (vl (jv (if o = 0 then (i : Int) else if o = 1 then ((csK K i).length : Int) else if o = 2 then (rul K F (csK K i) : Int) else b01 ((rul K F (csK K i) : Int) = tru K)))), c2, l, x, y) ∧ Sx c c2 := by
  obtain ⟨k1, k2, k3⟩ := case_in h hi
  obtain ⟨g1, g2⟩ := h.1.2.2.2.2.1.2 i hi
  have e0 : (72 : Int32) + ((9 : Int32) * iv (i : Nat)) = iv ((72 + 9 * i : Nat) : Int) := by
    show iv 72 + iv 9 * iv (i : Nat) = _
    rw [iv_mul, iv_add]
    rfl
  have z0 : ¬ (iv ((72 + 9 * i : Nat) : Int) < 0 ∨ 144 ≤ (iv ((72 + 9 * i : Nat) : Int)).toNatClampNeg) := by
    rw [show (iv ((72 + 9 * i : Nat) : Int) < 0) = (((72 + 9 * i : Nat) : Int) < 0) from iv_lt (b := 0) (by omega) (by omega), iv_nat (by omega)]
    omega
  have hr : rul K F (csK K i) < 3 := rul_lt K F _
  rw [q_284]
  rcases (show o = 0 ∨ o = 1 ∨ o = 2 ∨ o = 3 by omega) with rfl | rfl | rfl | rfl
  · refine ⟨c, ?_, Sx.rf c⟩
    rw [if_pos (by rfl), jv_of (by omega), if_pos rfl]
  · refine ⟨c, ?_, Sx.rf c⟩
    rw [if_neg (by decide), if_pos (by rfl), e0, if_neg z0, iv_nat (by omega), Int.toNat_natCast, g1, jv_of (by omega), if_neg (by decide), if_pos rfl]
  · obtain ⟨c2, a1, a2⟩ := e219 (x := x) (y := y) h hi d
    refine ⟨c2, ?_, a2⟩
    rw [if_neg (by decide), if_neg (by decide), if_pos (by rfl), a1]
    simp only [am_bi_v]
    rw [jv_of (by omega), if_neg (by decide), if_neg (by decide), if_pos trivial]
  · obtain ⟨c2, a1, a2⟩ := e219 (x := x) (y := y) h hi d
    have h216 := e216 (x := x) (y := y) (Sx_RR a2 h) (d + 5)
    have ht := tru_lt K
    have e2 : (iv (rul K F (csK K i) : Nat) = iv (tru K : Nat)) = ((rul K F (csK K i) : Int) = tru K) := iv_eq (by omega) (by omega)
    refine ⟨c2, ?_, a2⟩
    rw [if_neg (show ¬ (3 : Nat) = 0 by decide), if_neg (show ¬ (3 : Nat) = 1 by decide), if_neg (show ¬ (3 : Nat) = 2 by decide), if_neg (show ¬ iv ((3 : Nat) : Int) = 0 by decide), if_neg (show ¬ iv ((3 : Nat) : Int) = 1 by decide), if_neg (show ¬ iv ((3 : Nat) : Int) = 2 by decide), a1]
    simp only [am_bi_v]
    rw [h216]
    simp only [am_bi_v, e2]
    unfold b01
    by_cases q : (rul K F (csK K i) : Int) = tru K
    · rw [if_pos q, if_pos q]; rfl
    · rw [if_neg q, if_neg q]; rfl
end
