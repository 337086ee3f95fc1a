/-! the reference: a line of witnesses by age, and by lot -/
section
variable {c : Nat → Nat → Nat → Int32} {l : Nat → Nat → Int64} {x y : Nat} {K : Ct} {F : Nat} {row : List (Nat × Nat)} {tp : Nat → Nat} {n : Nat} {fa fp : Int} {rf : Nat → Int32} {sd : Int} {oc : List Nat}
theorem e185 (h : RR c l K F) (d : Nat) : E (d + 1) 185 [vr 48 0] (c, l, x, y) = some (some (vi (iv (nB K))), c, l, x, y) := by rw [q_185, h.1.2.2.2.1.1]
theorem e246 (h : RR c l K F) {a b : Nat} (ha : a < nB K) (hb : b < nB K) (hn : a ≠ b) {o : Int} (ho : 0 ≤ o ∧ o ≤ 2) (d : Nat) : E (d + 1) 246 [vr 48 0, vi (iv o), vi (iv a), vi (iv b)] (c, l, x, y) = some (some (vi (iv (if bef K o a b = true then 1 else 0))), c, l, x, y) := by
  have hn7 := h.2.1.2.2.2.1.1
  have h1 := (h.1.2.2.2.1.2 a ha).2.1
  have h2 := (h.1.2.2.2.1.2 b hb).2.1
  have v1 := (h.2.1.2.2.2.1.2 a ha).2.1
  have v2 := (h.2.1.2.2.2.1.2 b hb).2.1
  have hq := bef_iff (K := K) (o := o) a b
  unfold ageK at hq
  simp only [hq]
  rw [q_246]
  simp (disch := omega) only [iv_add, iv_sub, iv_mul, iv_neg, iv_lt, iv_le, iv_eq, iv_nat, iv_L, iv_L2, am_bi_v, am_bv_v, am_bl_v, if_pos, if_neg, Int.toNat_natCast, Int.toNat_add, Int.toNat_mul, Int.reduceToNat, h1, h2]
  by_cases e0 : o = 0
  · rw [if_pos e0]
    by_cases e : (a : Int) < b
    · rw [if_pos e, if_pos (by omega)]
    · rw [if_neg e, if_neg (by omega)]
  · rw [if_neg e0]
    by_cases ee : (((bnK K a).2.1 : Nat) : Int) = ((bnK K b).2.1 : Nat)
    · rw [if_pos ee]
      by_cases e : (a : Int) < b
      · rw [if_pos e, if_pos (by omega)]
      · rw [if_neg e, if_neg (by omega)]
    · rw [if_neg ee]
      by_cases e1 : o = 1
      · rw [if_pos e1]
        by_cases e : (((bnK K b).2.1 : Nat) : Int) < ((bnK K a).2.1 : Nat)
        · rw [if_pos e, if_pos (by omega)]
        · rw [if_neg e, if_neg (by omega)]
      · rw [if_neg e1]
        by_cases e : (((bnK K a).2.1 : Nat) : Int) < ((bnK K b).2.1 : Nat)
        · rw [if_pos e, if_pos (by omega)]
        · rw [if_neg e, if_neg (by omega)]
theorem countP_succ (q : Nat → Bool) (m : Nat) : (List.range (m + 1)).countP q = (List.range m).countP q + (if q m then 1 else 0) := by
  rw [List.range_succ, List.countP_append, List.countP_cons, List.countP_nil, Nat.zero_add]
theorem countP_le_range (q : Nat → Bool) (m : Nat) : (List.range m).countP q ≤ m := by
  have := List.countP_le_length (p := q) (l := List.range m)
  rw [List.length_range] at this
  exact this
theorem rnk_lt {o : Int} {v : Nat} (hv : v < nB K) : rnk K o (nB K) v < nB K := by
  have := (Ln_rk (ordK_Ln (K := K) (o := o)) hv).1
  rw [ordK_len] at this
  exact this
theorem rnk_inj {o : Int} {u v : Nat} (hu : u < nB K) (hv : v < nB K) (h : rnk K o (nB K) u = rnk K o (nB K) v) : u = v := by
  have h1 := (Ln_rk (ordK_Ln (K := K) (o := o)) hu).2
  have h2 := (Ln_rk (ordK_Ln (K := K) (o := o)) hv).2
  rw [h] at h1
  exact h1.symm.trans h2
theorem e245 (h : RR c l K F) {o : Int} (ho : 0 ≤ o ∧ o ≤ 2) (d : Nat) : ∃ c2 : Nat → Nat → Nat → Int32, E (d + 2) 245 [vr 48 0, vi (iv o)] (c, l, x, y) = some (none, c2, l, x, y) ∧ Sy c c2 ∧ RowAt c2 88 0 (ordK K o) := by
  have hn7 := h.2.1.2.2.2.1.1
  have inner : ∀ (k i m : Nat) (c : Nat → Nat → Nat → Int32), i + k = nB K → m < nB K → RR c l K F → X (d + 2) 245 10 [some (vr 48 0), some (vi (iv o)), some (vi (iv (m : Nat))), some (vi (iv ((List.range i).countP (fun u => bef K o u m) : Nat))), some (vi (iv (i : Nat)))] [] (c, l, x, y) = X (d + 2) 245 2 [some (vr 48 0), some (vi (iv o)), some (vi (iv ((m + 1 : Nat) : Int))), none, none] [] (am_ui c 88 0 (rnk K o (nB K) m) (iv m), l, x, y) := by
    intro k
    induction k with
    | zero =>
      intro i m c hi hm hR
      have hr := rnk_lt (o := o) hm
      rw [q_245_10, e185 hR, show i = nB K by omega]
      simp only [am_bi_v]
      show (if _ then _ else if iv (rnk K o (nB K) m : Nat) < 0 ∨ 7 ≤ (iv (rnk K o (nB K) m : Nat)).toNatClampNeg then none else X (d + 2) 245 2 _ [] (am_ui c 88 0 (iv (rnk K o (nB K) m : Nat)).toNatClampNeg _, l, x, y)) = _
      simp (disch := omega) only [iv_add, iv_sub, iv_mul, iv_neg, iv_lt, iv_le, iv_eq, iv_nat, iv_L, iv_L2, am_bi_v, am_bv_v, am_bl_v, if_pos, if_neg, Int.toNat_natCast, Int.toNat_add, Int.toNat_mul, Int.reduceToNat]
      rfl
    | succ k ih =>
      intro i m c hi hm hR
      have hcl := countP_le_range (fun u => bef K o u m) i
      rw [q_245_10, e185 hR]
      simp (disch := omega) only [iv_add, iv_sub, iv_mul, iv_neg, iv_lt, iv_le, iv_eq, iv_nat, iv_L, iv_L2, am_bi_v, am_bv_v, am_bl_v, if_pos, if_neg, Int.toNat_natCast, Int.toNat_add, Int.toNat_mul, Int.reduceToNat]
      have hs := countP_succ (fun u => bef K o u m) i
      have hih := ih (i + 1) m c (by omega) hm hR
      by_cases e : (i : Int) = m
      · rw [if_pos e]
        rw [hs, show bef K o i m = false by rw [show i = m by omega, bef_irr]] at hih
        exact hih
      · rw [if_neg e, e246 hR (by omega) hm (by omega) ho]
        simp (disch := omega) only [iv_add, iv_sub, iv_mul, iv_neg, iv_lt, iv_le, iv_eq, iv_nat, iv_L, iv_L2, am_bi_v, am_bv_v, am_bl_v, if_pos, if_neg, Int.toNat_natCast, Int.toNat_add, Int.toNat_mul, Int.reduceToNat]
        rw [hs] at hih
        cases eb : bef K o i m with
        | false =>
          rw [eb] at hih
          rw [if_pos (by simp)]
          exact hih
        | true =>
          rw [eb] at hih
          rw [if_neg (by simp)]
          exact hih
  have outer : ∀ (k m : Nat) (c : Nat → Nat → Nat → Int32), m + k = nB K → RR c l K F → (∀ v, v < m → c 88 0 (rnk K o (nB K) v) = iv v) → ∃ c2 : Nat → Nat → Nat → Int32, X (d + 2) 245 2 [some (vr 48 0), some (vi (iv o)), some (vi (iv (m : Nat))), none, none] [] (c, l, x, y) = some (none, c2, l, x, y) ∧ Sy c c2 ∧ RowAt c2 88 0 (ordK K o) := by
    intro k
    induction k with
    | zero =>
      intro m c hm hR hc
      refine ⟨c, ?_, Sy.refl c, ?_⟩
      · rw [q_245_2, e185 hR]
        simp (disch := omega) only [iv_add, iv_sub, iv_mul, iv_neg, iv_lt, iv_le, iv_eq, iv_nat, iv_L, iv_L2, am_bi_v, am_bv_v, am_bl_v, if_pos, if_neg, Int.toNat_natCast, Int.toNat_add, Int.toNat_mul, Int.reduceToNat]
      · intro p hp
        have hm2 := ordK_lt (K := K) (o := o) _ (getD_mem hp)
        have := hc ((ordK K o).getD p 0) (by omega)
        rw [Ln_rnk ordK_Ln hp] at this
        exact this
    | succ k ih =>
      intro m c hm hR hc
      have hS : Sy c (am_ui c 88 0 (rnk K o (nB K) m) (iv m)) := Sy.ui _ _ _ _ (by omega)
      obtain ⟨c2, g1, g2, g3⟩ := ih (m + 1) (am_ui c 88 0 (rnk K o (nB K) m) (iv m)) (by omega) (Sy_RR hS hR) (by
        intro v hv
        by_cases e : v = m
        · subst e; rw [ui_self]
        · rw [ui_ne _ _ _ _ (Or.inr (Or.inr (fun q => e (rnk_inj (by omega) (by omega) q))))]
          exact hc v (by omega))
      refine ⟨c2, ?_, hS.tr g2, g3⟩
      rw [q_245_2, e185 hR]
      simp (disch := omega) only [iv_add, iv_sub, iv_mul, iv_neg, iv_lt, iv_le, iv_eq, iv_nat, iv_L, iv_L2, am_bi_v, am_bv_v, am_bl_v, if_pos, if_neg, Int.toNat_natCast, Int.toNat_add, Int.toNat_mul, Int.reduceToNat]
      exact (inner (nB K) 0 m c (Nat.zero_add _) (by omega) hR).trans g1
  rw [q_245]
  exact outer (nB K) 0 c (Nat.zero_add _) h (fun v hv => absurd hv (Nat.not_lt_zero v))
theorem fst_len (L : List Nat) : (fstW K L).length = L.length := List.length_map ..
theorem fst_at {L : List Nat} {i : Nat} (hi : i < L.length) : (fstW K L).getD i 0 = (sayK K (L.getD i 0)).getD 0 0 := by
  unfold fstW
  rw [List.getD_eq_getElem?_getD (l := List.map _ _), List.getElem?_map, List.getD_eq_getElem?_getD (l := L), List.getElem?_eq_getElem hi]
  rfl
theorem e247 (h : RR c l K F) {L : List Nat} (hL : RowAt c 88 0 L) (hl : L.length = nB K) (hb : ∀ b ∈ L, b < nB K) (d : Nat) : ∃ c2 : Nat → Nat → Nat → Int32, E (d + 7) 247 [vr 48 0] (c, l, x, y) = some (some (vi (iv (rul K F (fstW K L)))), c2, l, x, y) ∧ Sx c c2 := by
  have hn := h.2.1.2.2.2.1.1
  have hfw := fst_lt h.2.1 hb
  have key : ∀ (k i : Nat) (c : Nat → Nat → Nat → Int32), i + k = nB K → RR c l K F → RowAt c 88 0 L → TR c ((fstW K L).take i) → ∃ c2 : Nat → Nat → Nat → Int32, X (d + 7) 247 5 [some (vr 48 0), some (vi (iv (i : Nat)))] [] (c, l, x, y) = some (some (vi (iv (rul K F (fstW K L)))), c2, l, x, y) ∧ Sx c c2 := by
    intro k
    induction k with
    | zero =>
      intro i c hi hR hA hT
      rw [List.take_of_length_le (by rw [fst_len]; omega)] at hT
      obtain ⟨c2, g1, g2⟩ := e215 (x := x) (y := y) hR hT hfw (by rw [fst_len]; omega) d
      refine ⟨c2, ?_, g2⟩
      rw [q_247_5, e185 hR]
      simp (disch := omega) only [iv_add, iv_sub, iv_mul, iv_neg, iv_lt, iv_le, iv_eq, iv_nat, iv_L, iv_L2, am_bi_v, am_bv_v, am_bl_v, if_pos, if_neg, Int.toNat_natCast, Int.toNat_add, Int.toNat_mul, Int.reduceToNat]
      rw [g1]
      rfl
    | succ k ih =>
      intro i c hi hR hA hT
      have hi2 : i < L.length := by omega
      have hbi := hb _ (getD_mem hi2)
      have hs := (h.2.1.2.2.2.1.2 _ hbi).2.2.2.1
      obtain ⟨c2, g1, g2, g3⟩ := e203 (l := l) (x := x) (y := y) hT (by rw [List.length_take, fst_len]; omega) ((fstW K L).getD i 0) (d + 5)
      rw [← take_succ_getD (by rw [fst_len]; omega)] at g3
      obtain ⟨c3, k1, k2⟩ := ih (i + 1) c2 (by omega) (Sx_RR g2 hR) (RowAt_fr hA (g2.1 88 (by omega) (by omega))) g3
      refine ⟨c3, ?_, g2.tr k2⟩
      rw [q_247_5, e185 hR]
      simp (disch := omega) only [iv_add, iv_sub, iv_mul, iv_neg, iv_lt, iv_le, iv_eq, iv_nat, iv_L, iv_L2, am_bi_v, am_bv_v, am_bl_v, if_pos, if_neg, Int.toNat_natCast, Int.toNat_add, Int.toNat_mul, Int.reduceToNat, hA i hi2]
      have h188 := e188 (x := x) (y := y) hR hbi (k := 0) (by omega) (d + 5)
      rw [show ((0 : Nat) : Int) = 0 from rfl] at h188
      rw [h188]
      simp only [am_bi_v]
      rw [← fst_at hi2, g1]
      simp only [am_bv_v]
      exact k1
  rw [q_247]
  have hS : Sx c (am_ui c 48 0 44 0) := Sx.ui _ _ _ _ (by omega)
  obtain ⟨c2, g1, g2⟩ := key (nB K) 0 (am_ui c 48 0 44 0) (Nat.zero_add _) (Sx_RR hS h) (RowAt_fr hL (hS.1 88 (by omega) (by omega))) ⟨by rw [ui_self]; rfl, fun k hk => absurd hk (by simp)⟩
  exact ⟨c2, g1, hS.tr g2⟩
theorem m244 (h : RR c l K F) {o p : Int} (ho : -2147483648 ≤ o ∧ o < 2147483648) (hp : -2147483648 ≤ p ∧ p < 2147483648) (d : Nat) : ∃ c2 : Nat → Nat → Nat → Int32, E (d + 8) 244 [vr 48 0, vi (iv o), vi (iv p)] (c, l, x, y) = some (some (vi (iv (ordS K F o p))), c2, l, x, y) ∧ Sy c c2 := by
  have hn := h.2.1.2.2.2.1.1
  rw [q_244]
  simp (disch := omega) only [jv_of, jv_L, e171, am_bi_v]
  unfold ordS
  by_cases e0 : 0 ≤ o ∧ o ≤ 2
  · obtain ⟨c2, g1, g2, g3⟩ := e245 (x := x) (y := y) h e0 (d + 5)
    have hR2 := Sy_RR g2 h
    rw [if_pos e0]
    simp (disch := omega) only [iv_add, iv_sub, iv_mul, iv_neg, iv_lt, iv_le, iv_eq, iv_nat, iv_L, iv_L2, am_bi_v, am_bv_v, am_bl_v, if_pos, if_neg, Int.toNat_natCast, Int.toNat_add, Int.toNat_mul, Int.reduceToNat]
    rw [g1]
    simp only [am_bv_v]
    by_cases ep : p = -1
    · obtain ⟨c3, k1, k2⟩ := e247 (x := x) (y := y) hR2 g3 ordK_len ordK_lt d
      refine ⟨c3, ?_, g2.tr (Sx_Sy k2)⟩
      rw [if_pos ep, if_pos ⟨e0, by omega⟩, if_pos ep, k1]
      rfl
    · refine ⟨c2, ?_, g2⟩
      rw [if_neg ep, e191 hR2 hp]
      simp only [am_bi_v]
      by_cases e : 0 ≤ p ∧ p < nB K
      · rw [if_pos e, if_neg (show ¬ (iv 1 = iv 0) by decide), if_pos (show (0 ≤ o ∧ o ≤ 2) ∧ -1 ≤ p ∧ p < nB K from ⟨e0, by omega⟩), if_neg ep]
        obtain ⟨k, rfl⟩ := Int.eq_ofNat_of_zero_le e.1
        simp (disch := omega) only [iv_add, iv_sub, iv_mul, iv_neg, iv_lt, iv_le, iv_eq, iv_nat, iv_L, iv_L2, am_bi_v, am_bv_v, am_bl_v, if_pos, if_neg, Int.toNat_natCast, Int.toNat_add, Int.toNat_mul, Int.reduceToNat]
        rw [g3 k (by rw [ordK_len]; omega)]
      · rw [if_neg e, if_pos (by decide), if_neg (by omega)]
  · refine ⟨c, ?_, Sy.refl c⟩
    rw [if_neg e0, if_pos (by decide), if_neg (by omega)]
    rfl
end
