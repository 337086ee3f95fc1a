/-! more calls of the class: cases, all that undoes, lines, the row -/
/-- nothing that was found is kept -/
def PF (c : Nat → Nat → Nat → Int32) : Prop := (∀ p, p < 6 → c 28 0 p = iv (-2)) ∧ c 36 0 6 = iv 0 ∧ ∀ w, w < 7 → c 43 0 w = iv 0
section
variable {c : Nat → Nat → Nat → Int32} {l : Nat → Nat → Int64} {x y : Nat} {K : Ct} {F : Nat} {row : List (Nat × Nat)} {tp : Nat → Nat} {n : Nat} {fa fp : Int} {rf : Nat → Int32} {sd : Int} {oc : List Nat}
theorem AC_JR {c2 : Nat → Nat → Nat → Int32} {K2 : Ct} {F2 : Nat} {x2 y2 : Nat} (h : AC c x y K F row tp n fa fp rf sd oc) (hJ : JR c2 x2 K2 F2) (hx : x2 < 2 ∧ y2 < 2 ∧ x2 ≠ y2) (hf : ∀ k, k = 1 ∨ k = 2 ∨ (23 ≤ k ∧ k ≤ 26) ∨ k = 34 ∨ k = 46 → c2 k = c k) : AC c2 x2 y2 K2 F2 row tp n fa fp rf sd oc := by
  obtain ⟨h1, h2, h3, h4, h5, h6, h7⟩ := h
  refine ⟨hJ, hx, ⟨?_, RowAt_fr h3.2.1 (hf 24 (by omega)), RowAt_fr h3.2.2 (hf 25 (by omega))⟩, ⟨?_, RowAt_fr h4.2 (hf 26 (by omega))⟩, ?_, ?_, ?_⟩
  · rw [hf 23 (by omega)]; exact h3.1
  · rw [hf 23 (by omega)]; exact h4.1
  · rw [hf 1 (by omega), hf 2 (by omega)]; exact h5
  · rw [hf 46 (by omega)]; exact h6
  · rw [hf 34 (by omega)]; exact h7
theorem e132 (h : JR c x K F) (d : Nat) : ∃ c2 : Nat → Nat → Nat → Int32, E (d + 7) 132 [vr 0 0] (c, l, x, y) = some (none, c2, l, x, y) ∧ (∀ k, k ≠ 47 → c2 k = c k) ∧ RowAt c2 47 0 ((List.range (nC K)).map (fun i => rul K F (csK K i))) := by
  have h8 := h.2.1.2.2.2.2.1.1
  have key : ∀ (m i : Nat) (c1 : Nat → Nat → Nat → Int32), i + m = nC K → (∀ k, k ≠ 47 → c1 k = c k) → (∀ k, k < i → c1 47 0 k = iv (rul K F (csK K k))) → ∃ c2 : Nat → Nat → Nat → Int32, X (d + 7) 132 2 [some (vr 0 0), some (vi (iv (i : Nat)))] [] (c1, l, x, y) = some (none, c2, l, x, y) ∧ (∀ k, k ≠ 47 → c2 k = c k) ∧ ∀ k, k < nC K → c2 47 0 k = iv (rul K F (csK K k)) := by
    intro m
    induction m with
    | zero =>
      intro i c1 hi hf hq
      refine ⟨c1, ?_, hf, fun k hk => hq k (by omega)⟩
      have hJ : JR c1 x K F := JR_fr h (fun k _ _ => hf k (by omega))
      rw [q_132_2]
      simp (disch := omega) only [iv_add, iv_sub, iv_mul, iv_neg, iv_lt, iv_le, iv_eq, iv_nat, iv_L, iv_L2, am_bi_v, am_bv_v, am_bl_v, if_pos, if_neg, Int.toNat_natCast, Int.toNat_add, Int.toNat_mul, Int.reduceToNat, hJ.1.2.2.2.2.1.1]
    | succ m ih =>
      intro i c1 hi hf hq
      have hJ : JR c1 x K F := JR_fr h (fun k _ _ => hf k (by omega))
      obtain ⟨c2, g1, g2, g3⟩ := ih (i + 1) (am_ui c1 47 0 i (iv (rul K F (csK K i)))) (by omega) (fun k hk => (ui_nk _ _ _ _ hk).trans (hf k hk)) (by
        intro k hk
        by_cases e : k = i
        · subst e; rw [ui_self]
        · rw [ui_ne _ _ _ _ (by omega)]; exact hq k (by omega))
      refine ⟨c2, ?_, g2, g3⟩
      rw [q_132_2]
      simp (disch := omega) only [iv_add, iv_sub, iv_mul, iv_neg, iv_lt, iv_le, iv_eq, iv_nat, iv_L, iv_L2, am_bi_v, am_bv_v, am_bl_v, if_pos, if_neg, Int.toNat_natCast, Int.toNat_add, Int.toNat_mul, Int.reduceToNat, hJ.1.2.2.2.2.1.1, e51 hJ (show i < nC K by omega)]
      exact g1
  obtain ⟨c2, g1, g2, g3⟩ := key (nC K) 0 c (by omega) (fun _ _ => rfl) (fun k hk => absurd hk (Nat.not_lt_zero _))
  refine ⟨c2, by rw [q_132]; exact g1, g2, fun k hk => ?_⟩
  rw [List.length_map, List.length_range] at hk
  rw [g3 k hk, List.getD_eq_getElem?_getD, List.getElem?_map, List.getElem?_range hk]
  rfl
theorem k133 (h : AC c x y K F row tp n fa fp rf sd oc) {z : Int} (hz : -2147483648 ≤ z ∧ z < 2147483648) (d : Nat) : ∃ c2 : Nat → Nat → Nat → Int32, E (d + 8) 133 [vr 0 0, vi (iv z)] (c, l, x, y) = some (some (vi (iv (casS K F z))), c2, l, x, y) ∧ ∀ k, k ≠ 47 → c2 k = c k := by
  have h8 := h.1.2.1.2.2.2.2.1.1
  rw [q_133, q_134]
  unfold casS
  by_cases e : 0 ≤ z ∧ z < 3
  · obtain ⟨c2, g1, g2, g3⟩ := e132 (l := l) (y := y) h.1 d
    have hlen : ((List.range (nC K)).map (fun i => rul K F (csK K i))).length = nC K := by rw [List.length_map, List.length_range]
    have e4 := e104 (c := c2) (l := l) (x := x) (y := y) (kd := 47) (ki := 0) (by omega) g3 (by rw [hlen]; exact h8) (fun w q => by
      obtain ⟨i, -, rfl⟩ := List.mem_map.mp q
      have := rul_lt K F (csK K i)
      omega) hz (d + 6)
    rw [hlen] at e4
    refine ⟨c2, ?_, g2⟩
    rw [if_pos e]
    simp (disch := omega) only [iv_add, iv_sub, iv_mul, iv_neg, iv_lt, iv_le, iv_eq, iv_nat, iv_L, iv_L2, am_bi_v, am_bv_v, am_bl_v, if_pos, if_neg, Int.toNat_natCast, Int.toNat_add, Int.toNat_mul, Int.reduceToNat, g1, g2 4 (by decide), h.1.1.2.2.2.2.1.1, e4]
    unfold cntW
    rw [List.countP_map]
    rfl
  · refine ⟨c, ?_, fun _ _ => rfl⟩
    rw [if_neg e]
    by_cases e1 : z < 0
    · simp (disch := omega) only [iv_add, iv_sub, iv_mul, iv_neg, iv_lt, iv_le, iv_eq, iv_nat, iv_L, iv_L2, am_bi_v, am_bv_v, am_bl_v, if_pos, if_neg, Int.toNat_natCast, Int.toNat_add, Int.toNat_mul, Int.reduceToNat, if_true]
    · simp (disch := omega) only [iv_add, iv_sub, iv_mul, iv_neg, iv_lt, iv_le, iv_eq, iv_nat, iv_L, iv_L2, am_bi_v, am_bv_v, am_bl_v, if_pos, if_neg, Int.toNat_natCast, Int.toNat_add, Int.toNat_mul, Int.reduceToNat, if_true]
theorem shl1 : ∀ w : Nat, w < 31 → iv 1 <<< (iv (w : Int) &&& iv 31) = iv ((2 ^ w : Nat) : Int) := by decide
theorem toggle_lt {a i m : Nat} (ha : a < 2 ^ m) (hi : i < m) : a ^^^ 2 ^ i < 2 ^ m := Nat.xor_lt_two_pow ha (Nat.pow_lt_pow_right (by decide) hi)
theorem testBit_toggle (a i j : Nat) : (a ^^^ 2 ^ i).testBit j = if i = j then !a.testBit j else a.testBit j := by
  rw [Nat.testBit_xor, Nat.testBit_two_pow]
  by_cases h : i = j
  · rw [if_pos h]; simp [h]
  · rw [if_neg h]; simp [h]
theorem k131 (h : AC c x y K F row tp n fa fp rf sd oc) (hv : VS K F row tp n fa fp sd oc) {z : Int} (hz : -2147483648 ≤ z ∧ z < 2147483648) (d : Nat) : ∃ c2 : Nat → Nat → Nat → Int32, E (d + 8) 131 [vr 0 0, vi (iv z)] (c, l, x, y) = some (some (vi (iv (turS K F z))), c2, l, x, y) ∧ JR c2 x K F ∧ ∀ k, k ≠ 47 → k ≠ 20 → k ≠ 21 → k ≠ 22 → c2 k = c k := by
  have h8 := hv.1.2.2.2.2.1.1
  have h6 := hv.1.2.1.1
  have hF := F64 hv
  rw [q_131, e20 h.1 hz]
  unfold turS
  by_cases e : 0 ≤ z ∧ z < nL K
  · obtain ⟨i, rfl⟩ := Int.eq_ofNat_of_zero_le e.1
    have hi : i < nL K := by omega
    by_cases ht : F.testBit i = true
    · obtain ⟨c2, g1, g2, g3⟩ := e132 (l := l) (y := y) h.1 d
      have hC2 : CR c2 x K := CR_fr h.1.1 (fun k _ _ => g2 k (by omega))
      have hF2 : F ^^^ 2 ^ i < 64 := toggle_lt (m := 6) hF (by omega)
      obtain ⟨c3, k1, k2, k3⟩ := e37 (l := l) (y := y) hC2 hv.1 hF2 (d + 5)
      have key : ∀ (m j v : Nat), j + m = nC K → v ≤ j → ∃ c4 : Nat → Nat → Nat → Int32, X (d + 8) 131 33 [some (vr 0 0), none, some (vi (iv F)), some (vi (iv (v : Nat))), some (vi (iv (j : Nat)))] [] (c3, l, x, y) = some (some (vi (iv ((v + (List.range' j m).countP (fun j => rul K (F ^^^ 2 ^ i) (csK K j) != rul K F (csK K j)) : Nat) : Int))), c4, l, x, y) ∧ JR c4 x K F ∧ ∀ k, k ≠ 20 → k ≠ 21 → k ≠ 22 → c4 k = c3 k := by
        intro m
        induction m with
        | zero =>
          intro j v hj hv2
          obtain ⟨c4, a1, a2, a3⟩ := e37 (l := l) (y := y) k2.1 hv.1 hF (d + 5)
          refine ⟨c4, ?_, a2, a3⟩
          rw [q_131_33]
          simp (disch := omega) only [iv_add, iv_sub, iv_mul, iv_neg, iv_lt, iv_le, iv_eq, iv_nat, iv_L, iv_L2, am_bi_v, am_bv_v, am_bl_v, if_pos, if_neg, Int.toNat_natCast, Int.toNat_add, Int.toNat_mul, Int.reduceToNat, k2.1.2.2.2.2.1.1, a1]
          rfl
        | succ m ih =>
          intro j v hj hv2
          have hjc : j < nC K := by omega
          have r1 := rul_lt K (F ^^^ 2 ^ i) (csK K j)
          have r2 := rul_lt K F (csK K j)
          have c47 : c3 47 0 j = iv (rul K F (csK K j)) := by
            rw [k3 47 (by decide) (by decide) (by decide)]
            have := g3 j (by rw [List.length_map, List.length_range]; exact hjc)
            rw [this, List.getD_eq_getElem?_getD, List.getElem?_map, List.getElem?_range hjc]
            rfl
          have hstep : X (d + 8) 131 33 [some (vr 0 0), none, some (vi (iv F)), some (vi (iv (v : Nat))), some (vi (iv (j : Nat)))] [] (c3, l, x, y) = if rul K (F ^^^ 2 ^ i) (csK K j) = rul K F (csK K j) then X (d + 8) 131 33 [some (vr 0 0), none, some (vi (iv F)), some (vi (iv (v : Nat))), some (vi (iv ((j + 1 : Nat) : Int)))] [] (c3, l, x, y) else X (d + 8) 131 33 [some (vr 0 0), none, some (vi (iv F)), some (vi (iv ((v + 1 : Nat) : Int))), some (vi (iv ((j + 1 : Nat) : Int)))] [] (c3, l, x, y) := by
            rw [q_131_33]
            simp (disch := omega) only [iv_add, iv_sub, iv_mul, iv_neg, iv_lt, iv_le, iv_eq, iv_nat, iv_L, iv_L2, am_bi_v, am_bv_v, am_bl_v, if_pos, if_neg, Int.toNat_natCast, Int.toNat_add, Int.toNat_mul, Int.reduceToNat, k2.1.2.2.2.2.1.1, e51 k2 hjc, c47]
            rw [show ((j : Int) + 1) = ((j + 1 : Nat) : Int) by omega, show ((v : Int) + 0) = (v : Int) by omega, show ((v : Int) + 1) = ((v + 1 : Nat) : Int) by omega]
            by_cases e : rul K (F ^^^ 2 ^ i) (csK K j) = rul K F (csK K j)
            · rw [if_pos e, if_pos (by omega)]
            · rw [if_neg e, if_neg (by omega)]
          rw [hstep, List.range'_succ, List.countP_cons]
          by_cases e : rul K (F ^^^ 2 ^ i) (csK K j) = rul K F (csK K j)
          · rw [if_pos e, if_neg (by simpa using e)]
            exact ih (j + 1) v (by omega) (by omega)
          · rw [if_neg e, if_pos (by simpa using e), show v + ((List.range' (j + 1) m).countP (fun j => rul K (F ^^^ 2 ^ i) (csK K j) != rul K F (csK K j)) + 1) = v + 1 + (List.range' (j + 1) m).countP (fun j => rul K (F ^^^ 2 ^ i) (csK K j) != rul K F (csK K j)) by omega]
            exact ih (j + 1) (v + 1) (by omega) (by omega)
      obtain ⟨c4, a1, a2, a3⟩ := key (nC K) 0 0 (by omega) (Nat.le_refl _)
      refine ⟨c4, ?_, a2, fun k q1 q2 q3 q4 => ((a3 k q2 q3 q4).trans (k3 k q2 q3 q4)).trans (g2 k q1)⟩
      rw [if_pos e, if_pos e]
      simp (disch := omega) only [am_bi_v, am_bv_v, iv_L, iv_eq, if_neg]
      rw [e38 hF h.1.2.2.2.1 (by omega), ht]
      simp only [if_true, am_bi_v]
      rw [if_neg (by decide), g1]
      simp only [am_bv_v]
      have hsh : iv 1 <<< (iv (i : Int) &&& 31) = iv ((2 ^ i : Nat) : Int) := shl1 i (by omega)
      rw [hsh, h.1.2.2.2.1]
      have hp6 : 2 ^ i ≤ 2 ^ 6 := Nat.pow_le_pow_right (by decide) (by omega)
      have hp7 : ((2 ^ i : Nat) : Int) ≤ 64 := Int.ofNat_le.mpr hp6
      rw [iv_xor (by omega) ⟨Int.natCast_nonneg _, Int.lt_of_le_of_lt hp7 (by decide)⟩, Int.toNat_natCast, Int.toNat_natCast, k1]
      simp only [am_bv_v, Int.toNat_natCast, ht, if_true]
      rw [Nat.zero_add, ← List.range_eq_range'] at a1
      exact a1
    · refine ⟨c, ?_, h.1, fun _ _ _ _ _ => rfl⟩
      rw [if_pos e, if_pos e]
      simp (disch := omega) only [am_bi_v, iv_L, iv_eq, if_neg]
      rw [e38 hF h.1.2.2.2.1 (by omega), Int.toNat_natCast, if_neg ht]
      simp only [am_bi_v]
      simp only [if_true, if_neg ht]
  · refine ⟨c, ?_, h.1, fun _ _ _ _ _ => rfl⟩
    rw [if_neg e, if_neg e]
    rfl
theorem allW_bd (K : Ct) (F : Nat) (ws : List Nat) (p : Nat) : ∀ (L : List Nat) (a : Nat × Nat × Nat), (∀ w ∈ L, w < 20) → a.2.2 < 1048576 → (L.foldl (allW K F ws p) a).1 ≤ a.1 + L.length ∧ a.1 ≤ (L.foldl (allW K F ws p) a).1 ∧ (L.foldl (allW K F ws p) a).2.1 = a.2.1 ∧ (L.foldl (allW K F ws p) a).2.2 < 1048576
  | [], a, _, h => ⟨Nat.le_refl _, Nat.le_refl _, rfl, h⟩
  | w :: L, a, hL, h => by
    have hw := hL w List.mem_cons_self
    have hb : (allW K F ws p a w).1 ≤ a.1 + 1 ∧ a.1 ≤ (allW K F ws p a w).1 ∧ (allW K F ws p a w).2.1 = a.2.1 ∧ (allW K F ws p a w).2.2 < 1048576 := by
      unfold allW
      split
      · exact ⟨Nat.le_refl _, Nat.le_succ _, rfl, Nat.or_lt_two_pow (n := 20) h (Nat.pow_lt_pow_right (by decide) hw)⟩
      · exact ⟨Nat.le_succ _, Nat.le_refl _, rfl, h⟩
    obtain ⟨i1, i2, i3, i4⟩ := allW_bd K F ws p L (allW K F ws p a w) (fun v hv => hL v (List.mem_cons_of_mem _ hv)) hb.2.2.2
    rw [List.foldl_cons, List.length_cons]
    exact ⟨by omega, by omega, by rw [i3]; exact hb.2.2.1, i4⟩
theorem allP_bd (hK : nW K ≤ 20) (ws : List Nat) : ∀ (L : List Nat) (a : Nat × Nat × Nat), a.2.2 < 1048576 → (L.foldl (allP K F ws) a).1 ≤ a.1 + 20 * L.length ∧ (L.foldl (allP K F ws) a).2.1 ≤ a.2.1 + L.length ∧ (L.foldl (allP K F ws) a).2.2 < 1048576
  | [], a, h => ⟨by simp, by simp, h⟩
  | p :: L, a, h => by
    have hb := allW_bd K F ws p (List.range (nW K)) a (fun w q => by have := List.mem_range.mp q; omega) h
    rw [List.length_range] at hb
    obtain ⟨i1, i2, i3⟩ := allP_bd hK ws L (allP K F ws a p) hb.2.2.2
    rw [List.foldl_cons, List.length_cons]
    unfold allP at i1 i2 i3 ⊢
    dsimp only at i1 i2 i3 ⊢
    have h1 : (if a.1 < ((List.range (nW K)).foldl (allW K F ws p) a).1 then 1 else 0) ≤ 1 := by split <;> omega
    exact ⟨by omega, by omega, i3⟩
end
