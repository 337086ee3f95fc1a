/-! the class: all that undoes the row -/
def allS (K : Ct) (F : Nat) (ws : List Nat) (z : Int) : Int := if 0 ≤ z ∧ z ≤ 2 then (if z = 0 then ((allA K F ws).1 : Int) else if z = 1 then ((allA K F ws).2.1 : Int) else (pc (allA K F ws).2.2 : Int)) else -1
def pickF (L : List Nat) (k seen : Int) : Int := if seen ≤ k then oi L[(k - seen).toNat]? else -1
theorem pickF_app (L1 L2 : List Nat) (k seen : Int) : pickF (L1 ++ L2) k seen = if seen ≤ k ∧ k < seen + L1.length then ((L1.getD (k - seen).toNat 0 : Nat) : Int) else pickF L2 k (seen + L1.length) := by
  unfold pickF
  by_cases e : seen ≤ k ∧ k < seen + L1.length
  · rw [if_pos e, if_pos e.1, List.getElem?_append_left (by omega), List.getD_eq_getElem?_getD, List.getElem?_eq_getElem (show (k - seen).toNat < L1.length by omega)]
    rfl
  · rw [if_neg e]
    by_cases e1 : seen ≤ k
    · rw [if_pos e1, if_pos (by omega), List.getElem?_append_right (by omega), show (k - seen).toNat - L1.length = (k - (seen + L1.length)).toNat by omega]
    · rw [if_neg e1, if_neg (by omega)]
theorem pickF_nil (k seen : Int) : pickF [] k seen = -1 := by
  unfold pickF
  split <;> rfl
section
variable {c : Nat → Nat → Nat → Int32} {l : Nat → Nat → Int64} {x y : Nat} {K : Ct} {F : Nat} {row : List (Nat × Nat)} {tp : Nat → Nat} {n : Nat} {fa fp : Int} {rf : Nat → Int32} {sd : Int} {oc : List Nat}
theorem or_pow (a w : Nat) (ha : a < 1048576) (hw : w < 20) : iv (a : Int) ||| (iv 1 <<< (iv (w : Int) &&& iv 31)) = iv ((a ||| 2 ^ w : Nat) : Int) := by
  have hp6 : 2 ^ w ≤ 2 ^ 19 := Nat.pow_le_pow_right (by decide) (by omega)
  have hp7 : ((2 ^ w : Nat) : Int) ≤ 524288 := Int.ofNat_le.mpr hp6
  rw [shl1 w (by omega), iv_or (by omega) ⟨Int.natCast_nonneg _, Int.lt_of_le_of_lt hp7 (by decide)⟩, Int.toNat_natCast, Int.toNat_natCast]
theorem k124 (h : AC c x y K F row tp n fa fp rf sd oc) (hv : VS K F row tp n fa fp sd oc) {z : Int} (hz : -2147483648 ≤ z ∧ z < 2147483648) (d : Nat) : E (d + 7) 124 [vr 0 0, vi (iv z)] (c, l, x, y) = some (some (vi (iv (allS K F (wds row) z))), c, l, x, y) := by
  have h7 := row7 hv
  have h20 := hv.1.1.1
  have hnow := rul_lt K F (wds row)
  have inner : ∀ (p : Nat), p ≤ row.length → ∀ (m w : Nat) (a : Nat × Nat × Nat) (b : Nat), w + m = nW K → a.1 ≤ 20 * p + w → b ≤ 160 → a.2.1 ≤ 8 → a.2.2 < 1048576 → X (d + 7) 124 30 [some (vr 0 0), some (vi (iv z)), some (vi (iv a.1)), some (vi (iv a.2.1)), some (vi (iv a.2.2)), some (vi (iv (rul K F (wds row)))), some (vi (iv (p : Nat))), some (vi (iv (b : Nat))), some (vi (iv (w : Nat)))] [] (c, l, x, y) = X (d + 7) 124 21 [some (vr 0 0), some (vi (iv z)), some (vi (iv ((List.range' w m).foldl (allW K F (wds row) p) a).1)), some (vi (iv ((a.2.1 + (if b < ((List.range' w m).foldl (allW K F (wds row) p) a).1 then 1 else 0) : Nat) : Int))), some (vi (iv ((List.range' w m).foldl (allW K F (wds row) p) a).2.2)), some (vi (iv (rul K F (wds row)))), some (vi (iv ((p + 1 : Nat) : Int))), none, none] [] (c, l, x, y) := by
    intro p hp m
    induction m with
    | zero =>
      intro w a b hw ha hb ha2 ha3
      rw [q_124_30, h.1.1.1.1]
      simp (disch := omega) only [iv_add, iv_sub, iv_mul, iv_neg, iv_lt, iv_le, iv_eq, iv_nat, iv_L, iv_L2, am_bi_v, am_bv_v, am_bl_v, if_pos, if_neg, Int.toNat_natCast, Int.toNat_add, Int.toNat_mul, Int.reduceToNat]
      rw [show ((p : Int) + 1) = ((p + 1 : Nat) : Int) by omega]
      show _ = X (d + 7) 124 21 [some (vr 0 0), some (vi (iv z)), some (vi (iv a.1)), some (vi (iv ((a.2.1 + (if b < a.1 then 1 else 0) : Nat) : Int))), some (vi (iv a.2.2)), some (vi (iv (rul K F (wds row)))), some (vi (iv ((p + 1 : Nat) : Int))), none, none] [] (c, l, x, y)
      by_cases e : b < a.1
      · rw [if_pos (by omega), if_pos e, show ((a.2.1 : Int) + 1) = ((a.2.1 + 1 : Nat) : Int) by omega]
      · rw [if_neg (by omega), if_neg e, show ((a.2.1 : Int) + 0) = ((a.2.1 + 0 : Nat) : Int) by omega]
    | succ m ih =>
      intro w a b hw ha hb ha2 ha3
      have hw2 : w < nW K := by omega
      have r1 := rul_lt K F (insAt (wds row) p w)
      rw [q_124_30, h.1.1.1.1]
      simp (disch := omega) only [iv_add, iv_sub, iv_mul, iv_neg, iv_lt, iv_le, iv_eq, iv_nat, iv_L, iv_L2, am_bi_v, am_bv_v, am_bl_v, if_pos, if_neg, Int.toNat_natCast, Int.toNat_add, Int.toNat_mul, Int.reduceToNat, k125 h hv hp hw2]
      rw [show ((w : Int) + 1) = ((w + 1 : Nat) : Int) by omega, List.range'_succ, List.foldl_cons]
      by_cases e : rul K F (insAt (wds row) p w) = rul K F (wds row)
      · have hs : allW K F (wds row) p a w = a := by unfold allW undB; rw [if_neg (by simpa using e)]
        rw [if_pos (by omega), hs]
        exact ih (w + 1) a b (by omega) (by omega) hb ha2 ha3
      · have hs : allW K F (wds row) p a w = (a.1 + 1, a.2.1, a.2.2 ||| 2 ^ w) := by unfold allW undB; rw [if_pos (by simpa using e)]
        rw [if_neg (by omega), hs]
        have hi : (iv 1 : Int32) <<< (iv (w : Int) &&& 31) = iv 1 <<< (iv (w : Int) &&& iv 31) := rfl
        have := ih (w + 1) (a.1 + 1, a.2.1, a.2.2 ||| 2 ^ w) b (by omega) (by show a.1 + 1 ≤ _; omega) hb ha2 (Nat.or_lt_two_pow (n := 20) ha3 (Nat.pow_lt_pow_right (by decide) (by omega)))
        rw [← this, show ((a.1 : Int) + 1) = ((a.1 + 1 : Nat) : Int) by omega]
        simp only [iv_L2]
        rw [or_pow _ _ ha3 (by omega)]
  have outer : ∀ (m p : Nat) (a : Nat × Nat × Nat), p + m = row.length + 1 → a.1 ≤ 20 * p → a.2.1 ≤ p → a.2.2 < 1048576 → X (d + 7) 124 21 [some (vr 0 0), some (vi (iv z)), some (vi (iv a.1)), some (vi (iv a.2.1)), some (vi (iv a.2.2)), some (vi (iv (rul K F (wds row)))), some (vi (iv (p : Nat))), none, none] [] (c, l, x, y) = some (some (vi (iv (if z = 0 then (((List.range' p m).foldl (allP K F (wds row)) a).1 : Int) else if z = 1 then (((List.range' p m).foldl (allP K F (wds row)) a).2.1 : Int) else (pc ((List.range' p m).foldl (allP K F (wds row)) a).2.2 : Int)))), c, l, x, y) := by
    intro m
    induction m with
    | zero =>
      intro p a hp ha1 ha2 ha3
      rw [q_124_21, h.2.2.1.1]
      simp (disch := omega) only [iv_add, iv_sub, iv_mul, iv_neg, iv_lt, iv_le, iv_eq, iv_nat, iv_L, iv_L2, am_bi_v, am_bv_v, am_bl_v, if_pos, if_neg, Int.toNat_natCast, Int.toNat_add, Int.toNat_mul, Int.reduceToNat]
      rw [e299 ha3]
      show _ = some (some (vi (iv (if z = 0 then (a.1 : Int) else if z = 1 then (a.2.1 : Int) else (pc a.2.2 : Int)))), c, l, x, y)
      by_cases z0 : z = 0
      · rw [if_pos z0, if_pos z0]
      · by_cases z1 : z = 1
        · rw [if_neg z0, if_pos z1, if_neg z0, if_pos z1]
        · rw [if_neg z0, if_neg z1, if_neg z0, if_neg z1]; rfl
    | succ m ih =>
      intro p a hp ha1 ha2 ha3
      have hb := allW_bd K F (wds row) p (List.range (nW K)) a (fun w q => by have := List.mem_range.mp q; omega) ha3
      rw [List.length_range] at hb
      have hin := inner p (by omega) (nW K) 0 a a.1 (by omega) (by omega) (by omega) (by omega) ha3
      rw [← List.range_eq_range'] at hin
      rw [q_124_21, h.2.2.1.1]
      simp (disch := omega) only [iv_add, iv_sub, iv_mul, iv_neg, iv_lt, iv_le, iv_eq, iv_nat, iv_L, iv_L2, am_bi_v, am_bv_v, am_bl_v, if_pos, if_neg, Int.toNat_natCast, Int.toNat_add, Int.toNat_mul, Int.reduceToNat]
      rw [show vi (iv 0) = vi (iv ((0 : Nat) : Int)) from rfl, hin, List.range'_succ, List.foldl_cons]
      have hif : (if a.1 < ((List.range (nW K)).foldl (allW K F (wds row) p) a).1 then 1 else 0) ≤ 1 := by split <;> omega
      exact ih (p + 1) (allP K F (wds row) a p) (by omega) (by unfold allP; dsimp only; omega) (by unfold allP; dsimp only; omega) (by unfold allP; exact hb.2.2.2)
  rw [q_124]
  unfold allS
  by_cases e : 0 ≤ z ∧ z ≤ 2
  · rw [if_pos e]
    simp (disch := omega) only [iv_add, iv_sub, iv_mul, iv_neg, iv_lt, iv_le, iv_eq, iv_nat, iv_L, iv_L2, am_bi_v, am_bv_v, am_bl_v, if_pos, if_neg, Int.toNat_natCast, Int.toNat_add, Int.toNat_mul, Int.reduceToNat]
    rw [k120 h hv]
    simp only [am_bi_v]
    rw [rulC_now h hv]
    simp only [am_bi_v]
    have := outer (row.length + 1) 0 (0, 0, 0) (by omega) (Nat.le_refl _) (Nat.le_refl _) (by decide)
    rw [← List.range_eq_range', ← wds_len row] at this
    exact this
  · rw [if_neg e]
    by_cases e1 : z < 0
    · simp (disch := omega) only [iv_add, iv_sub, iv_mul, iv_neg, iv_lt, iv_le, iv_eq, iv_nat, iv_L, iv_L2, am_bi_v, am_bv_v, am_bl_v, if_pos, if_neg, Int.toNat_natCast, Int.toNat_add, Int.toNat_mul, Int.reduceToNat]
    · simp (disch := omega) only [iv_add, iv_sub, iv_mul, iv_neg, iv_lt, iv_le, iv_eq, iv_nat, iv_L, iv_L2, am_bi_v, am_bv_v, am_bl_v, if_pos, if_neg, Int.toNat_natCast, Int.toNat_add, Int.toNat_mul, Int.reduceToNat]
theorem k126 (h : AC c x y K F row tp n fa fp rf sd oc) (hv : VS K F row tp n fa fp sd oc) {k : Int} (hk : -2147483648 ≤ k ∧ k < 2147483648) (d : Nat) : E (d + 7) 126 [vr 0 0, vi (iv k)] (c, l, x, y) = some (some (vi (iv (oneS K F (wds row) k))), c, l, x, y) := by
  have h7 := row7 hv
  have h20 := hv.1.1.1
  have hnow := rul_lt K F (wds row)
  have inner : ∀ (p : Nat), p ≤ row.length → ∀ (m w s : Nat), w + m = nW K → s ≤ 20 * p + w → X (d + 7) 126 17 [some (vr 0 0), some (vi (iv k)), some (vi (iv (rul K F (wds row)))), some (vi (iv (s : Nat))), some (vi (iv (p : Nat))), some (vi (iv (w : Nat)))] [] (c, l, x, y) = if (s : Int) ≤ k ∧ k < s + (undL K F (wds row) p (List.range' w m)).length then some (some (vi (iv ((undL K F (wds row) p (List.range' w m)).getD (k - s).toNat 0 : Nat))), c, l, x, y) else X (d + 7) 126 10 [some (vr 0 0), some (vi (iv k)), some (vi (iv (rul K F (wds row)))), some (vi (iv ((s + (undL K F (wds row) p (List.range' w m)).length : Nat) : Int))), some (vi (iv ((p + 1 : Nat) : Int))), none] [] (c, l, x, y) := by
    intro p hp m
    induction m with
    | zero =>
      intro w s hw hs
      rw [q_126_17, h.1.1.1.1]
      simp (disch := omega) only [iv_add, iv_sub, iv_mul, iv_neg, iv_lt, iv_le, iv_eq, iv_nat, iv_L, iv_L2, am_bi_v, am_bv_v, am_bl_v, if_pos, if_neg, Int.toNat_natCast, Int.toNat_add, Int.toNat_mul, Int.reduceToNat]
      rw [show undL K F (wds row) p (List.range' w 0) = [] from rfl, if_neg (show ¬ ((s : Int) ≤ k ∧ k < s + (([] : List Nat).length : Nat)) by simp only [List.length_nil]; omega), show ((p : Int) + 1) = ((p + 1 : Nat) : Int) by omega]
      rfl
    | succ m ih =>
      intro w s hw hs
      have hw2 : w < nW K := by omega
      have r1 := rul_lt K F (insAt (wds row) p w)
      rw [q_126_17, h.1.1.1.1]
      simp (disch := omega) only [iv_add, iv_sub, iv_mul, iv_neg, iv_lt, iv_le, iv_eq, iv_nat, iv_L, iv_L2, am_bi_v, am_bv_v, am_bl_v, if_pos, if_neg, Int.toNat_natCast, Int.toNat_add, Int.toNat_mul, Int.reduceToNat, k125 h hv hp hw2]
      rw [show ((w : Int) + 1) = ((w + 1 : Nat) : Int) by omega, List.range'_succ]
      by_cases e : rul K F (insAt (wds row) p w) = rul K F (wds row)
      · have hu : undL K F (wds row) p (w :: List.range' (w + 1) m) = undL K F (wds row) p (List.range' (w + 1) m) := by
          unfold undL
          rw [List.filter_cons_of_neg (by unfold undB; simpa using e)]
        rw [if_pos (by omega), hu]
        exact ih (w + 1) s (by omega) (by omega)
      · have hu : undL K F (wds row) p (w :: List.range' (w + 1) m) = (100 * p + w) :: undL K F (wds row) p (List.range' (w + 1) m) := by
          unfold undL
          rw [List.filter_cons_of_pos (by unfold undB; simpa using e), List.map_cons]
        rw [if_neg (by omega), hu, List.length_cons]
        have hih := ih (w + 1) (s + 1) (by omega) (by omega)
        generalize hL : undL K F (wds row) p (List.range' (w + 1) m) = L at hih ⊢
        by_cases e2 : (s : Int) = k
        · rw [if_pos e2, if_pos (by omega), show (k - s).toNat = 0 by omega]
          rfl
        · rw [if_neg e2, show ((s : Int) + 1) = ((s + 1 : Nat) : Int) by omega, hih]
          by_cases e3 : ((s + 1 : Nat) : Int) ≤ k ∧ k < ((s + 1 : Nat) : Int) + L.length
          · rw [if_pos e3, if_pos (by omega), show (k - s).toNat = (k - ((s + 1 : Nat) : Int)).toNat + 1 by omega]
            rfl
          · rw [if_neg e3, if_neg (by omega), show s + 1 + L.length = s + (L.length + 1) by omega]
  have undlen : ∀ p, (undL K F (wds row) p (List.range (nW K))).length ≤ nW K := by
    intro p
    unfold undL
    rw [List.length_map]
    have := List.length_filter_le (undB K F (wds row) p) (List.range (nW K))
    rw [List.length_range] at this
    exact this
  have outer : ∀ (m p s : Nat), p + m = row.length + 1 → s ≤ 20 * p → X (d + 7) 126 10 [some (vr 0 0), some (vi (iv k)), some (vi (iv (rul K F (wds row)))), some (vi (iv (s : Nat))), some (vi (iv (p : Nat))), none] [] (c, l, x, y) = some (some (vi (iv (pickF (oneL K F (wds row) (List.range' p m)) k s))), c, l, x, y) := by
    intro m
    induction m with
    | zero =>
      intro p s hp hs
      rw [q_126_10, h.2.2.1.1]
      simp (disch := omega) only [iv_add, iv_sub, iv_mul, iv_neg, iv_lt, iv_le, iv_eq, iv_nat, iv_L, iv_L2, am_bi_v, am_bv_v, am_bl_v, if_pos, if_neg, Int.toNat_natCast, Int.toNat_add, Int.toNat_mul, Int.reduceToNat]
      rw [show oneL K F (wds row) (List.range' p 0) = [] from rfl, pickF_nil]
    | succ m ih =>
      intro p s hp hs
      have hin := inner p (by omega) (nW K) 0 s (by omega) (by omega)
      rw [← List.range_eq_range'] at hin
      have hul := undlen p
      rw [q_126_10, h.2.2.1.1]
      simp (disch := omega) only [iv_add, iv_sub, iv_mul, iv_neg, iv_lt, iv_le, iv_eq, iv_nat, iv_L, iv_L2, am_bi_v, am_bv_v, am_bl_v, if_pos, if_neg, Int.toNat_natCast, Int.toNat_add, Int.toNat_mul, Int.reduceToNat]
      rw [show vi (iv 0) = vi (iv ((0 : Nat) : Int)) from rfl, hin, List.range'_succ]
      rw [show oneL K F (wds row) (p :: List.range' (p + 1) m) = undL K F (wds row) p (List.range (nW K)) ++ oneL K F (wds row) (List.range' (p + 1) m) from List.flatMap_cons .., pickF_app, ih (p + 1) _ (by omega) (by omega)]
      split <;> rfl
  rw [q_126, k120 h hv]
  simp only [am_bi_v]
  rw [rulC_now h hv]
  simp only [am_bi_v]
  have := outer (row.length + 1) 0 0 (by omega) (Nat.le_refl _)
  rw [← List.range_eq_range', ← wds_len row] at this
  refine Eq.trans this ?_
  unfold oneS pick pickF
  by_cases e : (0 : Int) ≤ k
  · rw [if_pos e, if_pos (show ((0 : Nat) : Int) ≤ k from e)]
    rw [show k - ((0 : Nat) : Int) = k by omega]
  · rw [if_neg e, if_neg (show ¬ ((0 : Nat) : Int) ≤ k from e)]
end
