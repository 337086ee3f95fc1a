/-! the reference: all that undoes the row; lines that turn cases -/
section
variable {c : Nat → Nat → Nat → Int32} {l : Nat → Nat → Int64} {x y : Nat} {K : Ct} {F : Nat} {row : List (Nat × Nat)} {tp : Nat → Nat} {n : Nat} {fa fp : Int} {rf : Nat → Int32} {sd : Int} {oc : List Nat}
theorem m231_67 (d : Nat) : ∀ (k v s : Nat), s < 1048576 → s ≤ k → X (d + 1) 231 67 [none, none, none, none, none, none, some (vi (iv (v : Nat))), some (vi (iv (s : Nat))), none] [] (c, l, x, y) = some (some (vi (iv ((v + pc s : Nat) : Int))), c, l, x, y) := by
  intro k
  induction k with
  | zero =>
    intro v s hs hk
    have : s = 0 := by omega
    subst this
    rw [q_231_67, if_pos (show iv ((0 : Nat) : Int) = 0 from rfl), show pc 0 = 0 from rfl]
    rfl
  | succ k ih =>
    intro v s hs hk
    by_cases e : s = 0
    · subst e
      rw [q_231_67, if_pos (show iv ((0 : Nat) : Int) = 0 from rfl), show pc 0 = 0 from rfl]
      rfl
    · obtain ⟨p1, p2⟩ := pcr_low 5 s (by omega) (by omega)
      rw [← pc_pcr, ← pc_pcr] at p1
      rw [q_231_67]
      simp (disch := omega) only [iv_L, iv_eq, if_neg, iv_add, iv_sub, iv_and]
      rw [show ((s : Int) - 1).toNat = s - 1 by omega, Int.toNat_natCast, show ((v : Int) + 1) = ((v + 1 : Nat) : Int) by omega, ih (v + 1) _ (by omega) (by omega)]
      congr 5
      omega
theorem m231 (h : AR c l K F row tp n fa fp rf sd oc) (hv : VS K F row tp n fa fp sd oc) {z : Int} (hz : -2147483648 ≤ z ∧ z < 2147483648) (d : Nat) : ∃ c2 : Nat → Nat → Nat → Int32, E (d + 8) 231 [vr 48 0, vi (iv z)] (c, l, x, y) = some (some (vi (iv (allS K F (wds row) z))), c2, l, x, y) ∧ Sx c c2 := by
  have h7 := row7 hv
  have h20 := hv.1.1.1
  have hnow := rul_lt K F (wds row)
  have inner : ∀ (p : Nat), p ≤ row.length → ∀ (m w : Nat) (a : Nat × Nat × Nat) (b : Bool) (c : Nat → Nat → Nat → Int32), w + m = nW K → a.1 ≤ 20 * p + w → a.2.1 ≤ 8 → a.2.2 < 1048576 → AR c l K F row tp n fa fp rf sd oc → ∃ (c2 : Nat → Nat → Nat → Int32), X (d + 8) 231 27 [some (vr 48 0), some (vi (iv z)), some (vi (iv (rul K F (wds row)))), some (vi (iv a.1)), some (vi (iv a.2.1)), some (vi (iv a.2.2)), some (vi (iv (p : Nat))), some (vi (iv (if b then 1 else 0))), some (vi (iv (w : Nat)))] [] (c, l, x, y) = X (d + 8) 231 19 [some (vr 48 0), some (vi (iv z)), some (vi (iv (rul K F (wds row)))), some (vi (iv ((List.range' w m).foldl (allW K F (wds row) p) a).1)), some (vi (iv ((a.2.1 + (if b ∨ a.1 < ((List.range' w m).foldl (allW K F (wds row) p) a).1 then 1 else 0) : Nat) : Int))), some (vi (iv ((List.range' w m).foldl (allW K F (wds row) p) a).2.2)), some (vi (iv ((p + 1 : Nat) : Int))), none, none] [] (c2, l, x, y) ∧ Sx c c2 := by
    intro p hp m
    induction m with
    | zero =>
      intro w a b c hw ha ha2 ha3 h
      refine ⟨c, ?_, Sx.rf c⟩
      rw [q_231_27, q_183, h.1.1.1.1]
      simp (disch := omega) only [am_bi_v, iv_lt, if_neg, iv_L, iv_add]
      rw [show ((p : Int) + 1) = ((p + 1 : Nat) : Int) by omega]
      show _ = X (d + 8) 231 19 [some (vr 48 0), some (vi (iv z)), some (vi (iv (rul K F (wds row)))), some (vi (iv a.1)), some (vi (iv ((a.2.1 + (if b ∨ a.1 < a.1 then 1 else 0) : Nat) : Int))), some (vi (iv a.2.2)), some (vi (iv ((p + 1 : Nat) : Int))), none, none] [] (c, l, x, y)
      cases b with
      | true => rw [if_neg (by decide), if_pos (Or.inl rfl), show ((a.2.1 : Int) + 1) = ((a.2.1 + 1 : Nat) : Int) by omega]
      | false => rw [if_pos (by decide), if_neg (by simp)]; rfl
    | succ m ih =>
      intro w a b c hw ha ha2 ha3 h
      have hw2 : w < nW K := by omega
      obtain ⟨c1, a1, a2⟩ := e232 (x := x) (y := y) h hv hp hw2 d
      rw [q_231_27, q_183, h.1.1.1.1]
      simp (disch := omega) only [am_bi_v, iv_lt, if_pos, a1, iv_L, iv_add]
      rw [show ((w : Int) + 1) = ((w + 1 : Nat) : Int) by omega, List.range'_succ, List.foldl_cons]
      have h1 := AR_Sy (Sx_Sy a2) h
      by_cases e : undB K F (wds row) p w = true
      · have hs : allW K F (wds row) p a w = (a.1 + 1, a.2.1, a.2.2 ||| 2 ^ w) := by unfold allW; rw [if_pos e]
        obtain ⟨c2, b1, b2⟩ := ih (w + 1) (a.1 + 1, a.2.1, a.2.2 ||| 2 ^ w) true c1 (by omega) (by show a.1 + 1 ≤ _; omega) ha2 (Nat.or_lt_two_pow (n := 20) ha3 (Nat.pow_lt_pow_right (by decide) (by omega))) h1
        have hmono := allW_bd K F (wds row) p (List.range' (w + 1) m) (a.1 + 1, a.2.1, a.2.2 ||| 2 ^ w) (fun v q => by have := List.mem_range'_1.mp q; omega) (Nat.or_lt_two_pow (n := 20) ha3 (Nat.pow_lt_pow_right (by decide) (by omega)))
        refine ⟨c2, ?_, a2.tr b2⟩
        rw [if_neg (by rw [if_pos e]; decide), hs, show ((a.1 : Int) + 1) = ((a.1 + 1 : Nat) : Int) by omega]
        simp only [iv_L2]
        rw [or_pow _ _ ha3 (by omega)]
        refine b1.trans ?_
        rw [if_pos (Or.inl rfl), if_pos (Or.inr (by have := hmono.2.1; simp only at this; omega))]
      · have hs : allW K F (wds row) p a w = a := by unfold allW; rw [if_neg e]
        obtain ⟨c2, b1, b2⟩ := ih (w + 1) a b c1 (by omega) (by omega) ha2 ha3 h1
        refine ⟨c2, ?_, a2.tr b2⟩
        rw [if_pos (by rw [if_neg e]), hs]
        exact b1
  have outer : ∀ (m p : Nat) (a : Nat × Nat × Nat) (c : Nat → Nat → Nat → Int32), p + m = row.length + 1 → a.1 ≤ 20 * p → a.2.1 ≤ p → a.2.2 < 1048576 → AR c l K F row tp n fa fp rf sd oc → ∃ c2 : Nat → Nat → Nat → Int32, X (d + 8) 231 19 [some (vr 48 0), some (vi (iv z)), some (vi (iv (rul K F (wds row)))), some (vi (iv a.1)), some (vi (iv a.2.1)), some (vi (iv a.2.2)), some (vi (iv (p : Nat))), none, none] [] (c, l, x, y) = some (some (vi (iv (if z < 2 then (if z = 0 then (((List.range' p m).foldl (allP K F (wds row)) a).1 : Int) else (((List.range' p m).foldl (allP K F (wds row)) a).2.1 : Int)) else (pc ((List.range' p m).foldl (allP K F (wds row)) a).2.2 : Int)))), c2, l, x, y) ∧ Sx c c2 := by
    intro m
    induction m with
    | zero =>
      intro p a c hp ha1 ha2 ha3 h
      refine ⟨c, ?_, Sx.rf c⟩
      have e67 := m231_67 (c := c) (l := l) (x := x) (y := y) (d + 7) a.2.2 0 a.2.2 ha3 (Nat.le_refl _)
      rw [q_231_19, h.2.1.1]
      simp (disch := omega) only [iv_lt, if_pos, iv_L, iv_eq]
      show _ = some (some (vi (iv (if z < 2 then (if z = 0 then (a.1 : Int) else (a.2.1 : Int)) else (pc a.2.2 : Int)))), c, l, x, y)
      by_cases z2 : z < 2
      · rw [if_pos z2, if_pos z2]
        by_cases z0 : z = 0
        · rw [if_pos z0, if_pos z0]
        · rw [if_neg z0, if_neg z0]
      · rw [if_neg z2, if_neg z2]
        refine e67.trans ?_
        rw [Nat.zero_add]
    | succ m ih =>
      intro p a c hp ha1 ha2 ha3 h
      have hb := allW_bd K F (wds row) p (List.range (nW K)) a (fun w q => by have := List.mem_range.mp q; omega) ha3
      rw [List.length_range] at hb
      obtain ⟨c1, a1, a2⟩ := inner p (by omega) (nW K) 0 a false c (by omega) (by omega) (by omega) ha3 h
      rw [← List.range_eq_range'] at a1
      have hif : (if a.1 < ((List.range (nW K)).foldl (allW K F (wds row) p) a).1 then 1 else 0) ≤ 1 := by split <;> omega
      obtain ⟨c2, b1, b2⟩ := ih (p + 1) (allP K F (wds row) a p) c1 (by omega) (by unfold allP; dsimp only; omega) (by unfold allP; dsimp only; omega) (by unfold allP; exact hb.2.2.2) (AR_Sy (Sx_Sy a2) h)
      refine ⟨c2, ?_, a2.tr b2⟩
      rw [q_231_19, h.2.1.1]
      simp (disch := omega) only [iv_lt, if_neg]
      rw [show some (vi 0) = some (vi (iv (if (false : Bool) then 1 else 0))) from rfl]
      refine Eq.trans (a1.trans ?_) (b1.trans ?_)
      · unfold allP
        simp only [Bool.false_eq_true, false_or]
      · rw [List.range'_succ, List.foldl_cons]
  rw [q_231]
  simp (disch := omega) only [iv_L, iv_neg, jv_of, jv_L, jv_neg, jv_add, jv_sub, e171, am_bi_v]
  unfold allS
  by_cases e : 0 ≤ z ∧ z ≤ 2
  · obtain ⟨c1, a1, a2⟩ := e214 (x := x) (y := y) h hv d
    obtain ⟨c2, b1, b2⟩ := outer (row.length + 1) 0 (0, 0, 0) c1 (by omega) (Nat.le_refl _) (Nat.le_refl _) (by decide) (AR_Sy (Sx_Sy a2) h)
    refine ⟨c2, ?_, a2.tr b2⟩
    rw [if_pos e, if_neg (by decide), if_pos e, a1]
    simp only [am_bi_v]
    refine Eq.trans b1 ?_
    rw [← List.range_eq_range', ← wds_len row]
    show some (some (vi (iv (if z < 2 then (if z = 0 then ((allA K F (wds row)).1 : Int) else ((allA K F (wds row)).2.1 : Int)) else (pc (allA K F (wds row)).2.2 : Int)))), c2, l, x, y) = _
    by_cases z0 : z = 0
    · rw [if_pos (by omega), if_pos z0, if_pos z0]
    · by_cases z1 : z = 1
      · rw [if_pos (by omega), if_neg z0, if_neg z0, if_pos z1]
      · rw [if_neg (by omega), if_neg z0, if_neg z1]
  · refine ⟨c, ?_, Sx.rf c⟩
    rw [if_neg e, if_pos (by decide), if_neg e]
theorem m233 (h : AR c l K F row tp n fa fp rf sd oc) (hv : VS K F row tp n fa fp sd oc) {k : Int} (hk : -2147483648 ≤ k ∧ k < 2147483648) (d : Nat) : ∃ c2 : Nat → Nat → Nat → Int32, E (d + 8) 233 [vr 48 0, vi (iv k)] (c, l, x, y) = some (some (vi (iv (oneS K F (wds row) k))), c2, l, x, y) ∧ Sx c c2 := by
  have h7 := row7 hv
  have h20 := hv.1.1.1
  have inner : ∀ (p : Nat), p ≤ row.length → ∀ (m w s : Nat) (c : Nat → Nat → Nat → Int32), w + m = nW K → s ≤ 20 * p + w → AR c l K F row tp n fa fp rf sd oc → ∃ c2 : Nat → Nat → Nat → Int32, X (d + 8) 233 13 [some (vr 48 0), some (vi (iv k)), some (vi (iv (rul K F (wds row)))), some (vi (iv (s : Nat))), some (vi (iv (p : Nat))), some (vi (iv (w : Nat)))] [] (c, l, x, y) = (if (s : Int) ≤ k ∧ k < s + (undL K F (wds row) p (List.range' w m)).length then some (some (vi (iv ((undL K F (wds row) p (List.range' w m)).getD (k - s).toNat 0 : Nat))), c2, l, x, y) else X (d + 8) 233 7 [some (vr 48 0), some (vi (iv k)), some (vi (iv (rul K F (wds row)))), some (vi (iv ((s + (undL K F (wds row) p (List.range' w m)).length : Nat) : Int))), some (vi (iv ((p + 1 : Nat) : Int))), none] [] (c2, l, x, y)) ∧ Sx c c2 := by
    intro p hp m
    induction m with
    | zero =>
      intro w s c hw hs h
      refine ⟨c, ?_, Sx.rf c⟩
      rw [q_233_13, q_183, h.1.1.1.1]
      simp (disch := omega) only [am_bi_v, iv_lt, if_neg, iv_L, iv_add]
      rw [show undL K F (wds row) p (List.range' w 0) = [] from rfl, if_neg (show ¬ ((s : Int) ≤ k ∧ k < s + (([] : List Nat).length : Nat)) by simp only [List.length_nil]; omega), show ((p : Int) + 1) = ((p + 1 : Nat) : Int) by omega]
      rfl
    | succ m ih =>
      intro w s c hw hs h
      have hw2 : w < nW K := by omega
      obtain ⟨c1, a1, a2⟩ := e232 (x := x) (y := y) h hv hp hw2 d
      have h1 := AR_Sy (Sx_Sy a2) h
      rw [q_233_13, q_183, h.1.1.1.1]
      simp (disch := omega) only [am_bi_v, iv_lt, if_pos, a1, iv_L, iv_L2, iv_add, iv_mul, iv_eq]
      rw [show ((w : Int) + 1) = ((w + 1 : Nat) : Int) by omega, List.range'_succ]
      by_cases e : undB K F (wds row) p w = true
      · have hu : undL K F (wds row) p (w :: List.range' (w + 1) m) = (100 * p + w) :: undL K F (wds row) p (List.range' (w + 1) m) := by
          unfold undL
          rw [List.filter_cons_of_pos e, List.map_cons]
        rw [if_neg (by rw [if_pos e]; decide), hu, List.length_cons]
        by_cases e2 : (s : Int) = k
        · refine ⟨c1, ?_, a2⟩
          rw [if_pos e2, if_pos (by omega), show (k - s).toNat = 0 by omega]
          rfl
        · obtain ⟨c2, b1, b2⟩ := ih (w + 1) (s + 1) c1 (by omega) (by omega) h1
          refine ⟨c2, ?_, a2.tr b2⟩
          generalize hL : undL K F (wds row) p (List.range' (w + 1) m) = L at b1 ⊢
          rw [if_neg e2, show ((s : Int) + 1) = ((s + 1 : Nat) : Int) by omega, b1]
          by_cases e3 : ((s + 1 : Nat) : Int) ≤ k ∧ k < ((s + 1 : Nat) : Int) + L.length
          · rw [if_pos e3, if_pos (by omega), show (k - s).toNat = (k - ((s + 1 : Nat) : Int)).toNat + 1 by omega]
            rfl
          · rw [if_neg e3, if_neg (by omega), show s + 1 + L.length = s + (L.length + 1) by omega]
      · have hu : undL K F (wds row) p (w :: List.range' (w + 1) m) = undL K F (wds row) p (List.range' (w + 1) m) := by
          unfold undL
          rw [List.filter_cons_of_neg e]
        obtain ⟨c2, b1, b2⟩ := ih (w + 1) s c1 (by omega) (by omega) h1
        refine ⟨c2, ?_, a2.tr b2⟩
        rw [if_pos (by rw [if_neg e]), hu]
        exact b1
  have undlen : ∀ p, (undL K F (wds row) p (List.range (nW K))).length ≤ nW K := by
    intro p
    unfold undL
    rw [List.length_map]
    have := List.length_filter_le (undB K F (wds row) p) (List.range (nW K))
    rw [List.length_range] at this
    exact this
  have outer : ∀ (m p s : Nat) (c : Nat → Nat → Nat → Int32), p + m = row.length + 1 → s ≤ 20 * p → AR c l K F row tp n fa fp rf sd oc → ∃ c2 : Nat → Nat → Nat → Int32, X (d + 8) 233 7 [some (vr 48 0), some (vi (iv k)), some (vi (iv (rul K F (wds row)))), some (vi (iv (s : Nat))), some (vi (iv (p : Nat))), none] [] (c, l, x, y) = some (some (vi (iv (pickF (oneL K F (wds row) (List.range' p m)) k s))), c2, l, x, y) ∧ Sx c c2 := by
    intro m
    induction m with
    | zero =>
      intro p s c hp hs h
      refine ⟨c, ?_, Sx.rf c⟩
      rw [q_233_7, h.2.1.1]
      simp (disch := omega) only [iv_lt, if_pos]
      rw [show oneL K F (wds row) (List.range' p 0) = [] from rfl, pickF_nil]
      rfl
    | succ m ih =>
      intro p s c hp hs h
      have hul := undlen p
      obtain ⟨c1, a1, a2⟩ := inner p (by omega) (nW K) 0 s c (by omega) (by omega) h
      rw [← List.range_eq_range'] at a1
      obtain ⟨c2, b1, b2⟩ := ih (p + 1) (s + (undL K F (wds row) p (List.range (nW K))).length) c1 (by omega) (by omega) (AR_Sy (Sx_Sy a2) h)
      have hone : oneL K F (wds row) (p :: List.range' (p + 1) m) = undL K F (wds row) p (List.range (nW K)) ++ oneL K F (wds row) (List.range' (p + 1) m) := List.flatMap_cons ..
      have hstep : X (d + 8) 233 7 [some (vr 48 0), some (vi (iv k)), some (vi (iv (rul K F (wds row)))), some (vi (iv (s : Nat))), some (vi (iv (p : Nat))), none] [] (c, l, x, y) = (if (s : Int) ≤ k ∧ k < s + (undL K F (wds row) p (List.range (nW K))).length then some (some (vi (iv ((undL K F (wds row) p (List.range (nW K))).getD (k - s).toNat 0 : Nat))), c1, l, x, y) else X (d + 8) 233 7 [some (vr 48 0), some (vi (iv k)), some (vi (iv (rul K F (wds row)))), some (vi (iv ((s + (undL K F (wds row) p (List.range (nW K))).length : Nat) : Int))), some (vi (iv ((p + 1 : Nat) : Int))), none] [] (c1, l, x, y)) := by
        refine Eq.trans ?_ a1
        rw [q_233_7, h.2.1.1]
        simp (disch := omega) only [iv_lt, if_neg]
        rfl
      rw [hstep, List.range'_succ, hone, pickF_app]
      by_cases e : (s : Int) ≤ k ∧ k < s + (undL K F (wds row) p (List.range (nW K))).length
      · refine ⟨c1, ?_, a2⟩
        rw [if_pos e, if_pos e]
      · refine ⟨c2, ?_, a2.tr b2⟩
        rw [if_neg e, if_neg e, b1]
        rfl
  obtain ⟨c1, a1, a2⟩ := e214 (x := x) (y := y) h hv d
  obtain ⟨c2, b1, b2⟩ := outer (row.length + 1) 0 0 c1 (by omega) (Nat.le_refl _) (AR_Sy (Sx_Sy a2) h)
  refine ⟨c2, ?_, a2.tr b2⟩
  rw [q_233, a1]
  simp only [am_bi_v]
  refine Eq.trans b1 ?_
  rw [← List.range_eq_range', ← wds_len row]
  unfold oneS pick pickF
  by_cases e : (0 : Int) ≤ k
  · rw [if_pos e, if_pos (show ((0 : Nat) : Int) ≤ k from e)]
    rw [show k - ((0 : Nat) : Int) = k by omega]
  · rw [if_neg e, if_neg (show ¬ ((0 : Nat) : Int) ≤ k from e)]
/-- lines in force change -/
theorem RR_F (h : RR c l K F) {G : Nat} (hG : G < 64) : RR (am_ui c 48 0 39 (iv G)) l K G := by
  obtain ⟨h1, h2, h3, h4⟩ := h
  refine ⟨?_, h2, hG, ui_self _ _ _ _⟩
  unfold RS at h1 ⊢
  rw [ui_nk _ _ _ _ (show (68 : Nat) ≠ 48 by decide), ui_nk _ _ _ _ (show (70 : Nat) ≠ 48 by decide), ui_nk _ _ _ _ (show (72 : Nat) ≠ 48 by decide), ui_nk _ _ _ _ (show (73 : Nat) ≠ 48 by decide), ui_nk _ _ _ _ (show (74 : Nat) ≠ 48 by decide), ui_nk _ _ _ _ (show (75 : Nat) ≠ 48 by decide), ui_nk _ _ _ _ (show (76 : Nat) ≠ 48 by decide), ui_ne _ _ _ _ (show (48 : Nat) ≠ 48 ∨ (0 : Nat) ≠ 0 ∨ (38 : Nat) ≠ 39 by omega)]
  exact h1
theorem toggle_twice (a i : Nat) : a ^^^ 2 ^ i ^^^ 2 ^ i = a := by rw [Nat.xor_assoc, Nat.xor_self, Nat.xor_zero]
theorem m242 (h : AR c l K F row tp n fa fp rf sd oc) (hv : VS K F row tp n fa fp sd oc) {z : Int} (hz : -2147483648 ≤ z ∧ z < 2147483648) (d : Nat) : ∃ c2 : Nat → Nat → Nat → Int32, E (d + 8) 242 [vr 48 0, vi (iv z)] (c, l, x, y) = some (some (vi (iv (turS K F z))), c2, l, x, y) ∧ Sx c c2 := by
  have h8 := hv.1.2.2.2.2.1.1
  have h6 := hv.1.2.1.1
  have hF := F64 hv
  rw [q_242, q_177, h.1.1.2.1.1]
  simp (disch := omega) only [am_bi_v, iv_L, iv_L2, iv_sub, jv_of, jv_L, jv_neg, jv_add, jv_sub, e171, h.1.2.2.2, iv_neg]
  unfold turS
  by_cases e : 0 ≤ z ∧ z < nL K
  · rw [if_pos (show 0 ≤ z ∧ z ≤ (nL K : Int) - 1 by omega), if_neg (by decide), if_pos e]
    obtain ⟨i, rfl⟩ := Int.eq_ofNat_of_zero_le e.1
    have hi : i < nL K := by omega
    have hG : F ^^^ 2 ^ i < 64 := toggle_lt (m := 6) hF (by omega)
    have hp6 : 2 ^ i ≤ 2 ^ 6 := Nat.pow_le_pow_right (by decide) (by omega)
    have hp7 : ((2 ^ i : Nat) : Int) ≤ 64 := Int.ofNat_le.mpr hp6
    have hsh : iv 1 <<< (iv (i : Int) &&& iv 31) = iv ((2 ^ i : Nat) : Int) := shl1 i (by omega)
    rw [iv_m31 (by omega), show ((i : Int) % 32) = i by omega, iv_bit (by omega) (by omega), Int.toNat_natCast, Int.toNat_natCast]
    by_cases ht : F.testBit i = true
    · have key : ∀ (m j v : Nat) (c : Nat → Nat → Nat → Int32), j + m = nC K → v ≤ j → RR c l K F → ∃ c2 : Nat → Nat → Nat → Int32, X (d + 8) 242 25 [some (vr 48 0), some (vi (iv i)), some (vi (iv (v : Nat))), some (vi (iv (j : Nat))), none] [] (c, l, x, y) = some (some (vi (iv ((v + (List.range' j m).countP (fun j => rul K (F ^^^ 2 ^ i) (csK K j) != rul K F (csK K j)) : Nat) : Int))), c2, l, x, y) ∧ Sx c c2 := by
        intro m
        induction m with
        | zero =>
          intro j v c hj hv2 h
          refine ⟨c, ?_, Sx.rf c⟩
          rw [q_242_25, q_218, h.1.2.2.2.2.1.1]
          simp (disch := omega) only [am_bi_v, iv_lt, if_neg]
          rfl
        | succ m ih =>
          intro j v c hj hv2 h
          have hjc : j < nC K := by omega
          have r1 := rul_lt K (F ^^^ 2 ^ i) (csK K j)
          have r2 := rul_lt K F (csK K j)
          obtain ⟨c1, a1, a2⟩ := e219 (x := x) (y := y) h hjc d
          have hR1 := Sx_RR a2 h
          have hR2 := RR_F hR1 hG
          obtain ⟨c2, b1, b2⟩ := e219 (x := x) (y := y) hR2 hjc d
          have hR3 := Sx_RR b2 hR2
          have hS : Sx c (am_ui c2 48 0 39 (iv F)) := by
            constructor
            · intro k k1 k2
              rw [ui_nk _ _ _ _ k1, b2.1 k k1 k2, ui_nk _ _ _ _ k1, a2.1 k k1 k2]
            · intro q s s1 s2 s3 s4
              by_cases e : s = 39 ∧ q = 0
              · obtain ⟨rfl, rfl⟩ := e
                rw [ui_self]; exact h.2.2.2.symm
              · rw [ui_ne _ _ _ _ (by omega), b2.2 q s s1 s2 s3 s4, ui_ne _ _ _ _ (by omega), a2.2 q s s1 s2 s3 s4]
          have hR4 := Sx_RR hS h
          rw [q_242_25, q_218, h.1.2.2.2.2.1.1]
          simp (disch := omega) only [am_bi_v, iv_lt, if_pos, a1, hR1.2.2.2, iv_L, iv_L2, hsh]
          rw [iv_xor (by omega) ⟨Int.natCast_nonneg _, Int.lt_of_le_of_lt hp7 (by decide)⟩, Int.toNat_natCast, Int.toNat_natCast, b1]
          simp (disch := omega) only [am_bi_v, iv_eq, hR3.2.2.2, iv_add]
          rw [iv_xor (by omega) ⟨Int.natCast_nonneg _, Int.lt_of_le_of_lt hp7 (by decide)⟩, Int.toNat_natCast, Int.toNat_natCast, toggle_twice, List.range'_succ, List.countP_cons, show ((j : Int) + 1) = ((j + 1 : Nat) : Int) by omega]
          by_cases e : rul K (F ^^^ 2 ^ i) (csK K j) = rul K F (csK K j)
          · obtain ⟨c3, d1, d2⟩ := ih (j + 1) v _ (by omega) (by omega) hR4
            refine ⟨c3, ?_, hS.tr d2⟩
            rw [if_pos (by omega), if_neg (by simpa using e), d1]
            rfl
          · obtain ⟨c3, d1, d2⟩ := ih (j + 1) (v + 1) _ (by omega) (by omega) hR4
            refine ⟨c3, ?_, hS.tr d2⟩
            rw [if_neg (by omega), if_pos (by simpa using e), show ((v : Int) + 1) = ((v + 1 : Nat) : Int) by omega, d1]
            congr 5
            omega
      obtain ⟨c2, b1, b2⟩ := key (nC K) 0 0 c (by omega) (Nat.le_refl _) h.1
      refine ⟨c2, ?_, b2⟩
      rw [if_neg (by rw [if_pos ht]; decide), if_pos ht]
      rw [Nat.zero_add, ← List.range_eq_range'] at b1
      exact b1
    · refine ⟨c, ?_, Sx.rf c⟩
      rw [if_pos (by rw [if_neg ht]), if_neg ht]
  · refine ⟨c, ?_, Sx.rf c⟩
    rw [if_neg (show ¬ (0 ≤ z ∧ z ≤ (nL K : Int) - 1) by omega), if_pos (by decide), if_neg e]
end
