/-! the class: a line of witnesses -/
/-- what the witnesses in a line rule, each with the first word that he can say -/
def fstW (K : Ct) (L : List Nat) : List Nat := L.map (fun b => (sayK K b).getD 0 0)
def ordS (K : Ct) (F : Nat) (o p : Int) : Int := if (0 ≤ o ∧ o ≤ 2) ∧ -1 ≤ p ∧ p < nB K then (if p = -1 then (rul K F (fstW K (ordK K o)) : Int) else ((ordK K o).getD p.toNat 0 : Nat)) else -1
section
variable {c : Nat → Nat → Nat → Int32} {l : Nat → Nat → Int64} {x y : Nat} {K : Ct} {F : Nat} {row : List (Nat × Nat)} {tp : Nat → Nat} {n : Nat} {fa fp : Int} {rf : Nat → Int32} {sd : Int} {oc : List Nat}
theorem fst_lt (hK : VK K) {L : List Nat} (hL : ∀ b ∈ L, b < nB K) : ∀ w ∈ fstW K L, w < nW K := by
  intro w hw
  obtain ⟨b, hb, rfl⟩ := List.mem_map.mp hw
  have hv := hK.2.2.2.1.2 b (hL b hb)
  exact hv.2.2.2.2.2.2 _ (getD_mem (by omega))
theorem e86 (h : JR c x K F) {a b : Nat} (ha : a < nB K) (hb : b < a) {o : Int} (ho : 0 ≤ o ∧ o ≤ 2) (d : Nat) : E (d + 1) 86 [vr 34 0, vi (iv o), vi (iv a), vi (iv b)] (c, l, x, y) = some (some (vi (iv (if bef K o a b = true then 1 else 0))), c, l, x, y) := by
  have hn := h.2.1.2.2.2.1.1
  have h1 := (h.1.2.2.2.1.2 a ha).2.2.1
  have h2 := (h.1.2.2.2.1.2 b (by omega)).2.2.1
  have v1 := (h.2.1.2.2.2.1.2 a ha).2.1
  have v2 := (h.2.1.2.2.2.1.2 b (by omega)).2.1
  rw [q_86, iv_nat (by omega), iv_nat (by omega), Int.toNat_natCast, Int.toNat_natCast, h1, h2]
  simp (disch := omega) only [iv_add, iv_sub, iv_mul, iv_neg, iv_lt, iv_le, iv_eq, iv_nat, iv_L, iv_L2, am_bi_v, am_bv_v, am_bl_v, if_pos, if_neg, Int.toNat_natCast, Int.toNat_add, Int.toNat_mul, Int.reduceToNat]
  have hq := bef_iff (K := K) (o := o) a b
  unfold ageK at hq
  simp only [hq]
  by_cases e1 : o = 1
  · rw [if_pos e1]
    by_cases e : 0 < (((bnK K a).2.1 : Nat) : Int) - ((bnK K b).2.1 : Nat)
    · rw [if_pos e, if_pos (by omega)]
    · rw [if_neg e, if_neg (by omega)]
  · rw [if_neg e1]
    by_cases e2 : o = 2
    · rw [if_pos e2]
      by_cases e : (((bnK K a).2.1 : Nat) : Int) - ((bnK K b).2.1 : Nat) < 0
      · rw [if_pos e, if_pos (by omega)]
      · rw [if_neg e, if_neg (by omega)]
    · rw [if_neg e2, if_neg (by omega)]
theorem RowAt_ui {kd ki : Nat} {ws : List Nat} {k : Nat} {v : Nat} (h : ∀ j, j < ws.length → j ≠ k → c kd ki j = iv (ws.getD j 0 : Nat)) (hv : k < ws.length → ws.getD k 0 = v) : RowAt (am_ui c kd ki k (iv v)) kd ki ws := by
  intro j hj
  by_cases e : j = k
  · subst e; rw [ui_self, hv hj]
  · rw [ui_ne _ _ _ _ (by omega)]; exact h j hj e
theorem getD_mid {A B : List Nat} {v j : Nat} : (A ++ v :: B).getD j 0 = if j < A.length then A.getD j 0 else if j = A.length then v else B.getD (j - A.length - 1) 0 := by
  rw [List.getD_eq_getElem?_getD]
  by_cases e : j < A.length
  · rw [if_pos e, List.getElem?_append_left e, ← List.getD_eq_getElem?_getD]
  · rw [if_neg e, List.getElem?_append_right (by omega)]
    by_cases e2 : j = A.length
    · rw [if_pos e2, e2, Nat.sub_self]; rfl
    · rw [if_neg e2, show j - A.length = (j - A.length - 1) + 1 by omega, List.getElem?_cons_succ, ← List.getD_eq_getElem?_getD]
      rfl
theorem getD_take {L : List Nat} {p j : Nat} (h : j < p) : (L.take p).getD j 0 = L.getD j 0 := by
  rw [List.getD_eq_getElem?_getD, List.getD_eq_getElem?_getD, List.getElem?_take_of_lt h]
theorem getD_drop (L : List Nat) (p j : Nat) : (L.drop p).getD j 0 = L.getD (p + j) 0 := by
  rw [List.getD_eq_getElem?_getD, List.getD_eq_getElem?_getD, List.getElem?_drop]
/-- only the line of witnesses changes -/
def SE (c c2 : Nat → Nat → Nat → Int32) : Prop := ∀ k, k ≠ 35 → c2 k = c k
theorem SE_ui (k j : Nat) (v : Int32) : SE c (am_ui c 35 k j v) := fun q hq => ui_nk _ _ _ _ hq
theorem SE.tr {c1 c2 c3 : Nat → Nat → Nat → Int32} (h : SE c1 c2) (g : SE c2 c3) : SE c1 c3 := fun k hk => (g k hk).trans (h k hk)
theorem SE_JR {c2 : Nat → Nat → Nat → Int32} (h : SE c c2) (g : JR c x K F) : JR c2 x K F := JR_fr g (fun k _ _ => h k (by omega))
theorem e85 (h : JR c x K F) {o : Int} (ho : 0 ≤ o ∧ o ≤ 2) (d : Nat) : ∃ c2 : Nat → Nat → Nat → Int32, E (d + 2) 85 [vr 34 0, vi (iv o)] (c, l, x, y) = some (none, c2, l, x, y) ∧ SE c c2 ∧ RowAt c2 35 0 (ordK K o) := by
  have hn := h.2.1.2.2.2.1.1
  have inner : ∀ (p m : Nat) (L : List Nat) (c : Nat → Nat → Nat → Int32), JR c x K F → m < nB K → Ln K o m L → p ≤ m → (∀ u ∈ L.drop p, bef K o m u = true) → (∀ j, j < p → c 35 0 j = iv (L.getD j 0 : Nat)) → (∀ j, p ≤ j → j < m → c 35 0 (j + 1) = iv (L.getD j 0 : Nat)) → ∃ (c2 : Nat → Nat → Nat → Int32) (L2 : List Nat), X (d + 2) 85 10 [some (vr 34 0), some (vi (iv o)), some (vi (iv (m : Nat))), some (vi (iv (p : Nat)))] [] (c, l, x, y) = X (d + 2) 85 2 [some (vr 34 0), some (vi (iv o)), some (vi (iv ((m + 1 : Nat) : Int))), none] [] (c2, l, x, y) ∧ SE c c2 ∧ Ln K o (m + 1) L2 ∧ RowAt c2 35 0 L2 := by
    intro p
    have fin : ∀ (p m : Nat) (L : List Nat) (c : Nat → Nat → Nat → Int32), JR c x K F → m < nB K → Ln K o m L → p ≤ m → (∀ j, j < p → c 35 0 j = iv (L.getD j 0 : Nat)) → (∀ j, p ≤ j → j < m → c 35 0 (j + 1) = iv (L.getD j 0 : Nat)) → RowAt (am_ui c 35 0 p (iv m)) 35 0 (L.take p ++ m :: L.drop p) := by
      intro p m L c hJ hm hL hp h1 h2
      have hl := Ln_len hL
      refine RowAt_ui ?_ ?_
      · intro j hj hne
        rw [List.length_append, List.length_cons, List.length_take, List.length_drop] at hj
        rw [getD_mid, List.length_take, Nat.min_eq_left (by omega)]
        by_cases e : j < p
        · rw [if_pos e, getD_take e]; exact h1 j e
        · rw [if_neg e, if_neg hne, getD_drop, show p + (j - p - 1) = j - 1 by omega]
          have := h2 (j - 1) (by omega) (by omega)
          rw [show j - 1 + 1 = j by omega] at this
          exact this
      · intro _
        rw [getD_mid, List.length_take, Nat.min_eq_left (by omega), if_neg (Nat.lt_irrefl p), if_pos rfl]
    induction p with
    | zero =>
      intro m L c hJ hm hL hp hb h1 h2
      refine ⟨_, _, ?_, SE_ui 0 0 (iv m), Ln_ins hL hp hb (Or.inl rfl), fin 0 m L c hJ hm hL hp h1 h2⟩
      rw [q_85_10]
      simp (disch := omega) only [iv_add, iv_sub, iv_mul, iv_neg, iv_lt, iv_le, iv_eq, iv_nat, iv_L, iv_L2, am_bi_v, am_bv_v, am_bl_v, if_pos, if_neg, Int.toNat_natCast, Int.toNat_add, Int.toNat_mul, Int.reduceToNat]
      rfl
    | succ p ih =>
      intro m L c hJ hm hL hp hb h1 h2
      have hl := Ln_len hL
      have hlt : L.getD p 0 < m := List.mem_range.mp (hL.1.mem_iff.mp (getD_mem (by omega)))
      rw [q_85_10]
      simp (disch := omega) only [iv_add, iv_sub, iv_mul, iv_neg, iv_lt, iv_le, iv_eq, iv_nat, iv_L, iv_L2, am_bi_v, am_bv_v, am_bl_v, if_pos, if_neg, Int.toNat_natCast, Int.toNat_add, Int.toNat_mul, Int.reduceToNat]
      rw [show ((((p + 1 : Nat) : Int) - 1).toNat) = p by omega, h1 p (by omega), e86 hJ hm hlt ho]
      simp (disch := omega) only [iv_add, iv_sub, iv_mul, iv_neg, iv_lt, iv_le, iv_eq, iv_nat, iv_L, iv_L2, am_bi_v, am_bv_v, am_bl_v, if_pos, if_neg, Int.toNat_natCast, Int.toNat_add, Int.toNat_mul, Int.reduceToNat]
      cases e : bef K o m (L.getD p 0) with
      | false =>
        refine ⟨_, _, ?_, SE_ui 0 (p + 1) (iv m), Ln_ins hL hp hb (Or.inr e), fin (p + 1) m L c hJ hm hL hp h1 h2⟩
        rw [if_pos (by simp)]
        rfl
      | true =>
        rw [if_neg (by simp)]
        obtain ⟨c2, L2, g1, g2, g3, g4⟩ := ih m L (am_ui c 35 0 (p + 1) (iv (L.getD p 0 : Nat))) (SE_JR (SE_ui _ _ _) hJ) hm hL (by omega) (by
          intro u hu
          rw [drop_getD (by omega)] at hu
          rcases List.mem_cons.mp hu with rfl | q
          · exact e
          · exact hb u q) (by
          intro j hj
          rw [ui_ne _ _ _ _ (by omega)]
          exact h1 j (by omega)) (by
          intro j hj hj2
          by_cases e2 : j = p
          · subst e2; rw [ui_self]
          · rw [ui_ne _ _ _ _ (by omega)]
            exact h2 j (by omega) hj2)
        refine ⟨c2, L2, ?_, (SE_ui _ _ _).tr g2, g3, g4⟩
        rw [show (((p + 1 : Nat) : Int) + -1) = (p : Int) by omega, h1 p (by omega)]
        exact g1
  have outer : ∀ (n m : Nat) (L : List Nat) (c : Nat → Nat → Nat → Int32), m + n = nB K → JR c x K F → Ln K o m L → RowAt c 35 0 L → ∃ c2 : Nat → Nat → Nat → Int32, X (d + 2) 85 2 [some (vr 34 0), some (vi (iv o)), some (vi (iv (m : Nat))), none] [] (c, l, x, y) = some (none, c2, l, x, y) ∧ SE c c2 ∧ RowAt c2 35 0 (ordK K o) := by
    intro n
    induction n with
    | zero =>
      intro m L c hm hJ hL hR
      refine ⟨c, ?_, fun _ _ => rfl, ?_⟩
      · rw [q_85_2]
        simp (disch := omega) only [iv_add, iv_sub, iv_mul, iv_neg, iv_lt, iv_le, iv_eq, iv_nat, iv_L, iv_L2, am_bi_v, am_bv_v, am_bl_v, if_pos, if_neg, Int.toNat_natCast, Int.toNat_add, Int.toNat_mul, Int.reduceToNat, hJ.1.2.2.2.1.1]
      · rw [show m = nB K by omega] at hL
        rw [← Ln_ord hL]; exact hR
    | succ n ih =>
      intro m L c hm hJ hL hR
      have hl := Ln_len hL
      obtain ⟨c2, L2, g1, g2, g3, g4⟩ := inner m m L c hJ (by omega) hL (Nat.le_refl _) (fun u hu => by rw [List.drop_of_length_le (by omega)] at hu; cases hu) (fun j hj => hR j (by omega)) (fun j h1 h2 => by omega)
      obtain ⟨c3, k1, k2, k3⟩ := ih (m + 1) L2 c2 (by omega) (SE_JR g2 hJ) g3 g4
      refine ⟨c3, ?_, g2.tr k2, k3⟩
      rw [q_85_2]
      simp (disch := omega) only [iv_add, iv_sub, iv_mul, iv_neg, iv_lt, iv_le, iv_eq, iv_nat, iv_L, iv_L2, am_bi_v, am_bv_v, am_bl_v, if_pos, if_neg, Int.toNat_natCast, Int.toNat_add, Int.toNat_mul, Int.reduceToNat, hJ.1.2.2.2.1.1]
      rw [g1, k1]
  rw [q_85]
  obtain ⟨c2, g1, g2, g3⟩ := outer (nB K) 0 [] c (by omega) h ⟨List.Perm.refl _, List.Pairwise.nil⟩ (fun k hk => absurd hk (Nat.not_lt_zero k))
  exact ⟨c2, g1, g2, g3⟩
theorem e87 (h : JR c x K F) {L : List Nat} (hL : RowAt c 35 0 L) (hl : L.length = nB K) (hb : ∀ b ∈ L, b < nB K) (d : Nat) : E (d + 5) 87 [vr 34 0] (c, l, x, y) = some (some (vi (iv (rul K F (fstW K L)))), c, l, x, y) := by
  have hn := h.2.1.2.2.2.1.1
  have hfl : (fstW K L).length = nB K := by unfold fstW; rw [List.length_map, hl]
  have hfw := fst_lt h.2.1 hb
  have key : ∀ (n i : Nat), i + n = nB K → X (d + 5) 87 4 [some (vr 34 0), some (vi (iv (encO K (hearA K F ((fstW K L).take i))))), some (vi (iv (i : Nat)))] [] (c, l, x, y) = some (some (vi (iv (rul K F (fstW K L)))), c, l, x, y) := by
    intro n
    induction n with
    | zero =>
      intro i hi
      rw [q_87_4]
      simp (disch := omega) only [iv_add, iv_sub, iv_mul, iv_neg, iv_lt, iv_le, iv_eq, iv_nat, iv_L, iv_L2, am_bi_v, am_bv_v, am_bl_v, if_pos, if_neg, Int.toNat_natCast, Int.toNat_add, Int.toNat_mul, Int.reduceToNat, h.1.2.2.2.1.1]
      rw [List.take_of_length_le (by omega), e50 h (WO_hearA h.2.1 _ hfw)]
      rfl
    | succ n ih =>
      intro i hi
      have hbi := hb _ (getD_mem (show i < L.length by omega))
      have hc := (h.1.2.2.2.1.2 _ hbi).2.2.2.2
      have hs := (h.2.1.2.2.2.1.2 _ hbi).2.2.2.1
      have hw := say_lt h.2.1 hbi _ (getD_mem (show 0 < (sayK K (L.getD i 0)).length by omega))
      rw [q_87_4]
      simp (disch := omega) only [iv_add, iv_sub, iv_mul, iv_neg, iv_lt, iv_le, iv_eq, iv_nat, iv_L, iv_L2, am_bi_v, am_bv_v, am_bl_v, if_pos, if_neg, Int.toNat_natCast, Int.toNat_add, Int.toNat_mul, Int.reduceToNat, h.1.2.2.2.1.1, hL i (show i < L.length by omega)]
      rw [hc 0 (by omega), e40 h (WO_hearA h.2.1 _ (fun w hw => hfw w (List.mem_of_mem_take hw))) hw]
      simp only [am_bi_v]
      rw [← hearA_snoc, show ((i : Int) + 1) = ((i + 1 : Nat) : Int) by omega]
      have e : (fstW K L).take i ++ [(sayK K (L.getD i 0)).getD 0 0] = (fstW K L).take (i + 1) := by
        rw [take_succ_getD (by omega)]
        congr 2
        unfold fstW
        rw [List.getD_eq_getElem?_getD (l := List.map _ _), List.getElem?_map, List.getD_eq_getElem?_getD (l := L), List.getElem?_eq_getElem (show i < L.length by omega)]
        rfl
      rw [e]
      exact ih (i + 1) (by omega)
  rw [q_87]
  exact key (nB K) 0 (by omega)
theorem k135 (h : AC c x y K F row tp n fa fp rf sd oc) {o p : Int} (ho : -2147483648 ≤ o ∧ o < 2147483648) (hp : -2147483648 ≤ p ∧ p < 2147483648) (d : Nat) : ∃ c2 : Nat → Nat → Nat → Int32, E (d + 6) 135 [vr 0 0, vi (iv o), vi (iv p)] (c, l, x, y) = some (some (vi (iv (ordS K F o p))), c2, l, x, y) ∧ SE c c2 := by
  have hn := h.1.2.1.2.2.2.1.1
  rw [q_135, h.1.1.2.2.2.1.1]
  unfold ordS
  by_cases e : (0 ≤ o ∧ o ≤ 2) ∧ -1 ≤ p ∧ p < nB K
  · obtain ⟨c2, g1, g2, g3⟩ := e85 (l := l) (y := y) h.1 e.1 (d + 3)
    refine ⟨c2, ?_, g2⟩
    rw [if_pos e]
    simp (disch := omega) only [iv_add, iv_sub, iv_mul, iv_neg, iv_lt, iv_le, iv_eq, iv_nat, iv_L, iv_L2, am_bi_v, am_bv_v, am_bl_v, if_pos, if_neg, Int.toNat_natCast, Int.toNat_add, Int.toNat_mul, Int.reduceToNat]
    rw [g1]
    simp only [am_bv_v]
    by_cases ep : p = -1
    · rw [if_pos ep, if_pos ep, e87 (SE_JR g2 h.1) g3 ordK_len ordK_lt]
      rfl
    · rw [if_neg ep, if_neg ep, g3 p.toNat (by rw [ordK_len]; omega)]
  · refine ⟨c, ?_, fun _ _ => rfl⟩
    rw [if_neg e]
    simp (disch := omega) only [iv_add, iv_sub, iv_mul, iv_neg, iv_lt, iv_le, iv_eq, iv_nat, iv_L, iv_L2, am_bi_v, am_bv_v, am_bl_v, if_pos, if_neg, Int.toNat_natCast, Int.toNat_add, Int.toNat_mul, Int.reduceToNat]
    by_cases e1 : o < 0
    · rw [if_pos e1]
    rw [if_neg e1]
    by_cases e2 : 2 < o
    · rw [if_pos e2]
    rw [if_neg e2]
    by_cases e3 : p < -1
    · rw [if_pos e3]
    rw [if_neg e3]
end
