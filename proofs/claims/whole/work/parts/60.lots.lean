/-! the class: lots -/
def nxtS (s : Int) : Int := (1103515245 * s + 12345) % 2147483648
/-- a line drawn by lot out of those left, and the seed after it -/
def lotS : Nat → Int → List Nat → List Nat × Int
  | 0, s, _ => ([], s)
  | k + 1, s, B => (B.getD (nxtS s / 64 % (B.length : Int)).toNat 0 :: (lotS k (nxtS s) (B.eraseIdx (nxtS s / 64 % (B.length : Int)).toNat)).1, (lotS k (nxtS s) (B.eraseIdx (nxtS s / 64 % (B.length : Int)).toNat)).2)
def lotK (K : Ct) (s : Int) : List Nat × Int := lotS (nB K) s (List.range (nB K))
/-- how many of some lines drawn rule what is so, and the seed after them -/
def lotsS (K : Ct) (F : Nat) : Nat → Int → Nat × Int
  | 0, s => (0, s)
  | m + 1, s => ((if rul K F (fstW K (lotK K s).1) = tru K then 1 else 0) + (lotsS K F m (lotK K s).2).1, (lotsS K F m (lotK K s).2).2)
def lotsR (K : Ct) (F : Nat) (s z : Int) : Int × Int := if 1 ≤ z ∧ z ≤ 200 then (((lotsS K F z.toNat s).1 : Int), (lotsS K F z.toNat s).2) else (-1, s)
section
variable {c : Nat → Nat → Nat → Int32} {l : Nat → Nat → Int64} {x y : Nat} {K : Ct} {F : Nat} {row : List (Nat × Nat)} {tp : Nat → Nat} {n : Nat} {fa fp : Int} {rf : Nat → Int32} {sd : Int} {oc : List Nat}
theorem nxt_bd (s : Int) : 0 ≤ nxtS s ∧ nxtS s < 2147483648 := by unfold nxtS; omega
theorem lotS_bd : ∀ (k : Nat) (s : Int) (B : List Nat), (0 ≤ s ∧ s < 2147483648) → 0 ≤ (lotS k s B).2 ∧ (lotS k s B).2 < 2147483648
  | 0, s, _, h => h
  | k + 1, s, B, _ => lotS_bd k (nxtS s) _ (nxt_bd s)
theorem lotsS_bd : ∀ (m : Nat) (s : Int), (0 ≤ s ∧ s < 2147483648) → (0 ≤ (lotsS K F m s).2 ∧ (lotsS K F m s).2 < 2147483648) ∧ (lotsS K F m s).1 ≤ m
  | 0, s, h => ⟨h, Nat.le_refl _⟩
  | m + 1, s, h => by
    have := lotsS_bd m (lotK K s).2 (lotS_bd _ _ _ h)
    refine ⟨this.1, ?_⟩
    show (if _ then 1 else 0) + _ ≤ _
    split <;> omega
theorem jv_bv {a : Int} (ha : 0 ≤ a ∧ a < 9223372036854775808) : (jv a).toBitVec = BitVec.ofNat 64 a.toNat := by
  show BitVec.ofInt 64 a = _
  apply BitVec.eq_of_toInt_eq
  rw [BitVec.toInt_ofInt, BitVec.toInt_ofNat', Int.toNat_of_nonneg ha.1]
theorem jv_bv2 {x : Int64} {n : Nat} (h : x.toBitVec = BitVec.ofNat 64 n) : x = jv (n : Int) := by
  apply Int64.toBitVec_inj.1
  rw [h]
  apply BitVec.eq_of_toInt_eq
  show _ = (BitVec.ofInt 64 (n : Int)).toInt
  rw [BitVec.toInt_ofInt, BitVec.toInt_ofNat']
theorem jv_mask {a : Int} (k : Nat) (ha : 0 ≤ a ∧ a < 9223372036854775808) (hk : 2 ^ k < 9223372036854775808) : jv a &&& jv (((2 ^ k : Nat) : Int) - 1) = jv (a % ((2 ^ k : Nat) : Int)) := by
  have h2 : 0 < 2 ^ k := Nat.two_pow_pos k
  have h0 : jv a &&& jv (((2 ^ k : Nat) : Int) - 1) = jv ((a.toNat % 2 ^ k : Nat) : Int) := by
    apply jv_bv2
    rw [Int64.toBitVec_and, jv_bv ha, jv_bv (by omega)]
    apply BitVec.eq_of_toNat_eq
    rw [BitVec.toNat_and, BitVec.toNat_ofNat, BitVec.toNat_ofNat, BitVec.toNat_ofNat, Nat.mod_eq_of_lt (a := a.toNat) (by omega), show (((2 ^ k : Nat) : Int) - 1).toNat = 2 ^ k - 1 by omega, Nat.mod_eq_of_lt (a := 2 ^ k - 1) (by omega), Nat.and_two_pow_sub_one_eq_mod, Nat.mod_eq_of_lt (a := a.toNat % 2 ^ k)]
    exact Nat.lt_of_le_of_lt (Nat.mod_le _ _) (by omega)
  rw [h0, Int.natCast_emod, Int.toNat_of_nonneg ha.1]
theorem jv_L3 : (1103515245 : Int64) = jv 1103515245 ∧ (12345 : Int64) = jv 12345 ∧ (2147483647 : Int64) = jv 2147483647 ∧ (2147483648 : Int64) = jv 2147483648 ∧ (64 : Int64) = jv 64 := ⟨rfl, rfl, rfl, rfl, rfl⟩
theorem iv_mod {a b : Int} (ha : 0 ≤ a ∧ a < 2147483648) (hb : 0 < b ∧ b < 2147483648) : iv a - iv a / iv b * iv b = iv (a % b) := by
  rw [iv_div ha hb, iv_mul, iv_sub]
  congr 1
  rw [Int.emod_def, Int.mul_comm]
theorem e89 {s : Int} (hs : 0 ≤ s ∧ s < 2147483648) (hc : c 34 0 2 = iv s) {m : Nat} (hm : 1 ≤ m ∧ m ≤ 7) (d : Nat) : E (d + 1) 89 [vr 34 0, vi (iv m)] (c, l, x, y) = some (some (vi (iv ((nxtS s / 64 % (m : Int)).toNat : Nat))), am_ui c 34 0 2 (iv (nxtS s)), l, x, y) := by
  have hb := nxt_bd s
  have hn : ((((1103515245 : Int64) * (iv s).toInt64) + 12345) &&& 2147483647).toInt32 = iv (nxtS s) := by
    rw [jv_of (by omega), jv_L3.1, jv_L3.2.1, jv_L3.2.2.1, jv_mul, jv_add]
    have := jv_mask (a := 1103515245 * s + 12345) 31 (by omega) (by decide)
    rw [show (((2 ^ 31 : Nat) : Int) - 1) = 2147483647 by decide, show ((2 ^ 31 : Nat) : Int) = 2147483648 by decide] at this
    rw [this]
    exact jv_iv (by unfold nxtS at hb; omega)
  have h64 : (64 : Int32) = iv 64 := rfl
  rw [q_89, hc, hn, h64, iv_div hb (by omega), iv_mod (by omega) (by omega)]
  simp (disch := omega) only [iv_add, iv_sub, iv_mul, iv_neg, iv_lt, iv_le, iv_eq, iv_nat, iv_L, iv_L2, am_bi_v, am_bv_v, am_bl_v, if_pos, if_neg, Int.toNat_natCast, Int.toNat_add, Int.toNat_mul, Int.reduceToNat]
  rw [Int.toNat_of_nonneg (Int.emod_nonneg _ (by omega))]
theorem getD_erase {B : List Nat} {r k : Nat} : (B.eraseIdx r).getD k 0 = if k < r then B.getD k 0 else B.getD (k + 1) 0 := by
  rw [List.getD_eq_getElem?_getD, List.getElem?_eraseIdx]
  split <;> rw [← List.getD_eq_getElem?_getD]
/-- only the line of witnesses and the seed change -/
def SO (c c2 : Nat → Nat → Nat → Int32) : Prop := (∀ k, k ≠ 35 → k ≠ 34 → c2 k = c k) ∧ ∀ i s, s ≠ 2 → c2 34 i s = c 34 i s
theorem SO_SE {c2 : Nat → Nat → Nat → Int32} (h : SE c c2) : SO c c2 := ⟨fun k h1 _ => h k h1, fun i s _ => by rw [h 34 (by omega)]⟩
theorem SO.tr {c1 c2 c3 : Nat → Nat → Nat → Int32} (h : SO c1 c2) (g : SO c2 c3) : SO c1 c3 := ⟨fun k h1 h2 => (g.1 k h1 h2).trans (h.1 k h1 h2), fun i s hs => (g.2 i s hs).trans (h.2 i s hs)⟩
theorem SO_JR {c2 : Nat → Nat → Nat → Int32} (h : SO c c2) (g : JR c x K F) : JR c2 x K F := JR_fr g (fun k _ _ => h.1 k (by omega) (by omega))
theorem SO_sd (v : Int32) : SO c (am_ui c 34 0 2 v) := ⟨fun k _ h2 => ui_nk _ _ _ _ h2, fun i s hs => ui_ne _ _ _ _ (by omega)⟩
theorem AC_SO {c2 : Nat → Nat → Nat → Int32} {s : Int} (h : AC c x y K F row tp n fa fp rf sd oc) (hf : SO c c2) (hs : c2 34 0 2 = iv s) : AC c2 x y K F row tp n fa fp rf s oc ∧ KC c c2 := by
  obtain ⟨h1, h2, h3, h4, h5, h6, h7⟩ := h
  refine ⟨⟨SO_JR hf h1, h2, ⟨?_, RowAt_fr h3.2.1 (hf.1 24 (by omega) (by omega)), RowAt_fr h3.2.2 (hf.1 25 (by omega) (by omega))⟩, ⟨?_, RowAt_fr h4.2 (hf.1 26 (by omega) (by omega))⟩, ?_, ?_, hs⟩, fun k hk => hf.1 k (by omega) (by omega)⟩
  · rw [hf.1 23 (by omega) (by omega)]; exact h3.1
  · rw [hf.1 23 (by omega) (by omega)]; exact h4.1
  · rw [hf.1 1 (by omega) (by omega), hf.1 2 (by omega) (by omega)]; exact h5
  · rw [hf.1 46 (by omega) (by omega)]; exact h6
theorem ord0 (K : Ct) : ordK K 0 = List.range (nB K) := by
  symm
  apply Ln_ord
  refine ⟨List.Perm.refl _, ?_⟩
  rw [List.pairwise_iff_getElem]
  intro i j hi hj hij
  rw [List.getElem_range, List.getElem_range, bef_iff]
  omega
theorem e88 (h : JR c x K F) {s : Int} (hs : 0 ≤ s ∧ s < 2147483648) (hc : c 34 0 2 = iv s) (d : Nat) : ∃ c2 : Nat → Nat → Nat → Int32, E (d + 3) 88 [vr 34 0] (c, l, x, y) = some (none, c2, l, x, y) ∧ SO c c2 ∧ RowAt c2 35 0 (lotK K s).1 ∧ c2 34 0 2 = iv (lotK K s).2 := by
  have hn := h.2.1.2.2.2.1.1
  have inner : ∀ (m : Nat) (A B : List Nat) (r : Nat) (c : Nat → Nat → Nat → Int32), m ≤ r → r < B.length → A.length + B.length ≤ 7 → (∀ j, j < A.length → c 35 0 j = iv (A.getD j 0 : Nat)) → (∀ j, j < m → c 35 0 (A.length + j) = iv (B.getD j 0 : Nat)) → (∀ j, m ≤ j → j < r → c 35 0 (A.length + j + 1) = iv (B.getD j 0 : Nat)) → (∀ j, r < j → j < B.length → c 35 0 (A.length + j) = iv (B.getD j 0 : Nat)) → ∃ (c2 : Nat → Nat → Nat → Int32), X (d + 3) 88 29 [some (vr 34 0), some (vi (iv (A.length : Nat))), none, some (vi (iv (B.getD r 0 : Nat))), some (vi (iv ((A.length + m : Nat) : Int)))] [] (c, l, x, y) = X (d + 3) 88 5 [some (vr 34 0), some (vi (iv ((A.length + 1 : Nat) : Int))), none, none, none] [] (c2, l, x, y) ∧ SE c c2 ∧ RowAt c2 35 0 ((A ++ [B.getD r 0]) ++ B.eraseIdx r) := by
    intro m
    induction m with
    | zero =>
      intro A B r c hm hr hl h1 h2 h3 h4
      refine ⟨am_ui c 35 0 A.length (iv (B.getD r 0 : Nat)), ?_, SE_ui _ _ _, ?_⟩
      · rw [q_88_29]
        simp (disch := omega) only [iv_add, iv_sub, iv_mul, iv_neg, iv_lt, iv_le, iv_eq, iv_nat, iv_L, iv_L2, am_bi_v, am_bv_v, am_bl_v, if_pos, if_neg, Int.toNat_natCast, Int.toNat_add, Int.toNat_mul, Int.reduceToNat]
        rfl
      · rw [List.append_assoc]
        show RowAt _ 35 0 (A ++ B.getD r 0 :: B.eraseIdx r)
        refine RowAt_ui ?_ (fun _ => by rw [getD_mid, if_neg (Nat.lt_irrefl _), if_pos rfl])
        intro j hj hne
        rw [List.length_append, List.length_cons, List.length_eraseIdx_of_lt hr] at hj
        rw [getD_mid]
        by_cases e : j < A.length
        · rw [if_pos e]; exact h1 j e
        · rw [if_neg e, if_neg hne, getD_erase]
          by_cases e2 : j - A.length - 1 < r
          · rw [if_pos e2]
            have := h3 (j - A.length - 1) (by omega) e2
            rw [show A.length + (j - A.length - 1) + 1 = j by omega] at this
            exact this
          · rw [if_neg e2]
            have := h4 (j - A.length - 1 + 1) (by omega) (by omega)
            rw [show A.length + (j - A.length - 1 + 1) = j by omega] at this
            exact this
    | succ m ih =>
      intro A B r c hm hr hl h1 h2 h3 h4
      obtain ⟨c2, g1, g2, g3⟩ := ih A B r (am_ui c 35 0 (A.length + (m + 1)) (iv (B.getD m 0 : Nat))) (by omega) hr hl (by
        intro j hj
        rw [ui_ne _ _ _ _ (by omega)]; exact h1 j hj) (by
        intro j hj
        rw [ui_ne _ _ _ _ (by omega)]; exact h2 j (by omega)) (by
        intro j hj hj2
        by_cases e : j = m
        · subst e; rw [Nat.add_assoc, ui_self]
        · rw [ui_ne _ _ _ _ (by omega)]; exact h3 j (by omega) hj2) (by
        intro j hj hj2
        rw [ui_ne _ _ _ _ (by omega)]; exact h4 j hj hj2)
      refine ⟨c2, ?_, (SE_ui _ _ _).tr g2, g3⟩
      rw [q_88_29]
      simp (disch := omega) only [iv_add, iv_sub, iv_mul, iv_neg, iv_lt, iv_le, iv_eq, iv_nat, iv_L, iv_L2, am_bi_v, am_bv_v, am_bl_v, if_pos, if_neg, Int.toNat_natCast, Int.toNat_add, Int.toNat_mul, Int.reduceToNat]
      rw [show (((A.length + (m + 1) : Nat) : Int) - 1).toNat = A.length + m by omega, h2 m (by omega), show (((A.length + (m + 1) : Nat) : Int) + -1) = ((A.length + m : Nat) : Int) by omega]
      exact g1
  have outer : ∀ (k : Nat) (A B : List Nat) (s : Int) (c : Nat → Nat → Nat → Int32), B.length = k → A.length + k = nB K → (0 ≤ s ∧ s < 2147483648) → c 34 0 2 = iv s → JR c x K F → RowAt c 35 0 (A ++ B) → ∃ (c2 : Nat → Nat → Nat → Int32), X (d + 3) 88 5 [some (vr 34 0), some (vi (iv (A.length : Nat))), none, none, none] [] (c, l, x, y) = some (none, c2, l, x, y) ∧ SO c c2 ∧ RowAt c2 35 0 (A ++ (lotS k s B).1) ∧ c2 34 0 2 = iv (lotS k s B).2 := by
    intro k
    induction k with
    | zero =>
      intro A B s c hB hA hs hc hJ hR
      rw [List.length_eq_zero_iff.mp hB] at hR
      refine ⟨c, ?_, SO_SE (fun _ _ => rfl), hR, hc⟩
      rw [q_88_5]
      simp (disch := omega) only [iv_add, iv_sub, iv_mul, iv_neg, iv_lt, iv_le, iv_eq, iv_nat, iv_L, iv_L2, am_bi_v, am_bv_v, am_bl_v, if_pos, if_neg, Int.toNat_natCast, Int.toNat_add, Int.toNat_mul, Int.reduceToNat, hJ.1.2.2.2.1.1]
    | succ k ih =>
      intro A B s c hB hA hs hc hJ hR
      have hr : (nxtS s / 64 % (B.length : Int)).toNat < B.length := by
        have := Int.emod_lt_of_pos (nxtS s / 64) (show (0 : Int) < B.length by omega)
        have := Int.emod_nonneg (nxtS s / 64) (show (B.length : Int) ≠ 0 by omega)
        omega
      have hgA : ∀ j, j < A.length → c 35 0 j = iv (A.getD j 0 : Nat) := by
        intro j hj
        rw [hR j (by rw [List.length_append]; omega), List.getD_eq_getElem?_getD, List.getElem?_append_left hj, ← List.getD_eq_getElem?_getD]
      have hgB : ∀ j, j < B.length → c 35 0 (A.length + j) = iv (B.getD j 0 : Nat) := by
        intro j hj
        rw [hR _ (by rw [List.length_append]; omega), List.getD_eq_getElem?_getD, List.getElem?_append_right (by omega), Nat.add_sub_cancel_left, ← List.getD_eq_getElem?_getD]
      have hne : ∀ j, am_ui c 34 0 2 (iv (nxtS s)) 35 0 j = c 35 0 j := fun j => ui_ne _ _ _ _ (by omega)
      have he := e89 (l := l) (x := x) (y := y) hs hc (m := B.length) (by omega) (d + 1)
      show ∃ c2 : Nat → Nat → Nat → Int32, X (d + 3) 88 5 _ _ _ = _ ∧ _ ∧ RowAt c2 35 0 (A ++ (B.getD _ 0 :: (lotS k (nxtS s) (B.eraseIdx _)).1)) ∧ c2 34 0 2 = iv (lotS k (nxtS s) (B.eraseIdx _)).2
      generalize (nxtS s / 64 % (B.length : Int)).toNat = r at *
      obtain ⟨c2, g1, g2, g3⟩ := inner r A B r (am_ui c 34 0 2 (iv (nxtS s))) (Nat.le_refl _) hr (by omega) (by
        intro j hj
        rw [hne]; exact hgA j hj) (by
        intro j hj
        rw [hne]; exact hgB j (by omega)) (by
        intro j h1 h2
        omega) (by
        intro j h1 h2
        rw [hne]; exact hgB j h2)
      have hS : SO c c2 := (SO_sd _).tr (SO_SE g2)
      obtain ⟨c3, k1, k2, k3, k4⟩ := ih (A ++ [B.getD r 0]) (B.eraseIdx r) (nxtS s) c2 (by rw [List.length_eraseIdx_of_lt hr]; omega) (by rw [List.length_append, List.length_singleton]; omega) (nxt_bd s) (by rw [g2 34 (by omega), ui_self]) (SO_JR hS hJ) g3
      refine ⟨c3, ?_, hS.tr k2, ?_, k4⟩
      · rw [q_88_5]
        simp (disch := omega) only [iv_add, iv_sub, iv_mul, iv_neg, iv_lt, iv_le, iv_eq, iv_nat, iv_L, iv_L2, am_bi_v, am_bv_v, am_bl_v, if_pos, if_neg, Int.toNat_natCast, Int.toNat_add, Int.toNat_mul, Int.reduceToNat, hJ.1.2.2.2.1.1]
        rw [show ((nB K : Int) - (A.length : Int)) = ((B.length : Nat) : Int) by omega, he]
        simp (disch := omega) only [iv_add, iv_sub, iv_mul, iv_neg, iv_lt, iv_le, iv_eq, iv_nat, iv_L, iv_L2, am_bi_v, am_bv_v, am_bl_v, if_pos, if_neg, Int.toNat_natCast, Int.toNat_add, Int.toNat_mul, Int.reduceToNat]
        rw [← Int.natCast_add, hne, hgB r hr]
        rw [List.length_append, List.length_singleton] at k1
        exact g1.trans k1
      · rw [List.append_assoc] at k3
        exact k3
  obtain ⟨c2, g1, g2, g3⟩ := e85 (l := l) (y := y) h (o := 0) (by omega) d
  rw [ord0] at g3
  obtain ⟨c3, k1, k2, k3, k4⟩ := outer (nB K) [] (List.range (nB K)) s c2 List.length_range (Nat.zero_add _) hs (by rw [g2 34 (by omega)]; exact hc) (SE_JR g2 h) g3
  refine ⟨c3, ?_, (SO_SE g2).tr k2, k3, k4⟩
  rw [q_88]
  simp only [iv_L]
  rw [g1]
  simp only [am_bv_v]
  exact k1
theorem lotS_len : ∀ (k : Nat) (s : Int) (B : List Nat), (lotS k s B).1.length = k
  | 0, _, _ => rfl
  | k + 1, s, B => by
    show (_ :: (lotS k _ _).1).length = _
    rw [List.length_cons, lotS_len]
theorem lotS_mem : ∀ (k : Nat) (s : Int) (B : List Nat), k ≤ B.length → ∀ b ∈ (lotS k s B).1, b ∈ B
  | 0, _, _, _, b, hb => by cases hb
  | k + 1, s, B, hk, b, hb => by
    have hr : (nxtS s / 64 % (B.length : Int)).toNat < B.length := by
      have := Int.emod_lt_of_pos (nxtS s / 64) (show (0 : Int) < B.length by omega)
      have := Int.emod_nonneg (nxtS s / 64) (show (B.length : Int) ≠ 0 by omega)
      omega
    rcases List.mem_cons.mp hb with rfl | q
    · exact getD_mem hr
    · exact List.mem_of_mem_eraseIdx (lotS_mem k (nxtS s) _ (by rw [List.length_eraseIdx_of_lt hr]; omega) b q)
theorem lotK_lt (K : Ct) (s : Int) : ∀ b ∈ (lotK K s).1, b < nB K := fun b hb => List.mem_range.mp (lotS_mem _ _ _ (by rw [List.length_range]; exact Nat.le_refl _) b hb)
theorem k136 (h : AC c x y K F row tp n fa fp rf sd oc) (hv : VS K F row tp n fa fp sd oc) {z : Int} (hz : -2147483648 ≤ z ∧ z < 2147483648) (d : Nat) : ∃ c2 : Nat → Nat → Nat → Int32, E (d + 6) 136 [vr 0 0, vi (iv z)] (c, l, x, y) = some (some (vi (iv (lotsR K F sd z).1)), c2, l, x, y) ∧ SO c c2 ∧ c2 34 0 2 = iv (lotsR K F sd z).2 := by
  have ht := tru_lt K
  have hsd := hv.2.2.2.2.2.2.1
  have key : ∀ (m i v : Nat) (s : Int) (c : Nat → Nat → Nat → Int32), (i : Int) + m = z → z ≤ 200 → v ≤ i → (0 ≤ s ∧ s < 2147483648) → c 34 0 2 = iv s → JR c x K F → ∃ c2 : Nat → Nat → Nat → Int32, X (d + 6) 136 17 [some (vr 0 0), some (vi (iv z)), some (vi (iv (tru K))), some (vi (iv (v : Nat))), some (vi (iv (i : Nat)))] [] (c, l, x, y) = some (some (vi (iv ((v + (lotsS K F m s).1 : Nat) : Int))), c2, l, x, y) ∧ SO c c2 ∧ c2 34 0 2 = iv (lotsS K F m s).2 := by
    intro m
    induction m with
    | zero =>
      intro i v s c hi h2 hvi hs hc hJ
      refine ⟨c, ?_, SO_SE (fun _ _ => rfl), hc⟩
      rw [q_136_17]
      simp (disch := omega) only [iv_add, iv_sub, iv_mul, iv_neg, iv_lt, iv_le, iv_eq, iv_nat, iv_L, iv_L2, am_bi_v, am_bv_v, am_bl_v, if_pos, if_neg, Int.toNat_natCast, Int.toNat_add, Int.toNat_mul, Int.reduceToNat]
      rfl
    | succ m ih =>
      intro i v s c hi h2 hvi hs hc hJ
      obtain ⟨c2, g1, g2, g3, g4⟩ := e88 (l := l) (y := y) hJ hs hc (d + 2)
      have hl : (lotK K s).1.length = nB K := lotS_len _ _ _
      have hr := rul_lt K F (fstW K (lotK K s).1)
      rw [q_136_17]
      simp (disch := omega) only [iv_add, iv_sub, iv_mul, iv_neg, iv_lt, iv_le, iv_eq, iv_nat, iv_L, iv_L2, am_bi_v, am_bv_v, am_bl_v, if_pos, if_neg, Int.toNat_natCast, Int.toNat_add, Int.toNat_mul, Int.reduceToNat]
      rw [g1]
      simp only [am_bv_v]
      rw [e87 (SO_JR g2 hJ) g3 hl (lotK_lt K s)]
      simp (disch := omega) only [iv_add, iv_sub, iv_mul, iv_neg, iv_lt, iv_le, iv_eq, iv_nat, iv_L, iv_L2, am_bi_v, am_bv_v, am_bl_v, if_pos, if_neg, Int.toNat_natCast, Int.toNat_add, Int.toNat_mul, Int.reduceToNat]
      show ∃ c2 : Nat → Nat → Nat → Int32, _ = some (some (vi (iv ((v + ((if rul K F (fstW K (lotK K s).1) = tru K then 1 else 0) + (lotsS K F m (lotK K s).2).1) : Nat) : Int))), c2, l, x, y) ∧ _ ∧ c2 34 0 2 = iv (lotsS K F m (lotK K s).2).2
      by_cases e : rul K F (fstW K (lotK K s).1) = tru K
      · obtain ⟨c3, k1, k2, k3⟩ := ih (i + 1) (v + 1) (lotK K s).2 c2 (by omega) h2 (by omega) (lotS_bd _ _ _ hs) g4 (SO_JR g2 hJ)
        refine ⟨c3, ?_, g2.tr k2, k3⟩
        rw [if_pos (by omega), if_pos e, ← Nat.add_assoc]
        exact k1
      · obtain ⟨c3, k1, k2, k3⟩ := ih (i + 1) v (lotK K s).2 c2 (by omega) h2 (by omega) (lotS_bd _ _ _ hs) g4 (SO_JR g2 hJ)
        refine ⟨c3, ?_, g2.tr k2, k3⟩
        rw [if_neg (by omega), if_neg e, Nat.zero_add, Int.add_zero]
        exact k1
  rw [q_136]
  unfold lotsR
  by_cases e : 1 ≤ z ∧ z ≤ 200
  · obtain ⟨c2, g1, g2, g3⟩ := key z.toNat 0 0 sd c (by omega) e.2 (Nat.le_refl _) hsd h.2.2.2.2.2.2 h.1
    refine ⟨c2, ?_, g2, ?_⟩
    · rw [if_pos e]
      simp (disch := omega) only [iv_add, iv_sub, iv_mul, iv_neg, iv_lt, iv_le, iv_eq, iv_nat, iv_L, iv_L2, am_bi_v, am_bv_v, am_bl_v, if_pos, if_neg, Int.toNat_natCast, Int.toNat_add, Int.toNat_mul, Int.reduceToNat, e23 h.1]
      rw [Nat.zero_add] at g1
      exact g1
    · rw [if_pos e]; exact g3
  · refine ⟨c, ?_, SO_SE (fun _ _ => rfl), ?_⟩
    · rw [if_neg e]
      simp (disch := omega) only [iv_add, iv_sub, iv_mul, iv_neg, iv_lt, iv_le, iv_eq, iv_nat, iv_L, iv_L2, am_bi_v, am_bv_v, am_bl_v, if_pos, if_neg, Int.toNat_natCast, Int.toNat_add, Int.toNat_mul, Int.reduceToNat]
      by_cases e1 : z < 1
      · rw [if_pos e1]
      · rw [if_neg e1]
    · rw [if_neg e]; exact h.2.2.2.2.2.2
end
