/-! the reference: lots -/
/-- only the seed changes -/
def LL (l l2 : Nat → Nat → Int64) : Prop := (∀ k, k ≠ 48 → l2 k = l k) ∧ ∀ j, j ≠ 57 → l2 48 j = l 48 j
section
variable {c : Nat → Nat → Nat → Int32} {l : Nat → Nat → Int64} {x y : Nat} {K : Ct} {F : Nat} {row : List (Nat × Nat)} {tp : Nat → Nat} {n : Nat} {fa fp : Int} {rf : Nat → Int32} {sd : Int} {oc : List Nat}
theorem LL.refl (l : Nat → Nat → Int64) : LL l l := ⟨fun _ _ => rfl, fun _ _ => rfl⟩
theorem LL.tr {l1 l2 l3 : Nat → Nat → Int64} (h : LL l1 l2) (g : LL l2 l3) : LL l1 l3 := ⟨fun k hk => (g.1 k hk).trans (h.1 k hk), fun j hj => (g.2 j hj).trans (h.2 j hj)⟩
theorem LL_RR {l2 : Nat → Nat → Int64} (h : LL l l2) (g : RR c l K F) : RR c l2 K F := RR_l g (h.1 69 (by omega)) (h.1 71 (by omega))
theorem AR_LL {l2 : Nat → Nat → Int64} {s : Int} (h : AR c l K F row tp n fa fp rf sd oc) (hf : LL l l2) (hs : l2 48 57 = jv s) : AR c l2 K F row tp n fa fp rf s oc := by
  obtain ⟨g1, g2, g3, g4, g5, g6, g7⟩ := h
  exact ⟨LL_RR hf g1, g2, g3, g4, g5, hs, g7⟩
theorem jv_div1 {a b : Int} (ha : 0 ≤ a ∧ a < 9223372036854775808) (hb : 0 < b ∧ b < 9223372036854775808) : jv a / jv b = jv (a / b) := by
  apply Int64.toInt_inj.1
  rw [Int64.toInt_div_of_ne_right, jv_toInt (by omega), jv_toInt (by omega), Int.tdiv_eq_ediv_of_nonneg ha.1, jv_toInt]
  · have h1 := Int.ediv_nonneg ha.1 (b := b) (by omega)
    have h2 := Int.ediv_le_self b ha.1
    omega
  · intro h
    have h2 := congrArg Int64.toInt h
    rw [jv_toInt (by omega)] at h2
    have h3 : (-1 : Int64).toInt = -1 := by decide
    omega
theorem jv_mod {a b : Int} (ha : 0 ≤ a ∧ a < 9223372036854775808) (hb : 0 < b ∧ b < 9223372036854775808) : jv a - jv a / jv b * jv b = jv (a % b) := by
  rw [jv_div1 ha hb, jv_mul, jv_sub]
  congr 1
  rw [Int.emod_def, Int.mul_comm]
theorem e251 {s : Int} (hs : 0 ≤ s ∧ s < 2147483648) (hc : l 48 57 = jv s) {m : Nat} (hm : 1 ≤ m ∧ m ≤ 7) (d : Nat) : E (d + 1) 251 [vr 48 0, vi (iv m)] (c, l, x, y) = some (some (vi (iv ((nxtS s / 64 % (m : Int)).toNat : Nat))), c, am_ul l 48 57 (jv (nxtS s)), x, y) := by
  have hb := nxt_bd s
  have hn : ((((1103515245 : Int64) * jv s) + 12345) - (((1103515245 : Int64) * jv s) + 12345) / 2147483648 * 2147483648) = jv (nxtS s) := by
    rw [jv_L3.1, jv_L3.2.1, jv_L3.2.2.2.1, jv_mul, jv_add, jv_mod (by omega) (by omega)]
    rfl
  have hz : ¬ (jv (m : Int) = 0) := by
    rw [jv_L.1, jv_eq (by omega) (by omega)]
    omega
  have h1 := Int.emod_nonneg (nxtS s / 64) (show (m : Int) ≠ 0 by omega)
  have h2 := Int.emod_lt_of_pos (nxtS s / 64) (show (0 : Int) < m by omega)
  rw [q_251, hc, hn, jv_of (by omega), if_neg hz, jv_L3.2.2.2.2, jv_div1 (by omega) (by omega), jv_mod (by omega) (by omega), jv_iv (by omega), Int.toNat_of_nonneg h1]
theorem er_filter : ∀ (B : List Nat) (r : Nat), B.Nodup → r < B.length → B.eraseIdx r = B.filter (fun a => a != B.getD r 0)
  | [], r, _, h => absurd h (Nat.not_lt_zero r)
  | b :: t, 0, hn, _ => by
    have h1 := (List.nodup_cons.mp hn).1
    rw [List.filter_cons, if_neg (by show ¬ ((b != b) = true); simp)]
    symm
    show t.filter (fun a => a != b) = t
    rw [List.filter_eq_self]
    intro a ha
    simp only [bne_iff_ne, ne_eq]
    intro q
    rw [q] at ha
    exact h1 ha
  | b :: t, r + 1, hn, h => by
    have h1 := List.nodup_cons.mp hn
    have hr : r < t.length := by rw [List.length_cons] at h; omega
    have hm := getD_mem hr
    have hg : (b :: t).getD (r + 1) 0 = t.getD r 0 := rfl
    rw [hg, List.filter_cons, if_pos (by
      simp only [bne_iff_ne, ne_eq]
      intro q
      rw [← q] at hm
      exact h1.1 hm), List.eraseIdx_cons_succ, er_filter t r h1.2 hr]
/-- those not gone -/
def notG (mk n : Nat) : List Nat := (List.range n).filter (fun b => !mk.testBit b)
theorem notG_nodup (mk n : Nat) : (notG mk n).Nodup := List.nodup_range.filter _
theorem notG_gone {mk n r : Nat} (hr : r < (notG mk n).length) : notG (mk ||| 2 ^ (notG mk n).getD r 0) n = (notG mk n).eraseIdx r := by
  rw [er_filter _ _ (notG_nodup mk n) hr]
  generalize (notG mk n).getD r 0 = w
  unfold notG
  rw [List.filter_filter]
  congr 1
  funext b
  rw [Nat.testBit_or, Nat.testBit_two_pow]
  cases mk.testBit b
  · by_cases e : w = b
    · subst e; simp
    · rw [show decide (w = b) = false by simp [e], show (b != w) = true by simp [bne_iff_ne]; exact fun q => e q.symm]; rfl
  · simp
theorem e250 (h : RR c l K F) {s : Int} (hs : 0 ≤ s ∧ s < 2147483648) (hc : l 48 57 = jv s) (d : Nat) : ∃ (c2 : Nat → Nat → Nat → Int32) (l2 : Nat → Nat → Int64), E (d + 2) 250 [vr 48 0] (c, l, x, y) = some (none, c2, l2, x, y) ∧ Sy c c2 ∧ LL l l2 ∧ RowAt c2 88 0 (lotK K s).1 ∧ l2 48 57 = jv (lotK K s).2 := by
  have hn7 := h.2.1.2.2.2.1.1
  have inner : ∀ (k i r mk : Nat) (v2 : Nat) (c : Nat → Nat → Nat → Int32) (l : Nat → Nat → Int64), i + k = nB K → mk < 128 → v2 < 7 → r < ((List.range' i k).filter (fun b => !mk.testBit b)).length → X (d + 2) 250 17 [some (vr 48 0), some (vi (iv (mk : Nat))), some (vi (iv (v2 : Nat))), some (vi (iv (r : Nat))), some (vi (iv (i : Nat)))] [] (c, l, x, y) = X (d + 2) 250 4 [some (vr 48 0), some (vi (iv ((mk ||| 2 ^ ((List.range' i k).filter (fun b => !mk.testBit b)).getD r 0 : Nat) : Int))), some (vi (iv ((v2 + 1 : Nat) : Int))), none, none] [] (am_ui c 88 0 v2 (iv (((List.range' i k).filter (fun b => !mk.testBit b)).getD r 0 : Nat)), l, x, y) := by
    intro k
    induction k with
    | zero => intro i r mk v2 c l hi hmk hv2 hr; exact absurd hr (Nat.not_lt_zero r)
    | succ k ih =>
      intro i r mk v2 c l hi hmk hv2 hr
      rw [List.range'_succ, List.filter_cons] at hr ⊢
      rw [q_250_17]
      have hbit := iv_bit (a := (mk : Int)) (b := (i : Int)) (by omega) (by omega)
      have hm31 : iv (i : Int) &&& iv 31 = iv (i : Int) := by rw [iv_m31 (by omega), show ((i : Int) % 32) = i by omega]
      simp only [Int.toNat_natCast] at hbit
      have e31 : (31 : Int32) = iv 31 := rfl
      have e1 : (1 : Int32) = iv 1 := rfl
      have e0 : (0 : Int32) = iv 0 := rfl
      rw [e31, e1, e0, shl1 i (by omega), hm31, hbit]
      have hpw : 2 ^ i ≤ 2 ^ 6 := Nat.pow_le_pow_right (by decide) (by omega)
      have hpw2 : ((2 ^ i : Nat) : Int) ≤ 64 := Int.ofNat_le.mpr hpw
      have e10 : (iv 1 = iv 0) = False := by simp (disch := omega) only [iv_eq]; decide
      have e01 : (iv 0 = iv 1) = False := by simp (disch := omega) only [iv_eq]; decide
      have e11 : (iv 1 = iv 1) = True := eq_self _
      have e00 : (iv 0 = iv 0) = True := eq_self _
      have hbb : mk.testBit i = true ∨ mk.testBit i = false := by cases mk.testBit i <;> simp
      rcases hbb with eb | eb
      · simp only [eb, Bool.not_true, Bool.false_eq_true, if_false, if_true, e11, e10] at hr ⊢
        rw [iv_add]
        exact ih (i + 1) r mk v2 c l (by omega) hmk hv2 hr
      · simp only [eb, Bool.not_false, Bool.false_eq_true, if_false, if_true, e01, e00] at hr ⊢
        rw [List.length_cons] at hr
        cases r with
        | zero =>
          simp (disch := omega) only [iv_add, iv_sub, iv_mul, iv_neg, iv_lt, iv_le, iv_eq, iv_nat, iv_L, iv_L2, am_bi_v, am_bv_v, am_bl_v, if_pos, if_neg, Int.toNat_natCast, Int.toNat_add, Int.toNat_mul, Int.reduceToNat]
          rw [iv_or (by omega) ⟨Int.natCast_nonneg _, by omega⟩, Int.toNat_natCast, Int.toNat_natCast]
          rfl
        | succ r =>
          have hfl := List.length_filter_le (fun b => !mk.testBit b) (List.range' (i + 1) k)
          rw [List.length_range'] at hfl
          have hlt : (iv 0 < iv ((r + 1 : Nat) : Int)) = True := by
            rw [iv_lt (by omega) (by omega)]
            exact eq_true (by omega)
          simp only [hlt, if_true]
          rw [iv_neg, iv_add, iv_add, show (((r + 1 : Nat) : Int) + -1) = (r : Int) by omega]
          exact ih (i + 1) r mk v2 c l (by omega) hmk hv2 (by omega)
  have outer : ∀ (k mk : Nat) (A : List Nat) (s : Int) (c : Nat → Nat → Nat → Int32) (l : Nat → Nat → Int64), (notG mk (nB K)).length = k → A.length + k = nB K → mk < 128 → (0 ≤ s ∧ s < 2147483648) → l 48 57 = jv s → RR c l K F → RowAt c 88 0 A → ∃ (c2 : Nat → Nat → Nat → Int32) (l2 : Nat → Nat → Int64), X (d + 2) 250 4 [some (vr 48 0), some (vi (iv (mk : Nat))), some (vi (iv (A.length : Nat))), none, none] [] (c, l, x, y) = some (none, c2, l2, x, y) ∧ Sy c c2 ∧ LL l l2 ∧ RowAt c2 88 0 (A ++ (lotS k s (notG mk (nB K))).1) ∧ l2 48 57 = jv (lotS k s (notG mk (nB K))).2 := by
    intro k
    induction k with
    | zero =>
      intro mk A s c l hk hA hmk hs hc hR hrow
      refine ⟨c, l, ?_, Sy.refl c, LL.refl l, ?_, hc⟩
      · rw [q_250_4, e185 hR]
        simp (disch := omega) only [iv_add, iv_sub, iv_mul, iv_neg, iv_lt, iv_le, iv_eq, iv_nat, iv_L, iv_L2, am_bi_v, am_bv_v, am_bl_v, if_pos, if_neg, Int.toNat_natCast, Int.toNat_add, Int.toNat_mul, Int.reduceToNat]
      · show RowAt c 88 0 (A ++ [])
        rw [List.append_nil]; exact hrow
    | succ k ih =>
      intro mk A s c l hk hA hmk hs hc hR hrow
      have hr : (nxtS s / 64 % ((notG mk (nB K)).length : Int)).toNat < (notG mk (nB K)).length := by
        have := Int.emod_lt_of_pos (nxtS s / 64) (show (0 : Int) < ((notG mk (nB K)).length : Nat) by omega)
        have := Int.emod_nonneg (nxtS s / 64) (show (((notG mk (nB K)).length : Nat) : Int) ≠ 0 by omega)
        omega
      have he := e251 (c := c) (x := x) (y := y) hs hc (m := (notG mk (nB K)).length) (by omega) d
      have hg := notG_gone hr
      show ∃ (c2 : Nat → Nat → Nat → Int32) (l2 : Nat → Nat → Int64), X (d + 2) 250 4 _ _ _ = _ ∧ _ ∧ _ ∧ RowAt c2 88 0 (A ++ ((notG mk (nB K)).getD _ 0 :: (lotS k (nxtS s) ((notG mk (nB K)).eraseIdx _)).1)) ∧ l2 48 57 = jv (lotS k (nxtS s) ((notG mk (nB K)).eraseIdx _)).2
      rw [← hg]
      generalize (nxtS s / 64 % ((notG mk (nB K)).length : Int)).toNat = r at *
      have hw : (notG mk (nB K)).getD r 0 < nB K := by
        have hm := getD_mem hr
        unfold notG at hm
        exact List.mem_range.mp (List.mem_filter.mp hm).1
      have hin := inner (nB K) 0 r mk A.length c (am_ul l 48 57 (jv (nxtS s))) (Nat.zero_add _) hmk (by omega) (by rw [← List.range_eq_range']; exact hr)
      rw [← List.range_eq_range'] at hin
      have hLL : LL l (am_ul l 48 57 (jv (nxtS s))) := ⟨fun k hk => am_ul_nk _ _ _ hk, fun j hj => by unfold am_ul; rw [if_neg (by omega)]⟩
      have hS : Sy c (am_ui c 88 0 A.length (iv ((notG mk (nB K)).getD r 0 : Nat))) := Sy.ui _ _ _ _ (by omega)
      have hk2 : (notG (mk ||| 2 ^ (notG mk (nB K)).getD r 0) (nB K)).length = k := by
        rw [hg, List.length_eraseIdx_of_lt hr]; omega
      have hpw : 2 ^ (notG mk (nB K)).getD r 0 < 2 ^ 7 := Nat.pow_lt_pow_right (by decide) (by omega)
      obtain ⟨c2, l2, g1, g2, g3, g4, g5⟩ := ih (mk ||| 2 ^ (notG mk (nB K)).getD r 0) (A ++ [(notG mk (nB K)).getD r 0]) (nxtS s) (am_ui c 88 0 A.length (iv ((notG mk (nB K)).getD r 0 : Nat))) (am_ul l 48 57 (jv (nxtS s))) hk2 (by rw [List.length_append, List.length_singleton]; omega) (Nat.or_lt_two_pow (n := 7) hmk hpw) (nxt_bd s) (am_ul_self2 _ _ _) (Sy_RR hS (LL_RR hLL hR)) (RowAt_snoc (fun j hj => by rw [ui_ne _ _ _ _ (by omega)]; exact hrow j hj) _ (ui_self ..))
      refine ⟨c2, l2, ?_, hS.tr g2, hLL.tr g3, ?_, g5⟩
      · rw [q_250_4, e185 hR]
        simp (disch := omega) only [iv_add, iv_sub, iv_mul, iv_neg, iv_lt, iv_le, iv_eq, iv_nat, iv_L, iv_L2, am_bi_v, am_bv_v, am_bl_v, if_pos, if_neg, Int.toNat_natCast, Int.toNat_add, Int.toNat_mul, Int.reduceToNat, e185 hR]
        rw [show ((nB K : Int) - (A.length : Int)) = (((notG mk (nB K)).length : Nat) : Int) by omega, he]
        simp only [am_bi_v]
        rw [List.length_append, List.length_singleton] at g1
        exact hin.trans g1
      · rw [List.append_assoc] at g4
        exact g4
  rw [q_250]
  have hn0 : notG 0 (nB K) = List.range (nB K) := by
    unfold notG
    rw [List.filter_eq_self]
    intro b hb
    rw [Nat.zero_testBit]; rfl
  have := outer (nB K) 0 [] s c l (by rw [hn0, List.length_range]) (Nat.zero_add _) (by decide) hs hc h (fun j hj => absurd hj (Nat.not_lt_zero j))
  rw [hn0] at this
  exact this
theorem m249 (h : AR c l K F row tp n fa fp rf sd oc) (hv : VS K F row tp n fa fp sd oc) {z : Int} (hz : -2147483648 ≤ z ∧ z < 2147483648) (d : Nat) : ∃ (c2 : Nat → Nat → Nat → Int32) (l2 : Nat → Nat → Int64), E (d + 8) 249 [vr 48 0, vi (iv z)] (c, l, x, y) = some (some (vi (iv (lotsR K F sd z).1)), c2, l2, x, y) ∧ Sy c c2 ∧ LL l l2 ∧ l2 48 57 = jv (lotsR K F sd z).2 := by
  have ht := tru_lt K
  have hsd := hv.2.2.2.2.2.2.1
  have key : ∀ (m i v : Nat) (s : Int) (c : Nat → Nat → Nat → Int32) (l : Nat → Nat → Int64), (i : Int) + m = z → z ≤ 200 → v ≤ i → (0 ≤ s ∧ s < 2147483648) → l 48 57 = jv s → RR c l K F → ∃ (c2 : Nat → Nat → Nat → Int32) (l2 : Nat → Nat → Int64), X (d + 8) 249 12 [some (vr 48 0), some (vi (iv z)), some (vi (iv (v : Nat))), some (vi (iv (i : Nat)))] [] (c, l, x, y) = some (some (vi (iv ((v + (lotsS K F m s).1 : Nat) : Int))), c2, l2, x, y) ∧ Sy c c2 ∧ LL l l2 ∧ l2 48 57 = jv (lotsS K F m s).2 := by
    intro m
    induction m with
    | zero =>
      intro i v s c l hi h2 hvi hs hc hR
      refine ⟨c, l, ?_, Sy.refl c, LL.refl l, hc⟩
      rw [q_249_12]
      simp (disch := omega) only [iv_add, iv_sub, iv_mul, iv_neg, iv_lt, iv_le, iv_eq, iv_nat, iv_L, iv_L2, am_bi_v, am_bv_v, am_bl_v, if_pos, if_neg, Int.toNat_natCast, Int.toNat_add, Int.toNat_mul, Int.reduceToNat]
      rfl
    | succ m ih =>
      intro i v s c l hi h2 hvi hs hc hR
      obtain ⟨c2, l2, g1, g2, g3, g4, g5⟩ := e250 (x := x) (y := y) hR hs hc (d + 5)
      have hR2 := Sy_RR g2 (LL_RR g3 hR)
      have hl : (lotK K s).1.length = nB K := lotS_len _ _ _
      obtain ⟨c4, j1, j2⟩ := e247 (x := x) (y := y) hR2 g4 hl (lotK_lt K s) d
      have hR4 := Sx_RR j2 hR2
      have hr := rul_lt K F (fstW K (lotK K s).1)
      rw [q_249_12]
      simp (disch := omega) only [iv_add, iv_sub, iv_mul, iv_neg, iv_lt, iv_le, iv_eq, iv_nat, iv_L, iv_L2, am_bi_v, am_bv_v, am_bl_v, if_pos, if_neg, Int.toNat_natCast, Int.toNat_add, Int.toNat_mul, Int.reduceToNat]
      rw [g1]
      simp only [am_bv_v]
      rw [j1]
      simp only [am_bi_v]
      rw [e216 hR4]
      simp (disch := omega) only [iv_add, iv_sub, iv_mul, iv_neg, iv_lt, iv_le, iv_eq, iv_nat, iv_L, iv_L2, am_bi_v, am_bv_v, am_bl_v, if_pos, if_neg, Int.toNat_natCast, Int.toNat_add, Int.toNat_mul, Int.reduceToNat]
      show ∃ (c2 : Nat → Nat → Nat → Int32) (l2 : Nat → Nat → Int64), _ = some (some (vi (iv ((v + ((if rul K F (fstW K (lotK K s).1) = tru K then 1 else 0) + (lotsS K F m (lotK K s).2).1) : Nat) : Int))), c2, l2, x, y) ∧ _ ∧ _ ∧ l2 48 57 = jv (lotsS K F m (lotK K s).2).2
      by_cases e : rul K F (fstW K (lotK K s).1) = tru K
      · obtain ⟨c3, l3, k1, k2, k3, k4⟩ := ih (i + 1) (v + 1) (lotK K s).2 c4 l2 (by omega) h2 (by omega) (lotS_bd _ _ _ hs) g5 hR4
        refine ⟨c3, l3, ?_, (g2.tr (Sx_Sy j2)).tr k2, g3.tr k3, k4⟩
        rw [if_pos (by omega), if_pos e, ← Nat.add_assoc]
        exact k1
      · obtain ⟨c3, l3, k1, k2, k3, k4⟩ := ih (i + 1) v (lotK K s).2 c4 l2 (by omega) h2 (by omega) (lotS_bd _ _ _ hs) g5 hR4
        refine ⟨c3, l3, ?_, (g2.tr (Sx_Sy j2)).tr k2, g3.tr k3, k4⟩
        rw [if_neg (by omega), if_neg e, Nat.zero_add]
        exact k1
  rw [q_249]
  simp (disch := omega) only [jv_of, jv_L, e171, am_bi_v]
  unfold lotsR
  by_cases e : 1 ≤ z ∧ z ≤ 200
  · obtain ⟨c2, l2, g1, g2, g3, g4⟩ := key z.toNat 0 0 sd c l (by omega) e.2 (Nat.le_refl _) hsd h.2.2.2.2.2.1 h.1
    rw [if_pos e, if_neg (show ¬ (iv 1 = 0) by decide), if_pos e]
    rw [Nat.zero_add] at g1
    exact ⟨c2, l2, g1, g2, g3, g4⟩
  · rw [if_neg e, if_pos (show iv 0 = 0 by decide), if_neg e]
    exact ⟨c, l, rfl, Sy.refl c, LL.refl l, h.2.2.2.2.2.1⟩
end
