/-! the reference: odds, parts, at the inn -/
/-- the row that comes of it, with one witness (or none, -1) away -/
def skR (K : Ct) (sk : Int) : Nat → List Nat → List Nat
  | _, [] => []
  | i, k :: t => if (i : Int) = sk then skR K sk (i + 1) t else (sayK K i).getD k 0 :: skR K sk (i + 1) t
section
variable {c : Nat → Nat → Nat → Int32} {l : Nat → Nat → Int64} {x y : Nat} {K : Ct} {F : Nat} {row : List (Nat × Nat)} {tp : Nat → Nat} {n : Nat} {fa fp : Int} {rf : Nat → Int32} {sd : Int} {oc : List Nat}
theorem skR_none : ∀ (t : List Nat) (i : Nat), skR K (-1) i t = rowF K i t
  | [], _ => rfl
  | k :: t, i => by
    unfold skR rowF
    rw [if_neg (by omega), skR_none t (i + 1)]
theorem skR_one (a : Nat) : ∀ (t : List Nat) (i : Nat), skR K (a : Int) i t = rowA K a i t
  | [], _ => rfl
  | k :: t, i => by
    unfold skR rowA
    by_cases e : i = a
    · rw [if_pos (by omega), if_pos e, skR_one a t (i + 1)]
    · rw [if_neg (by omega), if_neg e, skR_one a t (i + 1)]
theorem skR_snoc (sk : Int) (k : Nat) : ∀ (t : List Nat) (i : Nat), skR K sk i (t ++ [k]) = skR K sk i t ++ (if ((i + t.length : Nat) : Int) = sk then [] else [(sayK K (i + t.length)).getD k 0])
  | [], i => by
    show skR K sk i [k] = [] ++ (if ((i + 0 : Nat) : Int) = sk then [] else [(sayK K (i + 0)).getD k 0])
    unfold skR
    rw [Nat.add_zero, List.nil_append]
    rfl
  | j :: t, i => by
    rw [List.cons_append]
    unfold skR
    rw [skR_snoc sk k t (i + 1), List.length_cons, show i + 1 + t.length = i + (t.length + 1) by omega]
    by_cases e : (i : Int) = sk
    · rw [if_pos e, if_pos e]
    · rw [if_neg e, if_neg e]; rfl
theorem skR_len (sk : Int) : ∀ (t : List Nat) (i : Nat), (skR K sk i t).length ≤ t.length
  | [], _ => Nat.le_refl _
  | k :: t, i => by
    unfold skR
    have := skR_len sk t (i + 1)
    split
    · rw [List.length_cons]; omega
    · rw [List.length_cons, List.length_cons]; omega
theorem skR_lt (hK : VK K) (sk : Int) : ∀ (t : List Nat) (i : Nat), i + t.length ≤ nB K → (∀ j, j < t.length → t.getD j 0 < (sayK K (i + j)).length) → ∀ w ∈ skR K sk i t, w < nW K
  | [], _, _, _, w, hw => by cases hw
  | k :: t, i, h, hk, w, hw => by
    rw [List.length_cons] at h
    have h1 := skR_lt hK sk t (i + 1) (by omega) (fun j hj => by
      have := hk (j + 1) (by rw [List.length_cons]; omega)
      rw [show i + 1 + j = i + (j + 1) by omega]
      exact this)
    have h2 := hk 0 (by rw [List.length_cons]; omega)
    unfold skR at hw
    split at hw
    · exact h1 w hw
    · rcases List.mem_cons.mp hw with rfl | q
      · exact say_lt hK (by omega) _ (getD_mem h2)
      · exact h1 w q
theorem dgs_len : ∀ (cs : List Nat) (w : Nat), (dgs cs w).length = cs.length
  | [], _ => rfl
  | a :: cs, w => by
    show (_ :: dgs cs (w / a)).length = _
    rw [List.length_cons, List.length_cons, dgs_len]
theorem dgs_lt : ∀ (cs : List Nat) (w i : Nat), (∀ a ∈ cs, 0 < a) → i < cs.length → (dgs cs w).getD i 0 < cs.getD i 0
  | [], _, i, _, h => absurd h (Nat.not_lt_zero i)
  | a :: cs, w, 0, h, _ => Nat.mod_lt _ (h a List.mem_cons_self)
  | a :: cs, w, i + 1, h, hi => dgs_lt cs (w / a) i (fun b hb => h b (List.mem_cons_of_mem _ hb)) (by rw [List.length_cons] at hi; omega)
theorem e253 (h : RR c l K F) (d : Nat) : E (d + 2) 253 [vr 48 0] (c, l, x, y) = some (some (vi (iv (prodN (cts K) : Nat))), c, l, x, y) := by
  have hn := h.2.1.2.2.2.1.1
  have key : ∀ (m i v : Nat), i + m = nB K → X (d + 2) 253 4 [some (vr 48 0), some (vi (iv (v : Nat))), some (vi (iv (i : Nat)))] [] (c, l, x, y) = some (some (vi (iv ((v * prodN ((cts K).drop i) : Nat) : Int))), c, l, x, y) := by
    intro m
    induction m with
    | zero =>
      intro i v hi
      rw [q_253_4, e185 h, List.drop_of_length_le (by rw [cts_len]; omega)]
      simp (disch := omega) only [iv_add, iv_sub, iv_mul, iv_neg, iv_lt, iv_le, iv_eq, iv_nat, iv_L, iv_L2, am_bi_v, am_bv_v, am_bl_v, if_pos, if_neg, Int.toNat_natCast, Int.toNat_add, Int.toNat_mul, Int.reduceToNat]
      rw [show prodN [] = 1 from rfl, Nat.mul_one]
    | succ m ih =>
      intro i v hi
      rw [q_253_4, e185 h, cts_drop (by omega)]
      simp (disch := omega) only [iv_add, iv_sub, iv_mul, iv_neg, iv_lt, iv_le, iv_eq, iv_nat, iv_L, iv_L2, am_bi_v, am_bv_v, am_bl_v, if_pos, if_neg, Int.toNat_natCast, Int.toNat_add, Int.toNat_mul, Int.reduceToNat]
      rw [e187 h (by omega)]
      simp only [am_bi_v, iv_mul]
      rw [show prodN ((sayK K i).length :: (cts K).drop (i + 1)) = (sayK K i).length * prodN ((cts K).drop (i + 1)) from rfl, ← Nat.mul_assoc, ← ih (i + 1) (v * (sayK K i).length) (by omega), Int.natCast_mul]
      rfl
  rw [q_253]
  refine (key (nB K) 0 1 (Nat.zero_add _)).trans ?_
  rw [Nat.one_mul, List.drop_zero]
theorem e254 (h : RR c l K F) {w : Nat} (hw : w < 100000) (d : Nat) : ∃ c2 : Nat → Nat → Nat → Int32, E (d + 2) 254 [vr 48 0, vi (iv (w : Nat))] (c, l, x, y) = some (none, c2, l, x, y) ∧ Sy c c2 ∧ RowAt c2 89 0 (dgs (cts K) w) := by
  have hn := h.2.1.2.2.2.1.1
  have key : ∀ (m i w : Nat) (c : Nat → Nat → Nat → Int32), i + m = nB K → w < 100000 → RR c l K F → ∃ c2 : Nat → Nat → Nat → Int32, X (d + 2) 254 4 [some (vr 48 0), none, some (vi (iv (w : Nat))), some (vi (iv (i : Nat)))] [] (c, l, x, y) = some (none, c2, l, x, y) ∧ Sy c c2 ∧ (∀ j, j < i → c2 89 0 j = c 89 0 j) ∧ ∀ j, j < m → c2 89 0 (i + j) = iv ((dgs ((cts K).drop i) w).getD j 0 : Nat) := by
    intro m
    induction m with
    | zero =>
      intro i w c hi hw hR
      refine ⟨c, ?_, Sy.refl c, fun _ _ => rfl, fun j hj => absurd hj (Nat.not_lt_zero j)⟩
      rw [q_254_4, e185 hR]
      simp (disch := omega) only [iv_add, iv_sub, iv_mul, iv_neg, iv_lt, iv_le, iv_eq, iv_nat, iv_L, iv_L2, am_bi_v, am_bv_v, am_bl_v, if_pos, if_neg, Int.toNat_natCast, Int.toNat_add, Int.toNat_mul, Int.reduceToNat]
    | succ m ih =>
      intro i w c hi hw hR
      have hv := hR.2.1.2.2.2.1.2 i (by omega)
      have hS : Sy c (am_ui c 89 0 i (iv ((w % (sayK K i).length : Nat) : Int))) := Sy.ui _ _ _ _ (by omega)
      have hdv := Nat.div_le_self w (sayK K i).length
      obtain ⟨c2, g1, g2, g3, g4⟩ := ih (i + 1) (w / (sayK K i).length) (am_ui c 89 0 i (iv ((w % (sayK K i).length : Nat) : Int))) (by omega) (by omega) (Sy_RR hS hR)
      refine ⟨c2, ?_, hS.tr g2, fun j hj => by rw [g3 j (by omega), ui_ne _ _ _ _ (by omega)], ?_⟩
      · rw [q_254_4, e185 hR]
        simp only [am_bi_v]
        have hlt : (iv (i : Int) < iv (nB K : Int)) = True := by
          rw [iv_lt (by omega) (by omega)]; exact eq_true (by omega)
        have hne : (iv ((sayK K i).length : Int) = 0) = False := by
          rw [iv_L.1, iv_eq (by omega) (by omega)]; exact eq_false (by omega)
        simp only [hlt, if_true]
        rw [e187 hR (by omega)]
        simp only [am_bi_v, hne, if_false]
        rw [iv_mod (by omega) (by omega), ← Int.natCast_emod]
        have hg : ¬ (iv (i : Int) < 0 ∨ 7 ≤ (iv (i : Int)).toNatClampNeg) := by
          rw [iv_nat (by omega), iv_L.1, iv_lt (by omega) (by omega)]; omega
        rw [if_neg hg, iv_nat (by omega), Int.toNat_natCast, e187 (Sy_RR hS hR) (by omega)]
        simp only [am_bi_v, hne, if_false]
        rw [iv_div (by omega) (by omega), ← Int.natCast_ediv, iv_L.2.1, iv_add]
        exact g1
      · intro j hj
        rw [cts_drop (by omega)]
        cases j with
        | zero =>
          rw [Nat.add_zero, g3 i (by omega), ui_self]
          rfl
        | succ j =>
          rw [show i + (j + 1) = i + 1 + j by omega, g4 j (by omega)]
          rfl
  rw [q_254]
  obtain ⟨c2, g1, g2, g3, g4⟩ := key (nB K) 0 w c (Nat.zero_add _) hw h
  refine ⟨c2, g1, g2, fun j hj => ?_⟩
  rw [dgs_len, cts_len] at hj
  have := g4 j hj
  rw [Nat.zero_add, List.drop_zero] at this
  exact this
theorem e255 (h : RR c l K F) {ch : List Nat} (hc : RowAt c 89 0 ch) (hl : ch.length = nB K) (hk : ∀ j, j < ch.length → ch.getD j 0 < (sayK K j).length) {sk : Int} (hsk : -1 ≤ sk ∧ sk < 1000) (d : Nat) : ∃ c2 : Nat → Nat → Nat → Int32, E (d + 7) 255 [vr 48 0, vi (iv sk)] (c, l, x, y) = some (some (vi (iv (rul K F (skR K sk 0 ch) : Nat))), c2, l, x, y) ∧ Sx c c2 := by
  have hn := h.2.1.2.2.2.1.1
  have hfw := skR_lt h.2.1 sk ch 0 (by omega) (fun j hj => by rw [Nat.zero_add]; exact hk j hj)
  have hfl := skR_len (K := K) sk ch 0
  have key : ∀ (k i : Nat) (c : Nat → Nat → Nat → Int32), i + k = nB K → RR c l K F → RowAt c 89 0 ch → TR c (skR K sk 0 (ch.take i)) → ∃ c2 : Nat → Nat → Nat → Int32, X (d + 7) 255 5 [some (vr 48 0), some (vi (iv sk)), some (vi (iv (i : Nat)))] [] (c, l, x, y) = some (some (vi (iv (rul K F (skR K sk 0 ch) : Nat))), c2, l, x, y) ∧ Sx c c2 := by
    intro k
    induction k with
    | zero =>
      intro i c hi hR hA hT
      rw [List.take_of_length_le (by omega)] at hT
      obtain ⟨c2, g1, g2⟩ := e215 (x := x) (y := y) hR hT hfw (by omega) d
      refine ⟨c2, ?_, g2⟩
      rw [q_255_5, e185 hR]
      simp (disch := omega) only [iv_add, iv_sub, iv_mul, iv_neg, iv_lt, iv_le, iv_eq, iv_nat, iv_L, iv_L2, am_bi_v, am_bv_v, am_bl_v, if_pos, if_neg, Int.toNat_natCast, Int.toNat_add, Int.toNat_mul, Int.reduceToNat]
      rw [g1]
      rfl
    | succ k ih =>
      intro i c hi hR hA hT
      have hi2 : i < ch.length := by omega
      have hb := hk i hi2
      have hv := h.2.1.2.2.2.1.2 i (by omega)
      have hsn := skR_snoc (K := K) sk (ch.getD i 0) (ch.take i) 0
      rw [← take_succ_getD hi2, List.length_take, Nat.min_eq_left (by omega), Nat.zero_add] at hsn
      rw [q_255_5, e185 hR]
      simp (disch := omega) only [iv_add, iv_sub, iv_mul, iv_neg, iv_lt, iv_le, iv_eq, iv_nat, iv_L, iv_L2, am_bi_v, am_bv_v, am_bl_v, if_pos, if_neg, Int.toNat_natCast, Int.toNat_add, Int.toNat_mul, Int.reduceToNat, hA i hi2]
      by_cases e : (i : Int) = sk
      · rw [if_pos e, List.append_nil] at hsn
        rw [← hsn] at hT
        obtain ⟨c3, k1, k2⟩ := ih (i + 1) c (by omega) hR hA hT
        rw [if_pos e]
        exact ⟨c3, k1, k2⟩
      · rw [if_neg e] at hsn
        have hl2 := skR_len (K := K) sk (ch.take i) 0
        rw [List.length_take] at hl2
        obtain ⟨c2, g1, g2, g3⟩ := e203 (l := l) (x := x) (y := y) hT (by omega) ((sayK K i).getD (ch.getD i 0) 0) (d + 5)
        rw [← hsn] at g3
        obtain ⟨c3, k1, k2⟩ := ih (i + 1) c2 (by omega) (Sx_RR g2 hR) (RowAt_fr hA (g2.1 89 (by omega) (by omega))) g3
        refine ⟨c3, ?_, g2.tr k2⟩
        rw [if_neg e, e188 hR (by omega) hb]
        simp only [am_bi_v]
        rw [g1]
        simp only [am_bv_v]
        exact k1
  rw [q_255]
  have hS : Sx c (am_ui c 48 0 44 0) := Sx.ui _ _ _ _ (by omega)
  obtain ⟨c2, g1, g2⟩ := key (nB K) 0 (am_ui c 48 0 44 0) (Nat.zero_add _) (Sx_RR hS h) (RowAt_fr hc (hS.1 89 (by omega) (by omega))) ⟨by rw [ui_self]; rfl, fun k hk => absurd hk (by simp [skR])⟩
  exact ⟨c2, g1, hS.tr g2⟩
/-- one of the ways is laid -/
theorem way_at (h : RR c l K F) {w : Nat} (hw : w < prodN (cts K)) (d : Nat) : ∃ c2 : Nat → Nat → Nat → Int32, E (d + 2) 254 [vr 48 0, vi (iv (w : Nat))] (c, l, x, y) = some (none, c2, l, x, y) ∧ Sy c c2 ∧ RowAt c2 89 0 (dgs (cts K) w) ∧ (dgs (cts K) w).length = nB K ∧ ∀ j, j < (dgs (cts K) w).length → (dgs (cts K) w).getD j 0 < (sayK K j).length := by
  have hp := prod_cts h.2.1
  obtain ⟨c2, g1, g2, g3⟩ := e254 (x := x) (y := y) h (w := w) (by omega) d
  refine ⟨c2, g1, g2, g3, by rw [dgs_len, cts_len], fun j hj => ?_⟩
  rw [dgs_len] at hj
  have := dgs_lt (cts K) w j (fun a ha => (cts_pos h.2.1 a ha).1) hj
  rw [cts_len] at hj
  rw [cts_at hj] at this
  exact this
theorem dgs_all (hK : VK K) (p : List Nat → Bool) : (List.range (prodN (cts K))).countP (fun w => p (dgs (cts K) w)) = cntC (cts K) p := cntC_dgs _ p (fun a ha => (cts_pos hK a ha).1)
theorem m252 (h : RR c l K F) {z : Int} (hz : -2147483648 ≤ z ∧ z < 2147483648) (d : Nat) : ∃ c2 : Nat → Nat → Nat → Int32, E (d + 8) 252 [vr 48 0, vi (iv z)] (c, l, x, y) = some (some (vi (iv (oddS K F z))), c2, l, x, y) ∧ Sy c c2 := by
  have hp := prod_cts h.2.1
  rw [q_252]
  simp (disch := omega) only [jv_of, jv_L, e171, am_bi_v]
  unfold oddS
  by_cases e : 0 ≤ z ∧ z ≤ 2
  · obtain ⟨r, rfl⟩ := Int.eq_ofNat_of_zero_le e.1
    have key : ∀ (m w : Nat) (c : Nat → Nat → Nat → Int32), w + m = prodN (cts K) → RR c l K F → ∃ c2 : Nat → Nat → Nat → Int32, X (d + 8) 252 12 [some (vr 48 0), some (vi (iv (r : Nat))), some (vi (iv ((List.range w).countP (fun w => rul K F (rowF K 0 (dgs (cts K) w)) == r) : Nat))), some (vi (iv (w : Nat)))] [] (c, l, x, y) = some (some (vi (iv ((1000 * waysS K F r / prodN (cts K) : Nat) : Int))), c2, l, x, y) ∧ Sy c c2 := by
      intro m
      induction m with
      | zero =>
        intro w c hw hR
        refine ⟨c, ?_, Sy.refl c⟩
        have hcp : (List.range w).countP (fun w => rul K F (rowF K 0 (dgs (cts K) w)) == r) = waysS K F r := by
          rw [show w = prodN (cts K) by omega]
          exact dgs_all h.2.1 (fun t => rul K F (rowF K 0 t) == r)
        have hle := ways_le (F := F) h.2.1 r
        have h1000 : (1000 : Int32) = iv 1000 := rfl
        rw [q_252_12, e253 hR, hcp]
        simp only [am_bi_v]
        rw [show w = prodN (cts K) by omega, if_neg (by rw [iv_lt (by omega) (by omega)]; omega), e253 hR]
        simp only [am_bi_v]
        rw [if_neg (by rw [iv_L.1, iv_eq (by omega) (by omega)]; omega), h1000, iv_mul, iv_div (by omega) (by omega)]
        rfl
      | succ m ih =>
        intro w c hw hR
        obtain ⟨c2, g1, g2, g3, g4, g5⟩ := way_at (x := x) (y := y) hR (w := w) (by omega) (d + 5)
        obtain ⟨c3, j1, j2⟩ := e255 (x := x) (y := y) (Sy_RR g2 hR) g3 g4 g5 (sk := -1) (by omega) d
        rw [skR_none] at j1
        have hS := g2.tr (Sx_Sy j2)
        obtain ⟨c4, k1, k2⟩ := ih (w + 1) c3 (by omega) (Sy_RR hS hR)
        refine ⟨c4, ?_, hS.tr k2⟩
        have hrl := rul_lt K F (rowF K 0 (dgs (cts K) w))
        rw [q_252_12, e253 hR]
        simp only [am_bi_v]
        rw [if_pos (by rw [iv_lt (by omega) (by omega)]; omega), g1]
        simp only [am_bv_v]
        rw [show (-1 : Int32) = iv (-1) from rfl, j1]
        simp only [am_bi_v]
        rw [countP_succ] at k1
        by_cases e2 : rul K F (rowF K 0 (dgs (cts K) w)) = r
        · rw [if_pos (by rw [e2]), iv_L.2.1, iv_add, iv_add]
          rw [show (rul K F (rowF K 0 (dgs (cts K) w)) == r) = true by simp [e2], if_pos rfl] at k1
          exact k1
        · rw [if_neg (by rw [iv_eq (by omega) (by omega)]; omega), iv_L.2.1, iv_add]
          rw [show (rul K F (rowF K 0 (dgs (cts K) w)) == r) = false by simp [e2], if_neg (by simp)] at k1
          exact k1
    obtain ⟨c2, g1, g2⟩ := key (prodN (cts K)) 0 c (Nat.zero_add _) h
    refine ⟨c2, ?_, g2⟩
    rw [if_pos e, if_neg (show ¬ (iv 1 = 0) by decide), if_pos (show 0 ≤ (r : Int) ∧ (r : Int) ≤ 2 from e)]
    exact g1
  · refine ⟨c, ?_, Sy.refl c⟩
    rw [if_neg e, if_pos (show iv 0 = 0 by decide), if_neg e]
    rfl
end
