/-! the class: at the inn -/
section
variable {c : Nat → Nat → Nat → Int32} {l : Nat → Nat → Int64} {x y : Nat} {K : Ct} {F : Nat} {row : List (Nat × Nat)} {tp : Nat → Nat} {n : Nat} {fa fp : Int} {rf : Nat → Int32} {sd : Int} {oc : List Nat}
theorem enc_eq (hK : VK K) {o : Option Sj} (ho : WO K o) : (iv (encO K o) = (-1 : Int32)) = (o = none) := by
  apply propext
  constructor
  · intro q
    cases o with
    | none => rfl
    | some s => exact absurd q (enc_ne hK ho (by simp))
  · intro q; rw [q]; rfl
theorem e8 (a : Nat) (ha : a < nB K) : ∀ (m i f : Nat) (pw pa : List Nat) (H : Nat → Nat) (c : Nat → Nat → Nat → Int32), i + m = nB K → m + 6 ≤ f → (∀ w ∈ pw, w < nW K) → (∀ w ∈ pa, w < nW K) → JR c x K F → (∀ r, r < 3 → c 41 r a = iv (H r : Nat)) → ∃ c2 : Nat → Nat → Nat → Int32, E f 8 [vr 36 0, vi (iv (i : Nat)), vi (iv (a : Nat)), vi (iv (encO K (hearA K F pw))), vi (iv (encO K (hearA K F pa)))] (c, l, x, y) = some (none, c2, l, x, y) ∧ (∀ k, k ≠ 41 → c2 k = c k) ∧ (∀ r b, b ≠ a → c2 41 r b = c 41 r b) ∧ ∀ r, r < 3 → c2 41 r a = iv ((H r + cntC ((cts K).drop i) (fun t => rul K F (pw ++ rowF K i t) == r && rul K F (pa ++ rowA K a i t) != r) : Nat) : Int) := by
  intro m
  induction m with
  | zero =>
    intro i f pw pa H c hi hf hpw hpa hJ hH
    have hn := hJ.2.1.2.2.2.1.1
    have hW1 := WO_hearA (F := F) hJ.2.1 pw hpw
    have hW2 := WO_hearA (F := F) hJ.2.1 pa hpa
    have hdr : (cts K).drop i = [] := List.drop_of_length_le (by rw [cts_len]; omega)
    obtain ⟨g, rfl⟩ : ∃ g, f = g + 5 := ⟨f - 5, by omega⟩
    have hr1 := rul_lt K F pw
    have hr2 := rul_lt K F pa
    have hleaf : ∀ r, cntC ((cts K).drop i) (fun t => rul K F (pw ++ rowF K i t) == r && rul K F (pa ++ rowA K a i t) != r) = (rul K F pw == r && rul K F pa != r).toNat := by
      intro r
      rw [hdr, cntC_nil, show rowF K i [] = [] from rfl, show rowA K a i [] = [] from rfl, List.append_nil, List.append_nil]
    have leaf : ∃ c2 : Nat → Nat → Nat → Int32, X (g + 5) 8 7 [some (vr 36 0), some (vi (iv (i : Nat))), some (vi (iv (a : Nat))), some (vi (iv (encO K (hearA K F pw)))), some (vi (iv (encO K (hearA K F pa)))), none, none, none] [] (c, l, x, y) = some (none, c2, l, x, y) ∧ (∀ k, k ≠ 41 → c2 k = c k) ∧ (∀ r b, b ≠ a → c2 41 r b = c 41 r b) ∧ ∀ r, r < 3 → c2 41 r a = iv ((H r + cntC ((cts K).drop i) (fun t => rul K F (pw ++ rowF K i t) == r && rul K F (pa ++ rowA K a i t) != r) : Nat) : Int) := by
      refine ⟨am_ui c 41 (rul K F pw) a (iv ((H (rul K F pw) : Nat) + (if rul K F pw = rul K F pa then (0 : Int) else 1))), ?_, fun k hk => ui_nk _ _ _ _ hk, fun r b hb => ui_ne _ _ _ _ (by omega), ?_⟩
      · rw [q_8_7]
        simp (disch := omega) only [iv_add, iv_sub, iv_mul, iv_neg, iv_lt, iv_le, iv_eq, iv_nat, iv_L, iv_L2, am_bi_v, am_bv_v, am_bl_v, if_pos, if_neg, Int.toNat_natCast, Int.toNat_add, Int.toNat_mul, Int.reduceToNat, hJ.1.2.2.2.1.1, e50 hJ hW1, e50 hJ hW2]
        show (if iv (rul K F pw : Nat) < 0 ∨ 3 ≤ (iv (rul K F pw : Nat)).toNatClampNeg then none else if iv (rul K F pw : Nat) = iv (rul K F pa : Nat) then some (none, am_ui c 41 (iv (rul K F pw : Nat)).toNatClampNeg a (c 41 (iv (rul K F pw : Nat)).toNatClampNeg a + iv 0), l, x, y) else some (none, am_ui c 41 (iv (rul K F pw : Nat)).toNatClampNeg a (c 41 (iv (rul K F pw : Nat)).toNatClampNeg a + iv 1), l, x, y)) = _
        simp (disch := omega) only [iv_add, iv_sub, iv_mul, iv_neg, iv_lt, iv_le, iv_eq, iv_nat, iv_L, iv_L2, am_bi_v, am_bv_v, am_bl_v, if_pos, if_neg, Int.toNat_natCast, Int.toNat_add, Int.toNat_mul, Int.reduceToNat, hH _ hr1]
        by_cases e : rul K F pw = rul K F pa
        · rw [if_pos (show ((rul K F pw : Nat) : Int) = (rul K F pa : Nat) by omega), if_pos e]
        · rw [if_neg (show ¬ (((rul K F pw : Nat) : Int) = (rul K F pa : Nat)) by omega), if_neg e]
      · intro r hr
        rw [hleaf]
        by_cases e : r = rul K F pw
        · subst e
          rw [ui_self, beq_self_eq_true, Bool.true_and]
          by_cases e2 : rul K F pw = rul K F pa
          · rw [if_pos e2, show (rul K F pa != rul K F pw) = false by rw [e2]; simp]; rfl
          · rw [if_neg e2, show (rul K F pa != rul K F pw) = true by simp [bne_iff_ne]; exact fun q => e2 q.symm]; rfl
        · rw [ui_ne _ _ _ _ (by omega), show (rul K F pw == r) = false by simp only [beq_eq_false_iff_ne]; omega]
          exact hH r hr
    rw [q_8]
    simp only [enc_eq hJ.2.1 hW1, enc_eq hJ.2.1 hW2]
    by_cases h1 : hearA K F pw = none
    · by_cases h2 : hearA K F pa = none
      · rw [if_pos h1, if_pos h2]
        refine ⟨c, rfl, fun _ _ => rfl, fun _ _ _ => rfl, ?_⟩
        intro r hr
        have hz1 : rul K F pw = 0 := by
          have := rul_dead (ws := []) h1
          rw [List.append_nil] at this; exact this
        have hz2 : rul K F pa = 0 := by
          have := rul_dead (ws := []) h2
          rw [List.append_nil] at this; exact this
        rw [hleaf, hz1, hz2, hH r hr]
        cases hb : (0 : Nat) == r
        · rfl
        · have := beq_iff_eq.mp hb
          subst this; rfl
      · rw [if_pos h1, if_neg h2]; exact leaf
    · rw [if_neg h1]; exact leaf
  | succ m ih =>
    intro i f pw pa H c hi hf hpw hpa hJ hH
    have hn := hJ.2.1.2.2.2.1.1
    have hib : i < nB K := by omega
    have hv := hJ.2.1.2.2.2.1.2 i hib
    have hdr := cts_drop hib
    obtain ⟨g, rfl⟩ : ∃ g, f = g + 1 := ⟨f - 1, by omega⟩
    obtain ⟨g4, hg4⟩ : ∃ g4, g = g4 + 4 := ⟨g - 4, by omega⟩
    have hW1 := WO_hearA (F := F) hJ.2.1 pw hpw
    have hW2 := WO_hearA (F := F) hJ.2.1 pa hpa
    have loop : ∀ (j k : Nat) (c : Nat → Nat → Nat → Int32), k + j = (sayK K i).length → JR c x K F → (∀ r, r < 3 → c 41 r a = iv ((H r + sumN k (fun k => cntC ((cts K).drop (i + 1)) (fun t => rul K F (pw ++ rowF K i (k :: t)) == r && rul K F (pa ++ rowA K a i (k :: t)) != r)) : Nat) : Int)) → ∃ c2 : Nat → Nat → Nat → Int32, X (g + 1) 8 46 [some (vr 36 0), some (vi (iv (i : Nat))), some (vi (iv (a : Nat))), some (vi (iv (encO K (hearA K F pw)))), some (vi (iv (encO K (hearA K F pa)))), some (vr 18 (i + x * 7)), some (vi (iv (k : Nat))), none] [] (c, l, x, y) = some (none, c2, l, x, y) ∧ (∀ k, k ≠ 41 → c2 k = c k) ∧ (∀ r b, b ≠ a → c2 41 r b = c 41 r b) ∧ ∀ r, r < 3 → c2 41 r a = iv ((H r + sumN (sayK K i).length (fun k => cntC ((cts K).drop (i + 1)) (fun t => rul K F (pw ++ rowF K i (k :: t)) == r && rul K F (pa ++ rowA K a i (k :: t)) != r)) : Nat) : Int) := by
      intro j
      induction j with
      | zero =>
        intro k c hk hJ hH
        rw [show k = (sayK K i).length by omega] at hH ⊢
        refine ⟨c, ?_, fun _ _ => rfl, fun _ _ _ => rfl, hH⟩
        rw [q_8_46]
        simp (disch := omega) only [iv_add, iv_sub, iv_mul, iv_neg, iv_lt, iv_le, iv_eq, iv_nat, iv_L, iv_L2, am_bi_v, am_bv_v, am_bl_v, if_pos, if_neg, Int.toNat_natCast, Int.toNat_add, Int.toNat_mul, Int.reduceToNat, (hJ.1.2.2.2.1.2 i hib).1]
      | succ j ihj =>
        intro k c hk hJ hH
        have hw := say_lt hJ.2.1 hib _ (getD_mem (show k < (sayK K i).length by omega))
        have h40 := e40 (l := l) (y := y) hJ hW1 hw g4
        have h41 := e40 (l := l) (y := y) hJ hW2 hw g4
        rw [← hg4, ← hearA_snoc] at h40 h41
        have hpw2 : ∀ q ∈ pw ++ [(sayK K i).getD k 0], q < nW K := by
          intro q hq
          rcases List.mem_append.mp hq with h | h
          · exact hpw q h
          · rw [List.mem_singleton.mp h]; exact hw
        have hpa2 : ∀ q ∈ pa ++ [(sayK K i).getD k 0], q < nW K := by
          intro q hq
          rcases List.mem_append.mp hq with h | h
          · exact hpa q h
          · rw [List.mem_singleton.mp h]; exact hw
        have go : ∃ c2 : Nat → Nat → Nat → Int32, E g 8 [vr 36 0, vi (iv ((i : Int) + 1)), vi (iv (a : Nat)), vi (iv (encO K (hearA K F (pw ++ [(sayK K i).getD k 0])))), vi (iv (encO K (hearA K F (if i = a then pa else pa ++ [(sayK K i).getD k 0]))))] (c, l, x, y) = some (none, c2, l, x, y) ∧ (∀ k, k ≠ 41 → c2 k = c k) ∧ (∀ r b, b ≠ a → c2 41 r b = c 41 r b) ∧ ∀ r, r < 3 → c2 41 r a = iv ((H r + sumN (k + 1) (fun k => cntC ((cts K).drop (i + 1)) (fun t => rul K F (pw ++ rowF K i (k :: t)) == r && rul K F (pa ++ rowA K a i (k :: t)) != r)) : Nat) : Int) := by
          obtain ⟨c2, k1, k2, k3, k4⟩ := ih (i + 1) g (pw ++ [(sayK K i).getD k 0]) (if i = a then pa else pa ++ [(sayK K i).getD k 0]) (fun r => H r + sumN k (fun k => cntC ((cts K).drop (i + 1)) (fun t => rul K F (pw ++ rowF K i (k :: t)) == r && rul K F (pa ++ rowA K a i (k :: t)) != r))) c (by omega) (by omega) hpw2 (by split; exact hpa; exact hpa2) hJ hH
          refine ⟨c2, ?_, k2, k3, ?_⟩
          · rw [show ((i : Int) + 1) = ((i + 1 : Nat) : Int) by omega]
            exact k1
          · intro r hr
            rw [k4 r hr]
            show iv ((H r + sumN k _ + _ : Nat) : Int) = iv ((H r + (sumN k _ + _) : Nat) : Int)
            rw [Nat.add_assoc]
            congr 4
            refine cntC_congr _ (fun t => ?_)
            rw [List.append_assoc]
            congr 2
            show rul K F _ = rul K F (pa ++ (if i = a then _ else _))
            by_cases e : i = a
            · rw [if_pos e, if_pos e]
            · rw [if_neg e, if_neg e, List.append_assoc]; rfl
        obtain ⟨c2, k1, k2, k3, k4⟩ := go
        obtain ⟨c3, j1, j2, j3, j4⟩ := ihj (k + 1) c2 (by omega) (JR_fr hJ (fun q _ _ => k2 q (by omega))) k4
        refine ⟨c3, ?_, fun q hq => (j2 q hq).trans (k2 q hq), fun r b hb => (j3 r b hb).trans (k3 r b hb), j4⟩
        rw [q_8_46]
        simp (disch := omega) only [iv_add, iv_sub, iv_mul, iv_neg, iv_lt, iv_le, iv_eq, iv_nat, iv_L, iv_L2, am_bi_v, am_bv_v, am_bl_v, if_pos, if_neg, Int.toNat_natCast, Int.toNat_add, Int.toNat_mul, Int.reduceToNat, (hJ.1.2.2.2.1.2 i hib).1, (hJ.1.2.2.2.1.2 i hib).2.2.2.2 k (show k < (sayK K i).length by omega)]
        rw [h40]
        simp only [am_bi_v]
        by_cases e : i = a
        · rw [if_pos e] at k1
          rw [if_pos (show (i : Int) = a by omega), k1]
          simp only [am_bv_v]
          exact j1
        · rw [if_neg e] at k1
          rw [if_neg (show ¬ ((i : Int) = a) by omega), h41]
          simp only [am_bi_v]
          rw [k1]
          simp only [am_bv_v]
          exact j1
    have fin : ∃ c2 : Nat → Nat → Nat → Int32, X (g + 1) 8 7 [some (vr 36 0), some (vi (iv (i : Nat))), some (vi (iv (a : Nat))), some (vi (iv (encO K (hearA K F pw)))), some (vi (iv (encO K (hearA K F pa)))), none, none, none] [] (c, l, x, y) = some (none, c2, l, x, y) ∧ (∀ k, k ≠ 41 → c2 k = c k) ∧ (∀ r b, b ≠ a → c2 41 r b = c 41 r b) ∧ ∀ r, r < 3 → c2 41 r a = iv ((H r + cntC ((cts K).drop i) (fun t => rul K F (pw ++ rowF K i t) == r && rul K F (pa ++ rowA K a i t) != r) : Nat) : Int) := by
      obtain ⟨c2, g1, g2, g3, g4⟩ := loop (sayK K i).length 0 c (Nat.zero_add _) hJ hH
      refine ⟨c2, ?_, g2, g3, ?_⟩
      · rw [q_8_7]
        simp (disch := omega) only [iv_add, iv_sub, iv_mul, iv_neg, iv_lt, iv_le, iv_eq, iv_nat, iv_L, iv_L2, am_bi_v, am_bv_v, am_bl_v, if_pos, if_neg, Int.toNat_natCast, Int.toNat_add, Int.toNat_mul, Int.reduceToNat, hJ.1.2.2.2.1.1]
        exact g1
      · rw [hdr]; exact g4
    rw [q_8]
    simp only [enc_eq hJ.2.1 hW1, enc_eq hJ.2.1 hW2]
    by_cases h1 : hearA K F pw = none
    · by_cases h2 : hearA K F pa = none
      · rw [if_pos h1, if_pos h2]
        refine ⟨c, rfl, fun _ _ => rfl, fun _ _ _ => rfl, ?_⟩
        intro r hr
        rw [hH r hr, cntC_false]
        · rfl
        · intro t
          rw [rul_dead h1, rul_dead h2]
          cases hb : (0 : Nat) == r
          · rfl
          · have := beq_iff_eq.mp hb
            subst this; rfl
      · rw [if_pos h1, if_neg h2]; exact fin
    · rw [if_neg h1]; exact fin
theorem e7 (h : JR c x K F) (hC : ChC c K F) {f : Nat} (hf : 20 ≤ f) {r b : Nat} (hr : r < 3) (hb : b < nB K) : ∃ c2 : Nat → Nat → Nat → Int32, E f 7 [vr 36 0, vi (iv r), vi (iv b)] (c, l, x, y) = some (some (vi (iv (hangS K F r b : Nat))), c2, l, x, y) ∧ CF c c2 ∧ ChC c2 K F := by
  obtain ⟨d, rfl⟩ : ∃ d, f = d + 1 := ⟨f - 1, by omega⟩
  have hn := h.2.1.2.2.2.1.1
  rw [q_7]
  simp (disch := omega) only [iv_add, iv_sub, iv_mul, iv_neg, iv_lt, iv_le, iv_eq, iv_nat, iv_L, iv_L2, am_bi_v, am_bv_v, am_bl_v, if_pos, if_neg, Int.toNat_natCast, Int.toNat_add, Int.toNat_mul, Int.reduceToNat]
  by_cases e : c 43 0 b = iv 0
  · rw [if_pos e]
    have outer : ∀ (m q : Nat) (c : Nat → Nat → Nat → Int32), q + m = 3 → (∀ p, p < q → c 41 p b = iv 0) → ∃ c2 : Nat → Nat → Nat → Int32, X (d + 1) 7 12 [some (vr 36 0), some (vi (iv r)), some (vi (iv b)), some (vi (iv (q : Nat)))] [] (c, l, x, y) = X (d + 1) 7 12 [some (vr 36 0), some (vi (iv r)), some (vi (iv b)), some (vi (iv 3))] [] (c2, l, x, y) ∧ (∀ k, k ≠ 41 → c2 k = c k) ∧ (∀ r a, a ≠ b → c2 41 r a = c 41 r a) ∧ ∀ p, p < 3 → c2 41 p b = iv 0 := by
      intro m
      induction m with
      | zero =>
        intro q c hq hz
        rw [show q = 3 by omega] at hz ⊢
        exact ⟨c, rfl, fun _ _ => rfl, fun _ _ _ => rfl, hz⟩
      | succ m ih =>
        intro q c hq hz
        obtain ⟨c2, g1, g2, g3, g4⟩ := ih (q + 1) (am_ui c 41 q b (iv 0)) (by omega) (by
          intro p hp
          by_cases e : p = q
          · subst e; exact ui_self ..
          · rw [ui_ne _ _ _ _ (by omega)]; exact hz p (by omega))
        refine ⟨c2, ?_, fun k hk => (g2 k hk).trans (ui_nk _ _ _ _ hk), fun r a ha => (g3 r a ha).trans (ui_ne _ _ _ _ (by omega)), g4⟩
        rw [q_7_12]
        simp (disch := omega) only [iv_add, iv_sub, iv_mul, iv_neg, iv_lt, iv_le, iv_eq, iv_nat, iv_L, iv_L2, am_bi_v, am_bv_v, am_bl_v, if_pos, if_neg, Int.toNat_natCast, Int.toNat_add, Int.toNat_mul, Int.reduceToNat]
        exact g1
    obtain ⟨c2, g1, g2, g3, g4⟩ := outer 3 0 (am_ui c 43 0 b (iv 1)) (by omega) (fun q hq => absurd hq (Nat.not_lt_zero q))
    have hJ2 : JR c2 x K F := JR_fr h (fun k _ _ => (g2 k (by omega)).trans (ui_nk _ _ _ _ (by omega)))
    obtain ⟨c3, k1, k2, k3, k4⟩ := e8 (l := l) (y := y) b hb (nB K) 0 d [] [] (fun _ => 0) c2 (Nat.zero_add _) (by omega) (fun k hk => by cases hk) (fun k hk => by cases hk) hJ2 (fun r hr => g4 r hr)
    rw [enc_start] at k1
    have hk4 : ∀ r, r < 3 → c3 41 r b = iv (hangS K F r b : Nat) := by
      intro r hr
      rw [k4 r hr, List.drop_zero]
      show iv ((0 + _ : Nat) : Int) = _
      rw [Nat.zero_add]; rfl
    refine ⟨c3, ?_, ?_, ⟨fun h36 r hr => ?_, ?_⟩⟩
    · refine g1.trans ?_
      rw [q_7_12]
      simp (disch := omega) only [iv_add, iv_sub, iv_mul, iv_neg, iv_lt, iv_le, iv_eq, iv_nat, iv_L, iv_L2, am_bi_v, am_bv_v, am_bl_v, if_pos, if_neg, Int.toNat_natCast, Int.toNat_add, Int.toNat_mul, Int.reduceToNat]
      show am_bv (E d 8 [vr 36 0, vi (iv ((0 : Nat) : Int)), vi (iv b), vi (iv 32768), vi (iv 32768)] (c2, l, x, y)) _ = _
      rw [k1]
      simp only [am_bv_v]
      rw [hk4 r hr]
    · intro k hk
      rw [k2 k (by omega), g2 k (by omega), ui_nk _ _ _ _ (by omega)]
    · rw [k2 36 (by omega), g2 36 (by omega), ui_nk _ _ _ _ (by omega)] at h36
      rw [k2 37 (by omega), g2 37 (by omega), ui_nk _ _ _ _ (by omega), k2 39 (by omega), g2 39 (by omega), ui_nk _ _ _ _ (by omega)]
      exact hC.1 h36 r hr
    · intro b2 hb2 h43 r hr
      by_cases e2 : b2 = b
      · subst e2; exact hk4 r hr
      · rw [k2 43 (by omega), g2 43 (by omega), ui_ne _ _ _ _ (by omega)] at h43
        rw [k3 r b2 e2, g3 r b2 e2, ui_nk _ _ _ _ (by omega)]
        exact hC.2 b2 hb2 h43 r hr
  · rw [if_neg e, hC.2 b hb e r hr]
    exact ⟨c, rfl, CF.refl c, hC⟩
theorem k141 (h : JR c x K F) (hC : ChC c K F) {z b : Int} (hz : -2147483648 ≤ z ∧ z < 2147483648) (hb : -2147483648 ≤ b ∧ b < 2147483648) (d : Nat) : ∃ c2 : Nat → Nat → Nat → Int32, E (d + 22) 141 [vr 0 0, vi (iv z), vi (iv b)] (c, l, x, y) = some (some (vi (iv (innS K F z b))), c2, l, x, y) ∧ CF c c2 ∧ ChC c2 K F := by
  rw [q_141, e134 hz]
  simp only [am_bi_v]
  unfold innS
  by_cases e : 0 ≤ z ∧ z ≤ 2
  · rw [if_pos e, if_neg (show ¬ (iv 1 = 0) by decide), e19 h hb]
    simp only [am_bi_v]
    by_cases e2 : 0 ≤ b ∧ b < nB K
    · obtain ⟨r, rfl⟩ := Int.eq_ofNat_of_zero_le e.1
      obtain ⟨b, rfl⟩ := Int.eq_ofNat_of_zero_le e2.1
      obtain ⟨c2, g1, g2, g3⟩ := e7 (l := l) (y := y) h hC (f := d + 21) (by omega) (r := r) (b := b) (by omega) (by omega)
      refine ⟨c2, ?_, g2, g3⟩
      rw [if_pos e2, if_neg (show ¬ (iv 1 = 0) by decide), if_pos (show (0 ≤ (r : Int) ∧ (r : Int) ≤ 2) ∧ 0 ≤ (b : Int) ∧ (b : Int) < nB K from ⟨e, e2⟩), g1]
      rfl
    · refine ⟨c, ?_, CF.refl c, hC⟩
      rw [if_neg e2, if_pos (show iv 0 = 0 by decide), if_neg (show ¬ ((0 ≤ z ∧ z ≤ 2) ∧ 0 ≤ b ∧ b < nB K) from fun q => e2 q.2)]
      rfl
  · refine ⟨c, ?_, CF.refl c, hC⟩
    rw [if_neg e, if_pos (show iv 0 = 0 by decide), if_neg (show ¬ ((0 ≤ z ∧ z ≤ 2) ∧ 0 ≤ b ∧ b < nB K) from fun q => e q.1)]
    rfl
end
