/-! the reference: parts, at the inn -/
section
variable {c : Nat → Nat → Nat → Int32} {l : Nat → Nat → Int64} {x y : Nat} {K : Ct} {F : Nat} {row : List (Nat × Nat)} {tp : Nat → Nat} {n : Nat} {fa fp : Int} {rf : Nat → Int32} {sd : Int} {oc : List Nat}
theorem m256 (h : RR c l K F) {z b k : Int} (hz : -2147483648 ≤ z ∧ z < 2147483648) (hb : -2147483648 ≤ b ∧ b < 2147483648) (hk : -2147483648 ≤ k ∧ k < 2147483648) (d : Nat) : ∃ c2 : Nat → Nat → Nat → Int32, E (d + 8) 256 [vr 48 0, vi (iv z), vi (iv b), vi (iv k)] (c, l, x, y) = some (some (vi (iv (partS K F z b k))), c2, l, x, y) ∧ Sy c c2 := by
  have hp := prod_cts h.2.1
  have hn := h.2.1.2.2.2.1.1
  rw [q_256]
  simp (disch := omega) only [jv_of, jv_L, e171, am_bi_v]
  unfold partS
  by_cases e : 0 ≤ z ∧ z ≤ 2
  · rw [if_pos e, if_neg (show ¬ (iv 1 = 0) by decide), e191 h hb]
    simp only [am_bi_v]
    by_cases eb : 0 ≤ b ∧ b < nB K
    · obtain ⟨r, rfl⟩ := Int.eq_ofNat_of_zero_le e.1
      obtain ⟨b, rfl⟩ := Int.eq_ofNat_of_zero_le eb.1
      have hbn : b < nB K := by omega
      have hv := h.2.1.2.2.2.1.2 b hbn
      rw [if_pos eb, if_neg (show ¬ (iv 1 = 0) by decide), e187 h hbn]
      simp (disch := omega) only [iv_L, iv_sub, jv_of, jv_L, e171, am_bi_v]
      by_cases ek : 0 ≤ k ∧ k < ((sayK K b).length : Int)
      · obtain ⟨k, rfl⟩ := Int.eq_ofNat_of_zero_le ek.1
        have key : ∀ (m w : Nat) (c : Nat → Nat → Nat → Int32), w + m = prodN (cts K) → RR c l K F → ∃ c2 : Nat → Nat → Nat → Int32, X (d + 8) 256 29 [some (vr 48 0), some (vi (iv (r : Nat))), some (vi (iv (b : Nat))), some (vi (iv (k : Nat))), some (vi (iv ((List.range w).countP (fun w => rul K F (rowF K 0 (dgs (cts K) w)) == r && (dgs (cts K) w).getD b 0 == k) : Nat))), some (vi (iv ((List.range w).countP (fun w => rul K F (rowF K 0 (dgs (cts K) w)) == r) : Nat))), some (vi (iv (w : Nat)))] [] (c, l, x, y) = some (some (vi (iv ((1000 * saysS K F r b k / waysS K F r : Nat) : Int))), c2, l, x, y) ∧ Sy c c2 := by
          intro m
          induction m with
          | zero =>
            intro w c hw hR
            refine ⟨c, ?_, Sy.refl c⟩
            have hcp : (List.range w).countP (fun w => rul K F (rowF K 0 (dgs (cts K) w)) == r) = waysS K F r := by
              rw [show w = prodN (cts K) by omega]
              exact dgs_all h.2.1 (fun t => rul K F (rowF K 0 t) == r)
            have hcs : (List.range w).countP (fun w => rul K F (rowF K 0 (dgs (cts K) w)) == r && (dgs (cts K) w).getD b 0 == k) = saysS K F r b k := by
              rw [show w = prodN (cts K) by omega]
              exact dgs_all h.2.1 (fun t => rul K F (rowF K 0 t) == r && t.getD b 0 == k)
            have hle := ways_le (F := F) h.2.1 r
            have hls := says_le (F := F) h.2.1 r b k
            have h1000 : (1000 : Int32) = iv 1000 := rfl
            rw [q_256_29, e253 hR, hcp, hcs]
            simp only [am_bi_v]
            rw [show w = prodN (cts K) by omega, if_neg (show ¬ (iv (prodN (cts K) : Nat) < iv (prodN (cts K) : Nat)) by rw [iv_lt (by omega) (by omega)]; omega)]
            by_cases e0 : waysS K F r = 0
            · rw [e0, Nat.div_zero]; rfl
            · have hne : ¬ (iv (waysS K F r : Nat) = 0) := by rw [iv_L.1, iv_eq (by omega) (by omega)]; omega
              rw [if_neg hne, if_neg hne, h1000, iv_mul, iv_div (by omega) (by omega)]
              rfl
          | succ m ih =>
            intro w c hw hR
            obtain ⟨c2, g1, g2, g3, g4, g5⟩ := way_at (x := x) (y := y) hR (w := w) (by omega) (d + 5)
            obtain ⟨c3, j1, j2⟩ := e255 (x := x) (y := y) (Sy_RR g2 hR) g3 g4 g5 (sk := -1) (by omega) d
            rw [skR_none] at j1
            have hS := g2.tr (Sx_Sy j2)
            obtain ⟨c4, k1, k2⟩ := ih (w + 1) c3 (by omega) (Sy_RR hS hR)
            refine ⟨c4, ?_, hS.tr k2⟩
            have hrl := rul_lt K F (rowF K 0 (dgs (cts K) w))
            have hcell : c3 89 0 b = iv ((dgs (cts K) w).getD b 0 : Nat) := by
              rw [j2.1 89 (by omega) (by omega)]; exact g3 b (by omega)
            have hdl := g5 b (by omega)
            rw [q_256_29, e253 hR]
            simp only [am_bi_v]
            rw [if_pos (by rw [iv_lt (by omega) (by omega)]; omega), g1]
            simp only [am_bv_v]
            rw [show (-1 : Int32) = iv (-1) from rfl, j1]
            simp only [am_bi_v]
            rw [countP_succ, countP_succ] at k1
            by_cases e2 : rul K F (rowF K 0 (dgs (cts K) w)) = r
            · have hg : ¬ (iv (b : Int) < 0 ∨ 7 ≤ (iv (b : Int)).toNatClampNeg) := by
                rw [iv_nat (by omega), iv_L.1, iv_lt (by omega) (by omega)]; omega
              rw [if_pos (by rw [e2]), if_neg hg, iv_nat (by omega), Int.toNat_natCast]
              simp only [hcell]
              rw [show (rul K F (rowF K 0 (dgs (cts K) w)) == r) = true by simp [e2], Bool.true_and, if_pos (rfl : true = true)] at k1
              by_cases e3 : (dgs (cts K) w).getD b 0 = k
              · rw [if_pos (by rw [e3]), iv_L.2.1, iv_add, iv_add, iv_add]
                rw [show ((dgs (cts K) w).getD b 0 == k) = true from beq_iff_eq.mpr e3, if_pos rfl] at k1
                exact k1
              · rw [if_neg (by rw [iv_eq (by omega) (by omega)]; omega), iv_L.2.1, iv_add, iv_add]
                rw [show ((dgs (cts K) w).getD b 0 == k) = false from beq_eq_false_iff_ne.mpr e3, if_neg (by simp)] at k1
                exact k1
            · rw [if_neg (by rw [iv_eq (by omega) (by omega)]; omega), iv_L.2.1, iv_add]
              rw [show (rul K F (rowF K 0 (dgs (cts K) w)) == r) = false by simp [e2], Bool.false_and, if_neg (by simp), Nat.add_zero, Nat.add_zero] at k1
              exact k1
        obtain ⟨c2, g1, g2⟩ := key (prodN (cts K)) 0 c (Nat.zero_add _) h
        refine ⟨c2, ?_, g2⟩
        rw [if_pos (show (0 : Int) ≤ k ∧ (k : Int) ≤ ((sayK K b).length : Int) - 1 by omega), if_neg (show ¬ (iv 1 = iv 0) by decide), if_pos (show (0 ≤ (r : Int) ∧ (r : Int) ≤ 2) ∧ (0 ≤ (b : Int) ∧ (b : Int) < nB K) ∧ 0 ≤ (k : Int) ∧ (k : Int) < (sayK K (b : Int).toNat).length from ⟨e, eb, ek⟩)]
        exact g1
      · refine ⟨c, ?_, Sy.refl c⟩
        rw [if_neg (show ¬ (0 ≤ k ∧ k ≤ ((sayK K b).length : Int) - 1) by omega), if_pos rfl, if_neg (show ¬ ((0 ≤ (r : Int) ∧ (r : Int) ≤ 2) ∧ (0 ≤ (b : Int) ∧ (b : Int) < nB K) ∧ 0 ≤ k ∧ k < (sayK K (b : Int).toNat).length) from fun q => ek q.2.2)]
        rfl
    · refine ⟨c, ?_, Sy.refl c⟩
      rw [if_neg eb, if_pos (show iv 0 = 0 by decide), if_neg (show ¬ ((0 ≤ z ∧ z ≤ 2) ∧ (0 ≤ b ∧ b < nB K) ∧ 0 ≤ k ∧ k < (sayK K b.toNat).length) from fun q => eb q.2.1)]
      rfl
  · refine ⟨c, ?_, Sy.refl c⟩
    rw [if_neg e, if_pos (show iv 0 = 0 by decide), if_neg (show ¬ ((0 ≤ z ∧ z ≤ 2) ∧ (0 ≤ b ∧ b < nB K) ∧ 0 ≤ k ∧ k < (sayK K b.toNat).length) from fun q => e q.1)]
    rfl
theorem m257 (h : RR c l K F) {z b : Int} (hz : -2147483648 ≤ z ∧ z < 2147483648) (hb : -2147483648 ≤ b ∧ b < 2147483648) (d : Nat) : ∃ c2 : Nat → Nat → Nat → Int32, E (d + 8) 257 [vr 48 0, vi (iv z), vi (iv b)] (c, l, x, y) = some (some (vi (iv (innS K F z b))), c2, l, x, y) ∧ Sy c c2 := by
  have hp := prod_cts h.2.1
  have hn := h.2.1.2.2.2.1.1
  rw [q_257]
  simp (disch := omega) only [jv_of, jv_L, e171, am_bi_v]
  unfold innS
  by_cases e : 0 ≤ z ∧ z ≤ 2
  · rw [if_pos e, if_neg (show ¬ (iv 1 = 0) by decide), e191 h hb]
    simp only [am_bi_v]
    by_cases eb : 0 ≤ b ∧ b < nB K
    · obtain ⟨r, rfl⟩ := Int.eq_ofNat_of_zero_le e.1
      obtain ⟨b, rfl⟩ := Int.eq_ofNat_of_zero_le eb.1
      rw [if_pos eb, if_neg (show ¬ (iv 1 = 0) by decide)]
      have key : ∀ (m w : Nat) (c : Nat → Nat → Nat → Int32), w + m = prodN (cts K) → RR c l K F → ∃ c2 : Nat → Nat → Nat → Int32, X (d + 8) 257 16 [some (vr 48 0), some (vi (iv (r : Nat))), some (vi (iv (b : Nat))), some (vi (iv ((List.range w).countP (fun w => rul K F (rowF K 0 (dgs (cts K) w)) == r && rul K F (rowA K b 0 (dgs (cts K) w)) != r) : Nat))), some (vi (iv (w : Nat)))] [] (c, l, x, y) = some (some (vi (iv (hangS K F r b : Nat))), c2, l, x, y) ∧ Sy c c2 := by
        intro m
        induction m with
        | zero =>
          intro w c hw hR
          refine ⟨c, ?_, Sy.refl c⟩
          have hcs : (List.range w).countP (fun w => rul K F (rowF K 0 (dgs (cts K) w)) == r && rul K F (rowA K b 0 (dgs (cts K) w)) != r) = hangS K F r b := by
            rw [show w = prodN (cts K) by omega]
            exact dgs_all h.2.1 (fun t => rul K F (rowF K 0 t) == r && rul K F (rowA K b 0 t) != r)
          rw [q_257_16, e253 hR, hcs]
          simp only [am_bi_v]
          rw [show w = prodN (cts K) by omega, if_neg (show ¬ (iv (prodN (cts K) : Nat) < iv (prodN (cts K) : Nat)) by rw [iv_lt (by omega) (by omega)]; omega)]
        | succ m ih =>
          intro w c hw hR
          obtain ⟨c2, g1, g2, g3, g4, g5⟩ := way_at (x := x) (y := y) hR (w := w) (by omega) (d + 5)
          obtain ⟨c3, j1, j2⟩ := e255 (x := x) (y := y) (Sy_RR g2 hR) g3 g4 g5 (sk := -1) (by omega) d
          rw [skR_none] at j1
          have hS := g2.tr (Sx_Sy j2)
          obtain ⟨c5, i1, i2⟩ := e255 (x := x) (y := y) (Sy_RR hS hR) (RowAt_fr g3 (j2.1 89 (by omega) (by omega))) g4 g5 (sk := (b : Int)) (by omega) d
          rw [skR_one] at i1
          have hS5 := hS.tr (Sx_Sy i2)
          have hrl := rul_lt K F (rowF K 0 (dgs (cts K) w))
          have hra := rul_lt K F (rowA K b 0 (dgs (cts K) w))
          rw [q_257_16, e253 hR]
          simp only [am_bi_v]
          rw [if_pos (by rw [iv_lt (by omega) (by omega)]; omega), g1]
          simp only [am_bv_v]
          rw [show (-1 : Int32) = iv (-1) from rfl, j1]
          simp only [am_bi_v]
          by_cases e2 : rul K F (rowF K 0 (dgs (cts K) w)) = r
          · rw [if_pos (by rw [e2]), i1]
            simp only [am_bi_v]
            obtain ⟨c4, k1, k2⟩ := ih (w + 1) c5 (by omega) (Sy_RR hS5 hR)
            rw [countP_succ] at k1
            refine ⟨c4, ?_, hS5.tr k2⟩
            rw [show (rul K F (rowF K 0 (dgs (cts K) w)) == r) = true by simp [e2], Bool.true_and] at k1
            by_cases e3 : rul K F (rowA K b 0 (dgs (cts K) w)) = r
            · rw [if_pos (by rw [e3]), iv_L.2.1, iv_add]
              rw [show (rul K F (rowA K b 0 (dgs (cts K) w)) != r) = false by simp [e3], if_neg (by simp)] at k1
              exact k1
            · rw [if_neg (by rw [iv_eq (by omega) (by omega)]; omega), iv_L.2.1, iv_add, iv_add]
              rw [show (rul K F (rowA K b 0 (dgs (cts K) w)) != r) = true by simp [e3], if_pos rfl] at k1
              exact k1
          · obtain ⟨c4, k1, k2⟩ := ih (w + 1) c3 (by omega) (Sy_RR hS hR)
            rw [countP_succ] at k1
            refine ⟨c4, ?_, hS.tr k2⟩
            rw [if_neg (by rw [iv_eq (by omega) (by omega)]; omega), iv_L.2.1, iv_add]
            rw [show (rul K F (rowF K 0 (dgs (cts K) w)) == r) = false by simp [e2], Bool.false_and, if_neg (by simp)] at k1
            exact k1
      obtain ⟨c2, g1, g2⟩ := key (prodN (cts K)) 0 c (Nat.zero_add _) h
      refine ⟨c2, ?_, g2⟩
      rw [if_pos (show (0 ≤ (r : Int) ∧ (r : Int) ≤ 2) ∧ 0 ≤ (b : Int) ∧ (b : Int) < nB K from ⟨e, eb⟩)]
      exact g1
    · refine ⟨c, ?_, Sy.refl c⟩
      rw [if_neg eb, if_pos (show iv 0 = 0 by decide), if_neg (show ¬ ((0 ≤ z ∧ z ≤ 2) ∧ 0 ≤ b ∧ b < nB K) from fun q => eb q.2)]
      rfl
  · refine ⟨c, ?_, Sy.refl c⟩
    rw [if_neg e, if_pos (show iv 0 = 0 by decide), if_neg (show ¬ ((0 ≤ z ∧ z ≤ 2) ∧ 0 ≤ b ∧ b < nB K) from fun q => e q.1)]
    rfl
end
