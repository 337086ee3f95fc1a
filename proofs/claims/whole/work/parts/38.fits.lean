/-! the reference: lines that fit -/
/-- the words that count, with their places, as the reference lays them -/
def PlAt (c : Nat → Nat → Nat → Int32) (PL : List (Nat × Nat)) : Prop := c 48 0 47 = iv PL.length ∧ ∀ k, k < PL.length → c 80 0 k = iv ((PL.map (·.1)).getD k 0 : Nat) ∧ c 81 0 k = iv ((PL.map (·.2)).getD k 0 : Nat)
section
variable {c : Nat → Nat → Nat → Int32} {l : Nat → Nat → Int64} {x y : Nat} {K : Ct} {F : Nat}
theorem PlAt_fr {c2 : Nat → Nat → Nat → Int32} {PL : List (Nat × Nat)} (h : PlAt c PL) (h0 : c2 48 0 47 = c 48 0 47) (h1 : c2 80 = c 80) (h2 : c2 81 = c 81) : PlAt c2 PL := by
  unfold PlAt at h ⊢
  rw [h0, h1, h2]
  exact h
theorem e207 (h : RR c l K F) {PL : List (Nat × Nat)} (hP : PlAt c PL) (hw : ∀ w ∈ PL.map (·.1), w < nW K) (hl : PL.length ≤ 16) {p : Nat} (hp : p ≤ PL.length) (d : Nat) : E (d + 2) 207 [vr 48 0, vi (iv p)] (c, l, x, y) = some (some (vi (iv (if endW K ((PL.map (·.1)).drop p) ∧ p < PL.length then 1 else 0))), c, l, x, y) := by
  rw [q_207]
  by_cases e : p < PL.length
  · have e2 : p < (PL.map (·.1)).length := by rw [List.length_map]; exact e
    have hwp := hw _ (getD_mem e2)
    have hk := (h.2.1.1.2 _ hwp).2
    simp (disch := omega) only [iv_add, iv_sub, iv_mul, iv_neg, iv_lt, iv_le, iv_eq, iv_nat, iv_L, iv_L2, am_bi_v, am_bv_v, am_bl_v, if_pos, if_neg, Int.toNat_natCast, Int.toNat_add, Int.toNat_mul, Int.reduceToNat, hP.1, (hP.2 p e).1, e184 h hwp]
    rw [drop_getD e2]
    unfold endW
    simp only [Bool.or_eq_true, beq_iff_eq]
    by_cases k3 : knd K ((PL.map (·.1)).getD p 0) = 3
    · rw [if_pos (by omega), if_pos (by omega)]
    · by_cases k4 : knd K ((PL.map (·.1)).getD p 0) = 4
      · rw [if_neg (by omega), if_pos (by omega), if_pos (by omega)]
      · rw [if_neg (by omega), if_neg (by omega), if_neg (by omega)]
  · simp (disch := omega) only [iv_add, iv_sub, iv_mul, iv_neg, iv_lt, iv_le, iv_eq, iv_nat, iv_L, iv_L2, am_bi_v, am_bv_v, am_bl_v, if_pos, if_neg, Int.toNat_natCast, Int.toNat_add, Int.toNat_mul, Int.reduceToNat, hP.1]
theorem sl_idx : ∀ sl ∈ slotLists, ∀ k, k < sl.length → sl.getD k 0 < 3 ∧ sl.idxOf? (sl.getD k 0) = some k := by decide
theorem sl_non : ∀ sl ∈ slotLists, ∀ a, a < 3 → sl.idxOf? a = none → a = 2 := by decide
theorem sl_len : ∀ sl ∈ slotLists, sl.length = 2 ∨ sl.length = 3 := by decide
theorem e206 (h : RR c l K F) {PL : List (Nat × Nat)} (hP : PlAt c PL) (hw : ∀ w ∈ PL.map (·.1), w < nW K) (hl : PL.length ≤ 16) {i : Nat} (hi : i < nL K) {p : Nat} (hp : p ≤ PL.length) (d : Nat) : ∃ c2 : Nat → Nat → Nat → Int32, E (d + 3) 206 [vr 48 0, vi (iv i), vi (iv p)] (c, l, x, y) = some (some (vi (iv (if mtA K (lnK K i) ((PL.map (·.1)).drop p) then (p : Int) + (lnK K i).length else -1))), c2, l, x, y) ∧ (∀ k, k ≠ 83 → c2 k = c k) ∧ (mtA K (lnK K i) ((PL.map (·.1)).drop p) = true → ∀ a, a < 3 → c2 83 0 a = iv (slotAt (lnK K i) a ((PL.map (·.1)).drop p))) := by
  have hn := h.2.1.2.1.1
  have hsl := h.2.1.2.1.2 i hi
  have hlen := sl_len _ hsl
  have hcell := h.1.2.1.2 i hi
  have hpl : (PL.map (·.1)).length = PL.length := List.length_map ..
  have hn20 := h.2.1.1.1
  have key : ∀ (n k : Nat) (c : Nat → Nat → Nat → Int32), k + n = (lnK K i).length → p + k ≤ PL.length → RR c l K F → PlAt c PL → (∀ a, a < 3 → match (lnK K i).idxOf? a with
      | some j => j < k → c 83 0 a = iv (((PL.map (·.1)).drop p).getD j 0 : Nat)
      | none => c 83 0 a = iv (-1)) → ∃ c2 : Nat → Nat → Nat → Int32, X (d + 2 + 1) 206 13 [some (vr 48 0), some (vi (iv i)), none, some (vi (iv ((p : Int) + (k : Nat)))), some (vi (iv (18 + 3 * (i : Int) + (k : Nat))))] [] (c, l, x, y) = some (some (vi (iv (if mtA K ((lnK K i).drop k) ((PL.map (·.1)).drop (p + k)) then (p : Int) + (lnK K i).length else -1))), c2, l, x, y) ∧ (∀ k, k ≠ 83 → c2 k = c k) ∧ (mtA K ((lnK K i).drop k) ((PL.map (·.1)).drop (p + k)) = true → ∀ a, a < 3 → c2 83 0 a = iv (slotAt (lnK K i) a ((PL.map (·.1)).drop p))) := by
    intro n
    induction n with
    | zero =>
      intro k c hk hpk hR hP hI
      have hdrop : (lnK K i).drop k = [] := List.drop_of_length_le (by omega)
      refine ⟨c, ?_, fun _ _ => rfl, ?_⟩
      · rw [hdrop, q_206_13]
        have tail : (if iv ((p : Int) + (k : Nat)) = c 48 0 47 then some (some (vi (iv ((p : Int) + (k : Nat)))), c, l, x, y) else (am_bi (E (d + 2) 207 [vr 48 0, vi (iv ((p : Int) + (k : Nat)))] (c, l, x, y)) (fun r6 g5 => if r6 = 0 then some (some (vi (-1)), g5) else some (some (vi (iv ((p : Int) + (k : Nat)))), g5)))) = some (some (vi (iv (if mtA K [] ((PL.map (·.1)).drop (p + k)) then (p : Int) + (lnK K i).length else -1))), c, l, x, y) := by
          rw [hP.1]
          simp (disch := omega) only [iv_eq]
          unfold mtA
          by_cases e : p + k = PL.length
          · rw [if_pos (by omega), List.drop_of_length_le (by omega)]
            simp only [endW, if_true]
            rw [show (lnK K i).length = k by omega]
          · rw [if_neg (by omega), show ((p : Int) + (k : Nat)) = ((p + k : Nat) : Int) by omega, e207 hR hP hw hl hpk]
            simp only [am_bi_v]
            by_cases e2 : endW K ((PL.map (·.1)).drop (p + k)) = true
            · have e3 : endW K ((PL.map (·.1)).drop (p + k)) = true ∧ p + k < PL.length := ⟨e2, by omega⟩
              rw [if_pos e3, if_pos e2, if_neg (show ¬ iv 1 = 0 by decide), show ((p + k : Nat) : Int) = (p : Int) + ((lnK K i).length : Nat) by omega]
            · have e3 : ¬ (endW K ((PL.map (·.1)).drop (p + k)) = true ∧ p + k < PL.length) := fun q => e2 q.1
              rw [if_neg e3, if_neg e2, if_pos (show iv 0 = 0 by decide)]; rfl
        by_cases e3 : (lnK K i).length = 3
        · rw [if_neg (by simp only [iv_L]; rw [iv_mul, iv_add, iv_lt] <;> omega)]
          exact tail
        · have hs := hR.1.2.1.2 i hi k (by omega)
          have hz : slotE (lnK K i) k = -1 := by
            unfold slotE
            rw [List.getElem?_eq_none (by omega)]
          rw [hz] at hs
          simp (disch := omega) only [iv_add, iv_sub, iv_mul, iv_neg, iv_lt, iv_le, iv_eq, iv_nat, iv_L, iv_L2, am_bi_v, am_bv_v, am_bl_v, if_pos, if_neg, Int.toNat_natCast, Int.toNat_add, Int.toNat_mul, Int.reduceToNat, hs]
          exact tail
      · intro hm a ha
        have := hI a ha
        unfold slotAt
        cases hj : (lnK K i).idxOf? a with
        | none => rw [hj] at this; exact this
        | some j =>
          rw [hj] at this
          have hj2 : j < k := by
            have := idx_slot _ hsl a ha
            rw [hj] at this
            rcases this with q | q | q | q
            · cases q
            · cases q; omega
            · cases q; omega
            · cases q
              have : ∀ sl ∈ slotLists, ∀ a, a < 3 → sl.idxOf? a = some 2 → sl.length = 3 := by decide
              have := this _ hsl a ha hj
              omega
          exact this hj2
    | succ n ih =>
      intro k c hk hpk hR hP hI
      have hkl : k < (lnK K i).length := by omega
      have hs := hR.1.2.1.2 i hi k (by omega)
      obtain ⟨d1, d2⟩ := sl_idx _ hsl k hkl
      have hz : slotE (lnK K i) k = (lnK K i).getD k 0 := by
        unfold slotE
        rw [List.getD_eq_getElem?_getD, List.getElem?_eq_getElem hkl]
        rfl
      rw [hz] at hs
      rw [drop_getD hkl, q_206_13]
      simp (disch := omega) only [iv_add, iv_sub, iv_mul, iv_neg, iv_lt, iv_le, iv_eq, iv_nat, iv_L, iv_L2, am_bi_v, am_bv_v, am_bl_v, if_pos, if_neg, Int.toNat_natCast, Int.toNat_add, Int.toNat_mul, Int.reduceToNat, hs, hP.1]
      by_cases e : p + k = PL.length
      · have hd : (PL.map (·.1)).drop (p + k) = [] := List.drop_of_length_le (by omega)
        rw [hd]
        refine ⟨c, ?_, fun _ _ => rfl, ?_⟩
        · rw [if_pos (by omega)]
          unfold mtA
          rfl
        · intro q
          unfold mtA at q
          cases q
      · have e2 : p + k < (PL.map (·.1)).length := by omega
        have hwp := hw _ (getD_mem e2)
        have hkk := (h.2.1.1.2 _ hwp).2
        rw [if_neg (by omega), (hP.2 (p + k) (by omega)).1, e184 hR hwp, drop_getD e2]
        simp (disch := omega) only [iv_add, iv_sub, iv_mul, iv_neg, iv_lt, iv_le, iv_eq, iv_nat, iv_L, iv_L2, am_bi_v, am_bv_v, am_bl_v, if_pos, if_neg, Int.toNat_natCast, Int.toNat_add, Int.toNat_mul, Int.reduceToNat, hs]
        have step : ∀ b : Nat, b = bitS ((lnK K i).getD k 0) → ∃ c2 : Nat → Nat → Nat → Int32, X (d + 2 + 1) 206 45 [some (vr 48 0), some (vi (iv i)), none, some (vi (iv ((p : Int) + (k : Nat)))), some (vi (iv (18 + 3 * (i : Int) + (k : Nat))))] [vi (iv (b : Nat)), vi (iv (knd K ((PL.map (·.1)).getD (p + k) 0)))] (c, l, x, y) = some (some (vi (iv (if mtA K ((lnK K i).getD k 0 :: (lnK K i).drop (k + 1)) ((PL.map (·.1)).getD (p + k) 0 :: (PL.map (·.1)).drop (p + k + 1)) then (p : Int) + (lnK K i).length else -1))), c2, l, x, y) ∧ (∀ k, k ≠ 83 → c2 k = c k) ∧ (mtA K ((lnK K i).getD k 0 :: (lnK K i).drop (k + 1)) ((PL.map (·.1)).getD (p + k) 0 :: (PL.map (·.1)).drop (p + k + 1)) = true → ∀ a, a < 3 → c2 83 0 a = iv (slotAt (lnK K i) a ((PL.map (·.1)).drop p))) := by
          intro b hb
          have hb1 : b ≤ 1 := by rw [hb]; unfold bitS; split <;> omega
          rw [q_206_45]
          simp (disch := omega) only [iv_add, iv_sub, iv_mul, iv_neg, iv_lt, iv_le, iv_eq, iv_nat, iv_L, iv_L2, am_bi_v, am_bv_v, am_bl_v, if_pos, if_neg, Int.toNat_natCast, Int.toNat_add, Int.toNat_mul, Int.reduceToNat, hs, (hP.2 (p + k) (by omega)).1]
          unfold mtA
          by_cases e3 : knd K ((PL.map (·.1)).getD (p + k) 0) = b
          · rw [if_pos (by omega), show (knd K ((PL.map (·.1)).getD (p + k) 0) == bitS ((lnK K i).getD k 0)) = true by rw [e3, hb]; simp, Bool.true_and]
            obtain ⟨c2, g1, g2, g3⟩ := ih (k + 1) (am_ui c 83 0 ((lnK K i).getD k 0) (iv ((PL.map (·.1)).getD (p + k) 0 : Nat))) (by omega) (by omega) (Sx_RR (Sx.ui _ _ _ _ (Or.inl (by omega))) hR) (PlAt_fr hP (ui_ne _ _ _ _ (by omega)) (ui_nk _ _ _ _ (by omega)) (ui_nk _ _ _ _ (by omega))) (by
              intro a ha
              have := hI a ha
              by_cases ea : a = (lnK K i).getD k 0
              · rw [ea, d2]
                intro _
                rw [ui_self, List.getD_eq_getElem?_getD, List.getD_eq_getElem?_getD, List.getElem?_drop]
              · cases hj : (lnK K i).idxOf? a with
                | none =>
                  rw [hj] at this
                  show am_ui _ _ _ _ _ _ _ _ = _
                  rw [ui_ne _ _ _ _ (by omega)]
                  exact this
                | some j =>
                  rw [hj] at this
                  intro hjk
                  rw [ui_ne _ _ _ _ (by omega)]
                  refine this ?_
                  have : j ≠ k := by
                    intro q
                    rw [q] at hj
                    have h9 : ∀ sl ∈ slotLists, ∀ a, a < 3 → ∀ k, k < 3 → sl.idxOf? a = some k → a = sl.getD k 0 := by decide
                    exact ea (h9 _ hsl a ha k (by omega) hj)
                  omega)
            refine ⟨c2, ?_, fun k hk => (g2 k hk).trans (ui_nk _ _ _ _ hk), g3⟩
            rw [show ((p : Int) + (k : Nat) + 1) = (p : Int) + ((k + 1 : Nat) : Int) by omega, show (18 + 3 * (i : Int) + (k : Nat) + 1) = 18 + 3 * (i : Int) + ((k + 1 : Nat) : Int) by omega]
            exact g1
          · refine ⟨c, ?_, fun _ _ => rfl, ?_⟩
            · rw [if_neg (by omega), show (knd K ((PL.map (·.1)).getD (p + k) 0) == bitS ((lnK K i).getD k 0)) = false by rw [← hb]; simpa using e3, Bool.false_and]
              rfl
            · intro q
              rw [show (knd K ((PL.map (·.1)).getD (p + k) 0) == bitS ((lnK K i).getD k 0)) = false by rw [← hb]; simpa using e3, Bool.false_and] at q
              cases q
        by_cases e1 : (lnK K i).getD k 0 = 1
        · rw [if_pos (by omega)]
          exact step 1 (by unfold bitS; rw [if_pos e1])
        · rw [if_neg (by omega)]
          exact step 0 (by unfold bitS; rw [if_neg e1])
  obtain ⟨c2, g1, g2, g3⟩ := key (lnK K i).length 0 (am_ui c 83 0 2 (iv (-1))) (by omega) (by omega) (Sx_RR (Sx.ui _ _ _ _ (Or.inl (by omega))) h) (PlAt_fr hP (ui_ne _ _ _ _ (by omega)) (ui_nk _ _ _ _ (by omega)) (ui_nk _ _ _ _ (by omega))) (by
    intro a ha
    cases hj : (lnK K i).idxOf? a with
    | none =>
      have := sl_non _ hsl a ha hj
      subst this
      show am_ui _ _ _ _ _ _ _ _ = _
      rw [ui_self]
    | some j => intro q; omega)
  refine ⟨c2, ?_, fun k hk => (g2 k hk).trans (ui_nk _ _ _ _ hk), g3⟩
  rw [q_206]
  refine Eq.trans ?_ g1
  simp (disch := omega) only [iv_add, iv_sub, iv_mul, iv_neg, iv_lt, iv_le, iv_eq, iv_nat, iv_L, iv_L2, am_bi_v, am_bv_v, am_bl_v, if_pos, if_neg, Int.toNat_natCast, Int.toNat_add, Int.toNat_mul, Int.reduceToNat]
  rw [show ((p : Int) + ((0 : Nat) : Int)) = p by omega, show (18 + 3 * (i : Int) + ((0 : Nat) : Int)) = 18 + 3 * (i : Int) by omega]
end
