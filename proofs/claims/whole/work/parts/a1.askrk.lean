/-! the reference's ask: codes run -/
section
variable {c : Nat → Nat → Nat → Int32} {l : Nat → Nat → Int64} {x y : Nat} {K : Ct} {F : Nat}
theorem PL_top {v w : Int} {st : List Int} (h : PL l (v :: st)) : PL (am_ul l 110 st.length (jv w)) (w :: st) := PL_push h.2
theorem e279_5 {i : Nat} (hi : i < nC K) {C : List Nat} (hCl : C.length ≤ 1600) (hCv : ∀ v ∈ C, v < 20000) (d : Nat) : ∀ (B A : List Nat) (st st2 : List Int) (c : Nat → Nat → Nat → Int32) (l : Nat → Nat → Int64), RR c l K F → c 48 0 78 = iv (C.length : Nat) → RowAt c 108 0 C → C = A ++ B → c 48 0 84 = iv (st.length : Nat) → PL l st → BSk st → st.length ≤ A.length → rb (cxS K F i) B st → run (cxS K F i) B st = some st2 → ∃ (c2 : Nat → Nat → Nat → Int32) (l2 : Nat → Nat → Int64), X (d + 9) 279 5 [some (vr 48 0), some (vi (iv (i : Nat))), some (vi (iv (A.length : Nat))), none] [] (c, l, x, y) = some (some (vl (l2 110 0)), c2, l2, x, y) ∧ PL l2 st2 ∧ FE c c2 ∧ LE l l2 := by
  intro B
  induction B with
  | nil =>
    intro A st st2 c l hR h78 h108 hAB h84 hP hB hl hrb hrun
    rw [List.append_nil] at hAB
    have hst := Option.some.inj hrun
    refine ⟨c, l, ?_, by rw [← hst]; exact hP, FE.refl c, LE.refl l⟩
    rw [q_279_5, h78, hAB, if_neg (by rw [iv_lt (by rw [hAB] at hCl; omega) (by rw [hAB] at hCl; omega)]; omega)]
  | cons cd B ih =>
    intro A st st2 c l hR h78 h108 hAB h84 hP hB hl hrb hrun
    obtain ⟨hok, st1, hs, hB1, hrb1⟩ := hrb
    unfold run at hrun
    rw [hs] at hrun
    dsimp only at hrun
    have hlen : C.length = A.length + (B.length + 1) := by rw [hAB, List.length_append, List.length_cons]
    have hget : C.getD A.length 0 = cd := by
      rw [hAB, List.getD_eq_getElem?_getD, List.getElem?_append_right (Nat.le_refl _), Nat.sub_self]
      rfl
    have hcell : c 108 0 A.length = iv (cd : Nat) := by
      have := h108 A.length (by omega)
      rw [hget] at this
      exact this
    have hcd := hCv cd (by rw [hAB]; exact List.mem_append_right _ (List.mem_cons_self ..))
    obtain ⟨k1, k2, k3⟩ := len_lo (S := A) (by omega)
    have hAB2 : C = (A ++ [cd]) ++ B := by rw [hAB, List.append_assoc]; rfl
    have hl2 : (A ++ [cd]).length = A.length + 1 := by rw [List.length_append, List.length_singleton]
    have c1000 : (iv (cd : Nat) < 1000) = ((cd : Int) < 1000) := iv_lt (b := 1000) (by omega) (by omega)
    have c60 : (iv (cd : Nat) < 60) = ((cd : Int) < 60) := iv_lt (b := 60) (by omega) (by omega)
    have c40 : (iv (cd : Nat) < 40) = ((cd : Int) < 40) := iv_lt (b := 40) (by omega) (by omega)
    have c13 : (iv (cd : Nat) = 13) = ((cd : Int) = 13) := iv_eq (b := 13) (by omega) (by omega)
    have c12 : (iv (cd : Nat) = 12) = ((cd : Int) = 12) := iv_eq (b := 12) (by omega) (by omega)
    -- on to the next code
    have next : ∀ (c1 : Nat → Nat → Nat → Int32) (l1 : Nat → Nat → Int64), FE c c1 → LE l l1 → c1 48 0 84 = iv (st1.length : Nat) → PL l1 st1 → st1.length ≤ A.length + 1 → ∃ (c2 : Nat → Nat → Nat → Int32) (l2 : Nat → Nat → Int64), X (d + 9) 279 92 [some (vr 48 0), some (vi (iv (i : Nat))), some (vi (iv (A.length : Nat))), none] [] (c1, l1, x, y) = some (some (vl (l2 110 0)), c2, l2, x, y) ∧ PL l2 st2 ∧ FE c c2 ∧ LE l l2 := by
      intro c1 l1 hF hL h84' hP' hl'
      obtain ⟨c2, l2, g1, g2, g3, g4⟩ := ih (A ++ [cd]) st1 st2 c1 l1 (RR_FE hF hL hR) (by rw [hF.2 0 78 (by omega) (by omega) (by omega) (by omega) (by omega)]; exact h78) (RowAt_fr h108 (hF.1 108 (by omega) (by omega))) hAB2 h84' hP' hB1 (by omega) hrb1 hrun
      refine ⟨c2, l2, ?_, g2, hF.tr g3, hL.tr g4⟩
      rw [q_279_92, k3, ← hl2]
      exact g1
    have push : ∀ (v : Int) (c1 : Nat → Nat → Nat → Int32), FE c c1 → c1 48 0 84 = iv (st.length : Nat) → st1 = v :: st → ∃ (c2 : Nat → Nat → Nat → Int32) (l2 : Nat → Nat → Int64), am_bv (E (d + 8) 280 [vr 48 0, vl (jv v)] (c1, l, x, y)) (fun g => X (d + 9) 279 92 [some (vr 48 0), some (vi (iv (i : Nat))), some (vi (iv (A.length : Nat))), none] [] g) = some (some (vl (l2 110 0)), c2, l2, x, y) ∧ PL l2 st2 ∧ FE c c2 ∧ LE l l2 := by
      intro v c1 hF h84' hst1
      rw [e280 (k := st.length) (by omega) h84' (jv v) (d + 7)]
      simp only [am_bv_v]
      refine next _ _ (hF.tr (FE.ui _)) (LE.ul _ _) ?_ ?_ ?_
      · rw [ui_self, hst1]
        rfl
      · rw [hst1]
        exact PL_push hP
      · rw [hst1, List.length_cons]
        omega
    rw [q_279_5, h78, if_pos (by rw [iv_lt (by omega) (by omega)]; omega), if_neg k1, k2, hcell]
    simp only [c1000, c60, c40, c13, c12]
    by_cases b1 : 1000 ≤ cd
    · have hst1 : st1 = ((cd - 1000 : Nat) : Int) :: st := by
        unfold stp at hs
        rw [if_pos b1] at hs
        exact (Option.some.inj hs).symm
      have e1 : (iv (cd : Nat) - 1000).toInt64 = jv ((cd - 1000 : Nat) : Int) := by
        show (iv (cd : Nat) - iv 1000).toInt64 = _
        rw [iv_sub, show (cd : Int) - 1000 = ((cd - 1000 : Nat) : Int) by omega, jv_of (by omega)]
      rw [if_neg (by omega), e1]
      exact push _ c (FE.refl c) h84 hst1
    rw [if_pos (by omega)]
    by_cases b2 : cd = 60 ∨ cd = 61
    · cases hst : st with
      | nil =>
        rw [hst] at hs
        unfold stp at hs
        rw [if_neg b1, if_neg (by omega), if_neg (by omega), if_neg (by omega), if_neg (by omega), if_neg (by omega)] at hs
        cases hs
      | cons a st0 =>
        have hB' := hB a (by rw [hst]; exact List.mem_cons_self ..)
        have hP' := hP
        rw [hst] at hP'
        have hl0 : st.length = st0.length + 1 := by rw [hst]; rfl
        have e1 : c 48 0 84 - 1 = iv (st0.length : Nat) := by
          rw [h84, hl0]
          show iv ((st0.length + 1 : Nat) : Int) - iv 1 = _
          rw [iv_sub, show ((st0.length + 1 : Nat) : Int) - 1 = (st0.length : Int) by omega]
        have z1 : ¬ (iv (st0.length : Nat) < 0 ∨ 1700 ≤ st0.length) := by
          rw [show (iv (st0.length : Nat) < 0) = ((st0.length : Int) < 0) from iv_lt (b := 0) (by omega) (by omega)]
          omega
        have ho : cd - 60 = 0 ∨ cd - 60 = 1 := by omega
        have e2 : iv (cd : Nat) - 60 = iv ((cd - 60 : Nat) : Int) := by
          show iv (cd : Nat) - iv 60 = _
          rw [iv_sub, show (cd : Int) - 60 = ((cd - 60 : Nat) : Int) by omega]
        have h281 := e281 (x := x) (y := y) hR hi hB' ho (d + 6)
        have hst1 : st1 = (if cd - 60 = 0 then atW (csK K i) a else hasW (csK K i) a) :: st0 := by
          rw [hst] at hs
          unfold stp at hs
          rw [if_neg b1, if_neg (by omega), if_neg (by omega), if_neg (by omega), if_neg (by omega), if_neg (by omega)] at hs
          dsimp only at hs
          rw [if_neg (by omega)] at hs
          rcases b2 with rfl | rfl
          · rw [if_pos rfl] at hs
            exact (Option.some.inj hs).symm
          · rw [if_neg (by omega), if_pos rfl] at hs
            exact (Option.some.inj hs).symm
        have hbd : -1000000 ≤ (if cd - 60 = 0 then atW (csK K i) a else hasW (csK K i) a) ∧ (if cd - 60 = 0 then atW (csK K i) a else hasW (csK K i) a) ≤ 1000000 := hB1 _ (by rw [hst1]; exact List.mem_cons_self ..)
        rw [if_neg (by omega), e1, iv_nat (by omega), Int.toNat_natCast, if_neg z1, hP'.1, e2, h281]
        simp only [am_bl_v]
        rw [e283 (by omega)]
        simp only [am_bl_v]
        rw [if_neg z1, clp_id hbd]
        refine next _ _ (FE.refl c) (LE.ul _ _) ?_ ?_ ?_
        · rw [h84, hl0, hst1]
          rfl
        · rw [hst1]
          exact PL_push hP'.2
        · rw [hst1, List.length_cons]
          omega
    by_cases b3 : 40 ≤ cd ∧ cd ≤ 43
    · have e2 : iv (cd : Nat) - 40 = iv ((cd - 40 : Nat) : Int) := by
        show iv (cd : Nat) - iv 40 = _
        rw [iv_sub, show (cd : Int) - 40 = ((cd - 40 : Nat) : Int) by omega]
      obtain ⟨c1, a1, a2⟩ := e284 (x := x) (y := y) hR hi (o := cd - 40) (by omega) d
      have hF := FE_Sx a2
      have hst1 : st1 = (if cd - 40 = 0 then (i : Int) else if cd - 40 = 1 then ((csK K i).length : Int) else if cd - 40 = 2 then (rul K F (csK K i) : Int) else b01 ((rul K F (csK K i) : Int) = tru K)) :: st := by
        unfold stp at hs
        rcases (show cd = 40 ∨ cd = 41 ∨ cd = 42 ∨ cd = 43 by omega) with rfl | rfl | rfl | rfl
        · exact (Option.some.inj hs).symm
        · exact (Option.some.inj hs).symm
        · exact (Option.some.inj hs).symm
        · exact (Option.some.inj hs).symm
      generalize hw : (if cd - 40 = 0 then (i : Int) else if cd - 40 = 1 then ((csK K i).length : Int) else if cd - 40 = 2 then (rul K F (csK K i) : Int) else b01 ((rul K F (csK K i) : Int) = tru K)) = w at a1 hst1
      have hbd : -1000000 ≤ w ∧ w ≤ 1000000 := hB1 w (by rw [hst1]; exact List.mem_cons_self ..)
      rw [if_pos (by omega), if_neg (by omega), e2, a1]
      simp only [am_bl_v]
      rw [e283 (by omega)]
      simp only [am_bl_v]
      rw [clp_id hbd]
      exact push w c1 hF (by rw [a2.2 0 84 (by omega) (by omega) (by omega) (by omega), h84]) hst1
    rw [if_pos (by unfold okQ at hok; omega), if_pos (by unfold okQ at hok; omega)]
    by_cases b4 : cd = 13
    · have hst1 : st1 = 1 :: st := by
        unfold stp at hs
        rw [if_neg b1, if_pos b4] at hs
        exact (Option.some.inj hs).symm
      rw [if_pos (by omega)]
      exact push 1 c (FE.refl c) h84 hst1
    rw [if_neg (by omega)]
    by_cases b5 : cd = 12
    · cases hst : st with
      | nil =>
        rw [hst] at hs
        unfold stp at hs
        rw [if_neg b1, if_neg b4, if_neg (by omega), if_neg (by omega), if_neg (by omega), if_neg (by omega)] at hs
        cases hs
      | cons a st0 =>
        have hP' := hP
        rw [hst] at hP'
        have hl0 : st.length = st0.length + 1 := by rw [hst]; rfl
        have e1 : c 48 0 84 - 1 = iv (st0.length : Nat) := by
          rw [h84, hl0]
          show iv ((st0.length + 1 : Nat) : Int) - iv 1 = _
          rw [iv_sub, show ((st0.length + 1 : Nat) : Int) - 1 = (st0.length : Int) by omega]
        have z1 : ¬ (iv (st0.length : Nat) < 0 ∨ 1700 ≤ st0.length) := by
          rw [show (iv (st0.length : Nat) < 0) = ((st0.length : Int) < 0) from iv_lt (b := 0) (by omega) (by omega)]
          omega
        have hst1 : st1 = (1 - a) :: st0 := by
          rw [hst] at hs
          unfold stp at hs
          rw [if_neg b1, if_neg b4, if_neg (by omega), if_neg (by omega), if_neg (by omega), if_neg (by omega)] at hs
          dsimp only at hs
          rw [if_pos b5] at hs
          exact (Option.some.inj hs).symm
        have e3 : (1 : Int64) - jv a = jv (1 - a) := by
          show jv 1 - jv a = _
          rw [jv_sub]
        rw [if_pos (by omega), e1, iv_nat (by omega), Int.toNat_natCast, if_neg z1, if_neg z1, hP'.1, e3]
        refine next _ _ (FE.refl c) (LE.ul _ _) ?_ ?_ ?_
        · rw [h84, hl0, hst1]
          rfl
        · rw [hst1]
          exact PL_push hP'.2
        · rw [hst1, List.length_cons]
          omega
    have b6 : 1 ≤ cd ∧ cd ≤ 11 := by unfold okQ at hok; omega
    rw [if_neg (by omega)]
    have hn : ∀ w, st = w → stp (cxS K F i) cd w = some st1 := fun w hw => by rw [← hw]; exact hs
    cases hst : st with
    | nil =>
      have h0 := hn _ hst
      unfold stp at h0
      rw [if_neg b1, if_neg b4, if_neg (by omega), if_neg (by omega), if_neg (by omega), if_neg (by omega)] at h0
      cases h0
    | cons b st0 =>
      cases hst0 : st0 with
      | nil =>
        have h0 := hn _ hst
        rw [hst0] at h0
        unfold stp at h0
        rw [if_neg b1, if_neg b4, if_neg (by omega), if_neg (by omega), if_neg (by omega), if_neg (by omega)] at h0
        dsimp only at h0
        rw [if_neg b5, if_neg (by omega), if_neg (by omega)] at h0
        cases h0
      | cons a st9 =>
        have hst' : st = b :: a :: st9 := by rw [hst, hst0]
        have h0 := hn _ hst'
        rw [stp_bin b6] at h0
        have hst1 : st1 = binO cd a b :: st9 := (Option.some.inj h0).symm
        have hl0 : st.length = st9.length + 2 := by rw [hst']; rfl
        have hP' := hP
        rw [hst'] at hP'
        have h285 := e285 (c := c) (l := l) (x := x) (y := y) b6 (by omega) (by rw [h84, hl0]) hP' (hB a (by rw [hst']; exact List.mem_cons_of_mem _ (List.mem_cons_self ..))) (hB b (by rw [hst']; exact List.mem_cons_self ..)) (d + 6)
        rw [h285]
        simp only [am_bv_v]
        refine next _ _ ((FE.ui _).tr (FE.ui _)) (LE.ul _ _) ?_ ?_ ?_
        · rw [ui_self, hst1]
          rfl
        · rw [hst1]
          exact PL_push hP'.2.2
        · rw [hst1, List.length_cons]
          omega
/-- what codes tell at a CASE -/
theorem e279 {i : Nat} (hi : i < nC K) {C : List Nat} (hCl : C.length ≤ 1600) (hCv : ∀ v ∈ C, v < 20000) (hR : RR c l K F) (h78 : c 48 0 78 = iv (C.length : Nat)) (h108 : RowAt c 108 0 C) {lo hi' : Int} (hV : VB (cxS K F i) C lo hi') (d : Nat) : ∃ (c2 : Nat → Nat → Nat → Int32) (l2 : Nat → Nat → Int64), E (d + 9) 279 [vr 48 0, vi (iv (i : Nat))] (c, l, x, y) = some (some (vl (jv (vlS (cxS K F i) C))), c2, l2, x, y) ∧ (lo ≤ vlS (cxS K F i) C ∧ vlS (cxS K F i) C ≤ hi') ∧ FE c c2 ∧ LE l l2 := by
  obtain ⟨v, hv, g⟩ := hV
  obtain ⟨g1, g2⟩ := g [] (fun w hw => by cases hw)
  have hvl : vlS (cxS K F i) C = v := by
    unfold vlS
    rw [g1]
    rfl
  have hF : FE c (am_ui c 48 0 84 (iv ((0 : Nat) : Int))) := FE.ui _
  obtain ⟨c2, l2, a1, a2, a3, a4⟩ := e279_5 (x := x) (y := y) hi hCl hCv d C [] [] [v] _ l (RR_FE hF (LE.refl l) hR) (by rw [ui_ne _ _ _ _ (by omega)]; exact h78) (RowAt_fr h108 (ui_nk _ _ _ _ (by omega))) rfl (ui_self ..) trivial (fun w hw => by cases hw) (Nat.le_refl _) g2 g1
  refine ⟨c2, l2, ?_, by rw [hvl]; exact hv, hF.tr a3, a4⟩
  rw [q_279, hvl, ← show l2 110 0 = jv v from a2.1]
  exact a1
end
