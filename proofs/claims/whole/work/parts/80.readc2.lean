/-! the class's reader: witnesses, cases, statements, text() -/
section
variable {c : Nat → Nat → Nat → Int32} {l : Nat → Nat → Int64} {x y : Nat} {tp : Nat → Nat} {n : Nat} {z : Tz} {K : Ct}
theorem isSome_of {α : Type} {o : Option α} (h : ¬ o = none) : o.isSome = true := by
  cases o with
  | none => exact absurd rfl h
  | some a => rfl
/-- whatever stands in a witness's list, it is gone through -/
theorem e104a (ki : Nat) (v : Int32) (d : Nat) : ∀ (m i : Nat) (u : Int32) (k : Nat), i + m = k → k ≤ 4 → ∃ w : Int32, X (d + 1) 104 4 [some (vr 19 ki), some (vi (iv (k : Nat))), some (vi v), some (vi u), some (vi (iv (i : Nat)))] [] (c, l, x, y) = some (some (vi w), c, l, x, y) := by
  intro m
  induction m with
  | zero =>
    intro i u k hi hk
    refine ⟨u, ?_⟩
    rw [q_104_4 (by omega)]
    simp (disch := omega) only [iv_add, iv_sub, iv_mul, iv_neg, iv_lt, iv_le, iv_eq, iv_nat, iv_L, iv_L2, am_bi_v, am_bv_v, am_bl_v, if_pos, if_neg, Int.toNat_natCast, Int.toNat_add, Int.toNat_mul, Int.reduceToNat]
  | succ m ih =>
    intro i u k hi hk
    have haf : Int32.ofNat (af 19).2 = iv 4 := rfl
    have haf2 : (af 19).2 = 4 := rfl
    rw [q_104_4 (by omega), haf, haf2]
    simp (disch := omega) only [iv_add, iv_sub, iv_mul, iv_neg, iv_lt, iv_le, iv_eq, iv_nat, iv_L, iv_L2, am_bi_v, am_bv_v, am_bl_v, if_pos, if_neg, Int.toNat_natCast, Int.toNat_add, Int.toNat_mul, Int.reduceToNat]
    rw [show (i : Int) + 1 = ((i + 1 : Nat) : Int) by omega]
    split
    · exact ih (i + 1) _ k (by omega) hk
    · exact ih (i + 1) _ k (by omega) hk
theorem e100a (ki : Nat) (v : Int32) {k : Nat} (hk : k ≤ 4) (h : c 18 ki 1 = iv (k : Nat)) (d : Nat) : ∃ w : Int32, E (d + 2) 100 [vr 18 ki, vi v] (c, l, x, y) = some (some (vi w), c, l, x, y) := by
  obtain ⟨w, hw⟩ := e104a (c := c) (l := l) (x := x) (y := y) ki v d k 0 0 k (by omega) hk
  have hw : X (d + 1) 104 4 [some (vr 19 ki), some (vi (iv (k : Nat))), some (vi v), some (vi 0), some (vi 0)] [] (c, l, x, y) = some (some (vi w), c, l, x, y) := hw
  rw [q_100, h, q_104 (by omega), hw]
  simp only [am_bi_v]
  split
  · exact ⟨_, rfl⟩
  · exact ⟨_, rfl⟩
/-- a draft's witness may say a word -/
theorem e100b {ki : Nat} {ws : List Nat} (hr : RowAt c 19 ki ws) (hl : ws.length ≤ 4) (hw : ∀ w ∈ ws, w < 1000) (h : c 18 ki 1 = iv (ws.length : Nat)) {w : Nat} (hww : w < 1000) (d : Nat) : E (d + 2) 100 [vr 18 ki, vi (iv (w : Nat))] (c, l, x, y) = some (some (vi (iv (if w ∈ ws then 1 else 0))), c, l, x, y) := by
  have h1 := e104 (l := l) (x := x) (y := y) (kd := 19) (by omega) hr (by show ws.length ≤ 4; exact hl) hw (z := (w : Int)) (by omega) d
  have hp := cntW_pos ws (w : Int)
  have hb : cntW ws (w : Int) ≤ ws.length := List.countP_le_length
  rw [q_100, h, h1]
  simp (disch := omega) only [am_bi_v, iv_L, iv_lt]
  have hm : (ws.any (fun v : Nat => (v : Int) == (w : Int))) = true ↔ w ∈ ws := by
    rw [List.any_eq_true]
    constructor
    · rintro ⟨v, q1, q2⟩
      have : v = w := by have := beq_iff_eq.mp q2; omega
      rw [← this]; exact q1
    · intro q
      exact ⟨w, q, beq_iff_eq.mpr rfl⟩
  by_cases e : w ∈ ws
  · have := hp.mpr (hm.mpr e)
    rw [if_pos (by omega), if_pos e]
  · have : ¬ 0 < cntW ws (w : Int) := fun q => e (hm.mp (hp.mp q))
    rw [if_neg (by omega), if_neg e]
theorem k32 (hxy : x < 2 ∧ y < 2 ∧ x ≠ y) (h : CZ c tp n z) (hn : n ≤ 1600) (ht : ∀ i, tp i < 256) (hC : CR c y K) (hK : VK K) (d : Nat) : ∃ c2 : Nat → Nat → Nat → Int32, E (d + 4) 32 [vr 3 0] (c, l, x, y) = some (none, c2, l, x, y) ∧ CZ c2 tp n (rtZ tp n K z).2 ∧ CR c2 y (rtZ tp n K z).1 ∧ FD c c2 x := by
  have h7 := hK.2.2.2.1.1
  have hn20 := hK.1.1
  -- the words, with a fault
  have kf : ∀ (m k : Nat) (z : Tz) (c : Nat → Nat → Nat → Int32), nB K < 7 → k + m = 4 → z.2.isSome = true → CZ c tp n z → CR c y K → c 18 (nB K + y * 7) 1 = iv (k : Nat) → ∃ c2 : Nat → Nat → Nat → Int32, X (d + 4) 32 46 [some (vr 3 0), some (vr 18 (nB K + y * 7)), some (vi (iv (k : Nat))), none, none] [] (c, l, x, y) = some (none, c2, l, x, y) ∧ CZ c2 tp n z ∧ CR c2 y K ∧ FD c c2 x := by
    intro m
    induction m with
    | zero =>
      intro k z c hb hk hz h hC h18
      have hf := flt_iff h
      have hne : ¬ z.2 = none := fun q => by rw [q] at hz; cases hz
      refine ⟨c, ?_, h, hC, FD.refl c x⟩
      rw [q_32_46]
      simp only [iv_L, hf]
      simp (disch := omega) only [iv_add, iv_sub, iv_mul, iv_neg, iv_lt, iv_le, iv_eq, iv_nat, iv_L, iv_L2, am_bi_v, am_bv_v, am_bl_v, if_pos, if_neg, Int.toNat_natCast, Int.toNat_add, Int.toNat_mul, Int.reduceToNat]
      all_goals rw [if_neg hne]
    | succ m ih =>
      intro k z c hb hk hz h hC h18
      have hs := sgn_bd (n := n) ht z.1
      have hp := h.2.1
      have hf := flt_iff h
      have hne : ¬ z.2 = none := fun q => by rw [q] at hz; cases hz
      have hgo : ∃ c2 : Nat → Nat → Nat → Int32, X (d + 4) 32 56 [some (vr 3 0), some (vr 18 (nB K + y * 7)), some (vi (iv (k : Nat))), none, none] [] (c, l, x, y) = some (none, c2, l, x, y) ∧ CZ c2 tp n z ∧ CR c2 y K ∧ FD c c2 x := by
        obtain ⟨c1, g1, g2, g3⟩ := e31 (l := l) (x := x) (y := y) h hn ht hC hK (kd := -1) (by omega) d
        rw [twZ_f hz] at g1 g2
        have g1 : E (d + 3) 31 [vr 3 0, vi (-1)] (c, l, x, y) = some (some (vi (iv (-1))), c1, l, x, y) := g1
        have h181 : c1 18 (nB K + y * 7) 1 = iv (k : Nat) := by rw [g3.1 18 (by omega)]; exact h18
        obtain ⟨w, hw⟩ := e100a (c := c1) (l := l) (x := x) (y := y) (nB K + y * 7) (iv (-1)) (k := k) (by omega) h181 (d + 1)
        rw [q_32_56, g1]
        simp only [am_bi_v]
        rw [hw]
        simp only [am_bi_v]
        have hC1 := CR_FZ g3 hC
        have hnx : ∀ c2 : Nat → Nat → Nat → Int32, CZ c2 tp n z → CR c2 y K → FD c c2 x → ∃ c3 : Nat → Nat → Nat → Int32, (if iv (k : Nat) < 0 ∨ 4 ≤ (iv (k : Nat)).toNatClampNeg then none else X (d + 3 + 1) 32 46 [some (vr 3 0), some (vr 18 (nB K + y * 7)), some (vi (iv (k : Nat) + 1)), none, none] [] (am_ui (am_ui c2 19 (nB K + y * 7) (iv (k : Nat)).toNatClampNeg (iv (-1))) 18 (nB K + y * 7) 1 (iv (k : Nat) + 1), l, x, y)) = some (none, c3, l, x, y) ∧ CZ c3 tp n z ∧ CR c3 y K ∧ FD c c3 x := by
          intro c2 z2 C2 F2
          simp (disch := omega) only [iv_add, iv_sub, iv_mul, iv_neg, iv_lt, iv_le, iv_eq, iv_nat, iv_L, iv_L2, am_bi_v, am_bv_v, am_bl_v, if_pos, if_neg, Int.toNat_natCast, Int.toNat_add, Int.toNat_mul, Int.reduceToNat]
          obtain ⟨c3, j1, j2, j3, j4⟩ := ih (k + 1) z (am_ui (am_ui c2 19 (nB K + y * 7) k (iv (-1))) 18 (nB K + y * 7) 1 (iv ((k : Int) + 1))) hb (by omega) hz (CZ_FD z2 (by rw [ui_nk _ _ _ _ (by omega), ui_nk _ _ _ _ (by omega)]) (by rw [ui_nk _ _ _ _ (by omega), ui_nk _ _ _ _ (by omega)])) (CU_CR ((CU.ui _ _ _ _ (by omega)).tr (CU.ui _ _ _ _ (by omega))) C2) (ui_self _ _ _ _)
          exact ⟨c3, j1, j2, j3, (F2.tr ((FD.ui _ _ _ _ (by omega)).tr (FD.ui _ _ _ _ (by omega)))).tr j4⟩
        by_cases e : w = 0
        · rw [if_pos e]
          exact hnx c1 g2 hC1 (FD_FZ g3 x)
        · rw [if_neg e, h.2.2.1.1]
          obtain ⟨c2, k1, k2, k3⟩ := e95 (l := l) (x := x) (y := y) g2 (k := 3) (p := z.1.1) (by omega) (by omega) (d + 2)
          rw [flZ_some hz] at k2
          have k1 : E (d + 3) 95 [vr 1 0, vi 3, vi (iv (z.1.1 : Nat))] (c1, l, x, y) = _ := k1
          rw [k1]
          simp only [am_bv_v]
          exact hnx c2 k2 (CR_FZ k3 hC1) (FD_FZ (g3.tr k3) x)
      rw [q_32_46]
      simp only [iv_L, iv_L2, hf, h.2.2.1.2.2]
      simp (disch := omega) only [iv_lt, iv_eq, if_pos, if_neg]
      by_cases e1 : (k : Int) = 0
      · rw [if_pos e1]; exact hgo
      · rw [if_neg e1]
        by_cases e2 : sgnT tp n z.1 = 97
        · rw [if_pos e2]; exact hgo
        · rw [if_neg e2]
          try rw [if_neg hne]
          exact ⟨c, rfl, h, hC, FD.refl c x⟩
  -- the words
  have kw : ∀ (m : Nat) (ws : List Nat) (z : Tz) (c : Nat → Nat → Nat → Int32) (s : List Nat) (a b : Nat), nB K < 7 → ws.length + m = 4 → z.2 = none → (∀ w ∈ ws, w < nW K) → CZ c tp n z → CR c y K → c 18 (nB K + y * 7) 1 = iv (ws.length : Nat) → RowAt c 19 (nB K + y * 7) ws → (c 18 (nB K + y * 7) 2 = iv (e5 s : Nat) ∧ c 18 (nB K + y * 7) 3 = iv (a : Nat) ∧ c 18 (nB K + y * 7) 4 = iv (b : Nat)) → ∃ c2 : Nat → Nat → Nat → Int32, X (d + 4) 32 46 [some (vr 3 0), some (vr 18 (nB K + y * 7)), some (vi (iv (ws.length : Nat))), none, none] [] (c, l, x, y) = some (none, c2, l, x, y) ∧ CZ c2 tp n (wsZ tp n K false m ws z).2 ∧ CR c2 y (if (wsZ tp n K false m ws z).2.2 = none then addB K (s, a, b, (wsZ tp n K false m ws z).1) else K) ∧ FD c c2 x := by
    intro m
    -- the end
    have hend : ∀ (ws : List Nat) (z : Tz) (c : Nat → Nat → Nat → Int32) (s : List Nat) (a b : Nat), nB K < 7 → z.2 = none → CZ c tp n z → CR c y K → c 18 (nB K + y * 7) 1 = iv (ws.length : Nat) → RowAt c 19 (nB K + y * 7) ws → (c 18 (nB K + y * 7) 2 = iv (e5 s : Nat) ∧ c 18 (nB K + y * 7) 3 = iv (a : Nat) ∧ c 18 (nB K + y * 7) 4 = iv (b : Nat)) → CZ (am_ui c 4 y 12 (iv ((nB K : Int) + 1))) tp n z ∧ CR (am_ui c 4 y 12 (iv ((nB K : Int) + 1))) y (addB K (s, a, b, ws)) ∧ FD c (am_ui c 4 y 12 (iv ((nB K : Int) + 1))) x := by
      intro ws z c s a b hb hz h hC h1 hr h18
      exact ⟨CZ_FD h (ui_nk _ _ _ _ (by omega)) (ui_nk _ _ _ _ (by omega)), CR_addB hC (CU.refl c y K) ⟨h1, h18.1, h18.2.1, h18.2.2, hr⟩, FD.ui _ _ _ _ (by omega)⟩
    induction m with
    | zero =>
      intro ws z c s a b hb hm hz hw h hC h1 hr h18
      have hf := flt_iff h
      have he := hend ws z c s a b hb hz h hC h1 hr h18
      unfold wsZ
      dsimp only
      rw [if_pos hz, q_32_46]
      simp only [iv_L, hf]
      simp (disch := omega) only [iv_add, iv_sub, iv_mul, iv_neg, iv_lt, iv_le, iv_eq, iv_nat, iv_L, iv_L2, am_bi_v, am_bv_v, am_bl_v, if_pos, if_neg, Int.toNat_natCast, Int.toNat_add, Int.toNat_mul, Int.reduceToNat, hC.2.2.2.1.1]
      try rw [if_pos hz]
      exact ⟨_, rfl, he⟩
    | succ m ih =>
      intro ws z c s a b hb hm hz hw h hC h1 hr h18
      have hs := sgn_bd (n := n) ht z.1
      have hp := h.2.1
      have hf := flt_iff h
      have he := hend ws z c s a b hb hz h hC h1 hr h18
      unfold wsZ
      by_cases hc : ws ≠ [] ∧ sgnT tp n z.1 ≠ 97
      · have hne : ws.length ≠ 0 := fun q => hc.1 (List.eq_nil_of_length_eq_zero q)
        rw [if_pos hc]
        dsimp only
        rw [if_pos hz, q_32_46]
        simp only [iv_L, iv_L2, hf, h.2.2.1.2.2]
        simp (disch := omega) only [iv_add, iv_sub, iv_mul, iv_neg, iv_lt, iv_le, iv_eq, iv_nat, iv_L, iv_L2, am_bi_v, am_bv_v, am_bl_v, if_pos, if_neg, Int.toNat_natCast, Int.toNat_add, Int.toNat_mul, Int.reduceToNat, hC.2.2.2.1.1]
        try rw [if_neg hc.2]
        try rw [if_pos hz]
        exact ⟨_, rfl, he⟩
      · rw [if_neg hc]
        have hgo : X (d + 4) 32 46 [some (vr 3 0), some (vr 18 (nB K + y * 7)), some (vi (iv (ws.length : Nat))), none, none] [] (c, l, x, y) = X (d + 4) 32 56 [some (vr 3 0), some (vr 18 (nB K + y * 7)), some (vi (iv (ws.length : Nat))), none, none] [] (c, l, x, y) := by
          rw [q_32_46]
          simp only [iv_L, iv_L2, hf, h.2.2.1.2.2]
          simp (disch := omega) only [iv_lt, iv_eq, if_pos, if_neg]
          by_cases e1 : (ws.length : Int) = 0
          · rw [if_pos e1]
          · have : sgnT tp n z.1 = 97 := Classical.byContradiction (fun q => hc ⟨fun q2 => e1 (by rw [q2]; rfl), q⟩)
            rw [if_neg e1, if_pos this]
        obtain ⟨c1, g1, g2, g3⟩ := e31 (l := l) (x := x) (y := y) h hn ht hC hK (kd := -1) (by omega) d
        have g1 : E (d + 3) 31 [vr 3 0, vi (-1)] (c, l, x, y) = _ := g1
        have hC1 := CR_FZ g3 hC
        have h11 : c1 18 (nB K + y * 7) 1 = iv (ws.length : Nat) := by rw [g3.1 18 (by omega)]; exact h1
        have hr1 : RowAt c1 19 (nB K + y * 7) ws := RowAt_fr hr (g3.1 19 (by omega))
        have h181 : c1 18 (nB K + y * 7) 2 = iv (e5 s : Nat) ∧ c1 18 (nB K + y * 7) 3 = iv (a : Nat) ∧ c1 18 (nB K + y * 7) 4 = iv (b : Nat) := by rw [g3.1 18 (by omega)]; exact h18
        rw [hgo, q_32_56, g1]
        simp only [am_bi_v]
        cases htw : twZ tp n K (-1) z with
        | mk o z1 =>
          rw [htw] at g2
          dsimp only at g2 ⊢
          cases o with
          | none =>
            have hn1 := twZ_none (tp := tp) (n := n) (K := K) (kd := -1) (z := z) (by rw [htw])
            rw [htw] at hn1
            dsimp only at hn1 ⊢
            have hne : ¬ z1.2 = none := fun q => by rw [q] at hn1; cases hn1
            rw [if_neg hne]
            obtain ⟨w, hww⟩ := e100a (c := c1) (l := l) (x := x) (y := y) (nB K + y * 7) (iv (oi none)) (k := ws.length) (by omega) h11 (d + 1)
            rw [hww]
            simp only [am_bi_v]
            have hnx : ∀ c2 : Nat → Nat → Nat → Int32, CZ c2 tp n z1 → CR c2 y K → FD c c2 x → ∃ c3 : Nat → Nat → Nat → Int32, (if iv (ws.length : Nat) < 0 ∨ 4 ≤ (iv (ws.length : Nat)).toNatClampNeg then none else X (d + 3 + 1) 32 46 [some (vr 3 0), some (vr 18 (nB K + y * 7)), some (vi (iv (ws.length : Nat) + 1)), none, none] [] (am_ui (am_ui c2 19 (nB K + y * 7) (iv (ws.length : Nat)).toNatClampNeg (iv (oi none))) 18 (nB K + y * 7) 1 (iv (ws.length : Nat) + 1), l, x, y)) = some (none, c3, l, x, y) ∧ CZ c3 tp n z1 ∧ CR c3 y K ∧ FD c c3 x := by
              intro c2 z2 C2 F2
              simp (disch := omega) only [iv_add, iv_sub, iv_mul, iv_neg, iv_lt, iv_le, iv_eq, iv_nat, iv_L, iv_L2, am_bi_v, am_bv_v, am_bl_v, if_pos, if_neg, Int.toNat_natCast, Int.toNat_add, Int.toNat_mul, Int.reduceToNat]
              obtain ⟨c3, j1, j2, j3, j4⟩ := kf m (ws.length + 1) z1 (am_ui (am_ui c2 19 (nB K + y * 7) ws.length (iv (oi none))) 18 (nB K + y * 7) 1 (iv ((ws.length : Int) + 1))) hb (by omega) hn1 (CZ_FD z2 (by rw [ui_nk _ _ _ _ (by omega), ui_nk _ _ _ _ (by omega)]) (by rw [ui_nk _ _ _ _ (by omega), ui_nk _ _ _ _ (by omega)])) (CU_CR ((CU.ui _ _ _ _ (by omega)).tr (CU.ui _ _ _ _ (by omega))) C2) (ui_self _ _ _ _)
              exact ⟨c3, j1, j2, j3, (F2.tr ((FD.ui _ _ _ _ (by omega)).tr (FD.ui _ _ _ _ (by omega)))).tr j4⟩
            by_cases e : w = 0
            · rw [if_pos e]
              exact hnx c1 g2 hC1 (FD_FZ g3 x)
            · rw [if_neg e, h.2.2.1.1]
              obtain ⟨c2, k1, k2, k3⟩ := e95 (l := l) (x := x) (y := y) g2 (k := 3) (p := z.1.1) (by omega) (by omega) (d + 2)
              rw [flZ_some hn1] at k2
              have k1 : E (d + 3) 95 [vr 1 0, vi 3, vi (iv (z.1.1 : Nat))] (c1, l, x, y) = _ := k1
              rw [k1]
              simp only [am_bv_v]
              exact hnx c2 k2 (CR_FZ k3 hC1) (FD_FZ (g3.tr k3) x)
          | some w =>
            have hws := twZ_some (tp := tp) (n := n) (K := K) (kd := -1) (z := z) (w := w) (by rw [htw])
            rw [htw] at hws
            have hz1 : z1 = avZ tp n z := hws.2.2.1
            have hz1n : z1.2 = none := by rw [hz1]; exact hz
            have hww := e100b (l := l) (x := x) (y := y) hr1 (by omega) (fun v q => by have := hw v q; omega) h11 (w := w) (by omega) (d + 1)
            rw [show oi (some w) = (w : Int) from rfl, hww]
            simp only [am_bi_v]
            by_cases hd : w ∈ ws
            · rw [if_pos hd, if_neg (by decide), if_pos (show True ∧ w ∈ ws from ⟨trivial, hd⟩), h.2.2.1.1]
              obtain ⟨c2, k1, k2, k3⟩ := e95 (l := l) (x := x) (y := y) g2 (k := 3) (p := z.1.1) (by omega) (by omega) (d + 2)
              have k1 : E (d + 3) 95 [vr 1 0, vi 3, vi (iv (z.1.1 : Nat))] (c1, l, x, y) = _ := k1
              rw [k1]
              simp only [am_bv_v]
              simp (disch := omega) only [iv_add, iv_sub, iv_mul, iv_neg, iv_lt, iv_le, iv_eq, iv_nat, iv_L, iv_L2, am_bi_v, am_bv_v, am_bl_v, if_pos, if_neg, Int.toNat_natCast, Int.toNat_add, Int.toNat_mul, Int.reduceToNat]
              have C2 := CR_FZ k3 hC1
              obtain ⟨c3, j1, j2, j3, j4⟩ := kf m (ws.length + 1) (flZ 3 z.1.1 z1) (am_ui (am_ui c2 19 (nB K + y * 7) ws.length (iv (w : Int))) 18 (nB K + y * 7) 1 (iv ((ws.length : Int) + 1))) hb (by omega) (by rw [flZ_none hz1n]; rfl) (CZ_FD k2 (by rw [ui_nk _ _ _ _ (by omega), ui_nk _ _ _ _ (by omega)]) (by rw [ui_nk _ _ _ _ (by omega), ui_nk _ _ _ _ (by omega)])) (CU_CR ((CU.ui _ _ _ _ (by omega)).tr (CU.ui _ _ _ _ (by omega))) C2) (ui_self _ _ _ _)
              try dsimp only
              rw [if_neg (flZ_ns _ _ _)]
              exact ⟨c3, j1, j2, j3, (((FD_FZ (g3.tr k3) x).tr (FD.ui _ _ _ _ (by omega))).tr (FD.ui _ _ _ _ (by omega))).tr j4⟩
            · rw [if_neg hd, if_pos (show iv 0 = 0 from rfl), if_neg (show ¬ (True ∧ w ∈ ws) from fun q => hd q.2)]
              simp (disch := omega) only [iv_add, iv_sub, iv_mul, iv_neg, iv_lt, iv_le, iv_eq, iv_nat, iv_L, iv_L2, am_bi_v, am_bv_v, am_bl_v, if_pos, if_neg, Int.toNat_natCast, Int.toNat_add, Int.toNat_mul, Int.reduceToNat]
              have hlen : (ws ++ [w]).length = ws.length + 1 := by rw [List.length_append]; rfl
              obtain ⟨c3, j1, j2, j3, j4⟩ := ih (ws ++ [w]) z1 (am_ui (am_ui c1 19 (nB K + y * 7) ws.length (iv (w : Int))) 18 (nB K + y * 7) 1 (iv ((ws.length : Int) + 1))) s a b hb (by omega) hz1n (fun v q => by
                rcases List.mem_append.mp q with q | q
                · exact hw v q
                · rw [List.mem_singleton.mp q]; exact hws.1) (CZ_FD g2 (by rw [ui_nk _ _ _ _ (by omega), ui_nk _ _ _ _ (by omega)]) (by rw [ui_nk _ _ _ _ (by omega), ui_nk _ _ _ _ (by omega)])) (CU_CR ((CU.ui _ _ _ _ (by omega)).tr (CU.ui _ _ _ _ (by omega))) hC1) (by rw [ui_self, hlen]; rfl) (by
                intro k hk
                rw [hlen] at hk
                rw [ui_nk _ _ _ _ (by omega)]
                by_cases e : k = ws.length
                · rw [e, ui_self, getD_app_new]
                · rw [ui_ne _ _ _ _ (by omega), getD_app_old (by omega)]; exact hr1 k (by omega)) ⟨by rw [ui_ne _ _ _ _ (by omega), ui_nk _ _ _ _ (by omega)]; exact h181.1, by rw [ui_ne _ _ _ _ (by omega), ui_nk _ _ _ _ (by omega)]; exact h181.2.1, by rw [ui_ne _ _ _ _ (by omega), ui_nk _ _ _ _ (by omega)]; exact h181.2.2⟩
              rw [hlen] at j1
              exact ⟨c3, j1, j2, j3, (((FD_FZ g3 x).tr (FD.ui _ _ _ _ (by omega))).tr (FD.ui _ _ _ _ (by omega))).tr j4⟩
  obtain ⟨c1, g1, g2, g3⟩ := k27 (l := l) (x := x) (y := y) h hn ht (a := nB K) (m := 7) (by omega) (by omega) d
  have g1 : E (d + 3) 27 [vr 3 0, vi (iv (nB K : Nat)), vi (iv 7)] (c, l, x, y) = _ := g1
  unfold rtZ
  rw [q_32, hC.2.2.2.1.1, show (7 : Int32) = iv 7 from rfl, g1]
  simp only [am_bi_v]
  by_cases e : 7 ≤ nB K
  · rw [if_pos e, if_pos (show iv 0 = 0 from rfl), if_pos e]
    rw [if_pos e] at g2
    exact ⟨c1, rfl, g2, CR_FZ g3 hC, FD_FZ g3 x⟩
  · rw [if_neg e, if_neg (by decide), if_neg e]
    rw [if_neg e] at g2
    have hC1 := CR_FZ g3 hC
    -- name
    obtain ⟨c2, v, a1, a2, a3, a4⟩ := e28 (l := l) (x := x) (y := y) g2 hn ht hC1 hK d
    have A1 : CZ (am_ui c2 18 (nB K + y * 7) 2 v) tp n (nsZ tp n K (avZ tp n z)).2 := CZ_FD a2 (ui_nk _ _ _ _ (by omega)) (ui_nk _ _ _ _ (by omega))
    have A2 : CR (am_ui c2 18 (nB K + y * 7) 2 v) y K := CU_CR (CU.ui _ _ _ _ (by omega)) (CR_FZ a3 hC1)
    -- age
    obtain ⟨c3, b1, b2, b3⟩ := e33 (l := l) (x := x) (y := y) A1 hn ht (own := 12) (by omega) d
    obtain ⟨c4, d1, d2, d3⟩ := e97 (l := l) (x := x) (y := y) b2 hn ht (most := 99) (by omega) d
    have B1 := CZ_FD d2 (c2 := am_ui c4 18 (nB K + y * 7) 3 (iv (oi (tnZ tp n 99 (toZ tp n 12 (nsZ tp n K (avZ tp n z)).2)).1))) (ui_nk _ _ _ _ (by omega)) (ui_nk _ _ _ _ (by omega))
    have B2 : CR (am_ui c4 18 (nB K + y * 7) 3 (iv (oi (tnZ tp n 99 (toZ tp n 12 (nsZ tp n K (avZ tp n z)).2)).1))) y K := CU_CR (CU.ui _ _ _ _ (by omega)) (CR_FZ d3 (CR_FZ b3 A2))
    -- side
    obtain ⟨c5, e1, e2, e3⟩ := e33 (l := l) (x := x) (y := y) B1 hn ht (own := 13) (by omega) d
    obtain ⟨c6, f1, f2, f3⟩ := e97 (l := l) (x := x) (y := y) e2 hn ht (most := 1) (by omega) d
    have D1 := CZ_FD f2 (c2 := am_ui c6 18 (nB K + y * 7) 4 (iv (oi (tnZ tp n 1 (toZ tp n 13 (tnZ tp n 99 (toZ tp n 12 (nsZ tp n K (avZ tp n z)).2)).2)).1))) (ui_nk _ _ _ _ (by omega)) (ui_nk _ _ _ _ (by omega))
    have D2 : CR (am_ui c6 18 (nB K + y * 7) 4 (iv (oi (tnZ tp n 1 (toZ tp n 13 (tnZ tp n 99 (toZ tp n 12 (nsZ tp n K (avZ tp n z)).2)).2)).1))) y K := CU_CR (CU.ui _ _ _ _ (by omega)) (CR_FZ f3 (CR_FZ e3 B2))
    obtain ⟨c7, i1, i2, i3⟩ := e33 (l := l) (x := x) (y := y) D1 hn ht (own := 14) (by omega) d
    have h7c : c7 = c7 := rfl
    have b1 : E (d + 3) 33 [vr 3 0, vi 12] (am_ui c2 18 (nB K + y * 7) 2 v, l, x, y) = _ := b1
    have d1 : E (d + 3) 97 [vr 1 0, vi 99] (c3, l, x, y) = _ := d1
    have e1 : E (d + 3) 33 [vr 3 0, vi 13] (am_ui c4 18 (nB K + y * 7) 3 (iv (oi (tnZ tp n 99 (toZ tp n 12 (nsZ tp n K (avZ tp n z)).2)).1)), l, x, y) = _ := e1
    have f1 : E (d + 3) 97 [vr 1 0, vi 1] (c5, l, x, y) = _ := f1
    have i1 : E (d + 3) 33 [vr 3 0, vi 14] (am_ui c6 18 (nB K + y * 7) 4 (iv (oi (tnZ tp n 1 (toZ tp n 13 (tnZ tp n 99 (toZ tp n 12 (nsZ tp n K (avZ tp n z)).2)).2)).1)), l, x, y) = _ := i1
    have hFD : FD c (am_ui c7 18 (nB K + y * 7) 1 0) x := ((((((((FD_FZ (g3.tr a3) x).tr (FD.ui _ _ _ _ (by omega))).tr (FD_FZ b3 x)).tr (FD_FZ d3 x)).tr (FD.ui _ _ _ _ (by omega))).tr (FD_FZ (e3.tr f3) x)).tr (FD.ui _ _ _ _ (by omega))).tr (FD_FZ i3 x)).tr (FD.ui _ _ _ _ (by omega))
    have hZ : CZ (am_ui c7 18 (nB K + y * 7) 1 0) tp n (whZ tp n K (avZ tp n z)).2 := CZ_FD i2 (ui_nk _ _ _ _ (by omega)) (ui_nk _ _ _ _ (by omega))
    have hCR : CR (am_ui c7 18 (nB K + y * 7) 1 0) y K := CU_CR (CU.ui _ _ _ _ (by omega)) (CR_FZ i3 D2)
    have hrun : ∀ r : Option mr, X (d + 4) 32 46 [some (vr 3 0), some (vr 18 (nB K + y * 7)), some (vi 0), none, none] [] (am_ui c7 18 (nB K + y * 7) 1 0, l, x, y) = r → (if c1 4 y 12 < 0 ∨ 7 ≤ (c1 4 y 12).toNatClampNeg then none else am_bi (E (d + 3) 28 [vr 3 0] (c1, l, x, y)) (fun r4 g3 => am_bv (E (d + 3) 33 [vr 3 0, vi 12] (am_ui g3.1 18 ((c1 4 y 12).toNatClampNeg + y * 7) 2 r4, g3.2.1, g3.2.2.1, g3.2.2.2)) (fun g5 => am_bi (E (d + 3) 97 [vr 1 0, vi 99] g5) (fun r7 g6 => am_bv (E (d + 3) 33 [vr 3 0, vi 13] (am_ui g6.1 18 ((c1 4 y 12).toNatClampNeg + y * 7) 3 r7, g6.2.1, g6.2.2.1, g6.2.2.2)) (fun g8 => am_bi (E (d + 3) 97 [vr 1 0, vi 1] g8) (fun r10 g9 => am_bv (E (d + 3) 33 [vr 3 0, vi 14] (am_ui g9.1 18 ((c1 4 y 12).toNatClampNeg + y * 7) 4 r10, g9.2.1, g9.2.2.1, g9.2.2.2)) (fun g11 => X (d + 3 + 1) 32 46 [some (vr 3 0), some (vr 18 ((c1 4 y 12).toNatClampNeg + y * 7)), some (vi 0), none, none] [] (am_ui g11.1 18 ((c1 4 y 12).toNatClampNeg + y * 7) 1 0, g11.2.1, g11.2.2.1, g11.2.2.2)))))))) = r := by
      intro r hr
      rw [hC1.2.2.2.1.1]
      simp (disch := omega) only [iv_L, iv_lt, iv_nat, if_neg, Int.toNat_natCast]
      rw [a1]
      simp only [am_bi_v]
      simp only [iv_L, iv_L2] at b1 d1 e1 f1 i1 hr ⊢
      rw [b1]
      simp only [am_bv_v]
      rw [d1]
      simp only [am_bi_v]
      rw [e1]
      simp only [am_bv_v]
      rw [f1]
      simp only [am_bi_v]
      rw [i1]
      simp only [am_bv_v]
      exact hr
    by_cases hw0 : (whZ tp n K (avZ tp n z)).2.2 = none
    · obtain ⟨s, ag, sd, w1, w2, w3, w4, w5, w6⟩ := whZ_ok hw0
      have hns : (nsZ tp n K (avZ tp n z)).1 = some s := congrArg (fun r => r.1) w1
      have hag : (tnZ tp n 99 (toZ tp n 12 (nsZ tp n K (avZ tp n z)).2)).1 = some ag := congrArg (fun r => r.2.1) w1
      have hsd : (tnZ tp n 1 (toZ tp n 13 (tnZ tp n 99 (toZ tp n 12 (nsZ tp n K (avZ tp n z)).2)).2)).1 = some sd := congrArg (fun r => r.2.2) w1
      obtain ⟨c8, j1, j2, j3, j4⟩ := kw 4 [] (whZ tp n K (avZ tp n z)).2 (am_ui c7 18 (nB K + y * 7) 1 0) s ag sd (by omega) rfl hw0 (fun w q => (by cases q)) hZ hCR (ui_self _ _ _ _) (fun k hk => absurd hk (Nat.not_lt_zero _)) ⟨by
        rw [ui_ne _ _ _ _ (by omega), i3.1 18 (by omega), ui_ne _ _ _ _ (by omega), f3.1 18 (by omega), e3.1 18 (by omega), ui_ne _ _ _ _ (by omega), d3.1 18 (by omega), b3.1 18 (by omega), ui_self]
        exact a4 s hns, by
        rw [ui_ne _ _ _ _ (by omega), i3.1 18 (by omega), ui_ne _ _ _ _ (by omega), f3.1 18 (by omega), e3.1 18 (by omega), ui_self, hag]
        rfl, by
        rw [ui_ne _ _ _ _ (by omega), i3.1 18 (by omega), ui_self, hsd]
        rfl⟩
      refine ⟨c8, hrun _ j1, ?_, ?_, hFD.tr j4⟩
      · split <;> exact j2
      · rw [w1]
        split at j3
        · rename_i q; rw [if_pos q]; exact j3
        · rename_i q; rw [if_neg q]; exact j3
    · have hw1 := isSome_of hw0
      obtain ⟨c8, j1, j2, j3, j4⟩ := kf 4 0 (whZ tp n K (avZ tp n z)).2 (am_ui c7 18 (nB K + y * 7) 1 0) (by omega) rfl hw1 hZ hCR (ui_self _ _ _ _)
      have hws : wsZ tp n K false 4 [] (whZ tp n K (avZ tp n z)).2 = ([], (whZ tp n K (avZ tp n z)).2) := by
        unfold wsZ
        rw [if_neg (fun q => q.1 rfl), twZ_f hw1]
      rw [hws, if_neg hw0]
      exact ⟨c8, hrun _ j1, j2, j3, hFD.tr j4⟩

theorem k35 (hxy : x < 2 ∧ y < 2 ∧ x ≠ y) (h : CZ c tp n z) (hn : n ≤ 1600) (ht : ∀ i, tp i < 256) (hz0 : z.2 = none) (hC : CR c y K) (hK : VK K) (d : Nat) : ∃ c2 : Nat → Nat → Nat → Int32, E (d + 4) 35 [vr 3 0] (c, l, x, y) = some (none, c2, l, x, y) ∧ CZ c2 tp n (rcZ tp n K z).2 ∧ CR c2 y (rcZ tp n K z).1 ∧ FD c c2 x := by
  have h8 := hK.2.2.2.2.1.1
  have hn20 := hK.1.1
  -- the words, with a fault
  have kf : ∀ (m k : Nat) (z : Tz) (c : Nat → Nat → Nat → Int32), nC K < 8 → k + m = 8 → z.2.isSome = true → CZ c tp n z → CR c y K → ∃ c2 : Nat → Nat → Nat → Int32, X (d + 4) 35 12 [some (vr 3 0), some (vi (iv (k : Nat))), some (vi (iv (k : Nat)))] [] (c, l, x, y) = some (none, c2, l, x, y) ∧ CZ c2 tp n z ∧ CR c2 y K ∧ FD c c2 x := by
    intro m
    have hend : ∀ (k : Nat) (z : Tz) (c : Nat → Nat → Nat → Int32), z.2.isSome = true → CZ c tp n z → X (d + 4) 35 37 [some (vr 3 0), some (vi (iv (k : Nat))), none] [] (c, l, x, y) = some (none, c, l, x, y) := by
      intro k z c hz h
      have hf := flt_iff h
      have hne : ¬ z.2 = none := fun q => by rw [q] at hz; cases hz
      rw [q_35_37]
      simp only [iv_L, hf]
      rw [if_neg hne]
    induction m with
    | zero =>
      intro k z c hb hk hz h hC
      refine ⟨c, ?_, h, hC, FD.refl c x⟩
      rw [q_35_12]
      simp (disch := omega) only [iv_add, iv_sub, iv_mul, iv_neg, iv_lt, iv_le, iv_eq, iv_nat, iv_L, iv_L2, am_bi_v, am_bv_v, am_bl_v, if_pos, if_neg, Int.toNat_natCast, Int.toNat_add, Int.toNat_mul, Int.reduceToNat]
      exact hend k z c hz h
    | succ m ih =>
      intro k z c hb hk hz h hC
      have hs := sgn_bd (n := n) ht z.1
      have hgo : ∃ c2 : Nat → Nat → Nat → Int32, (am_bi (E (d + 3) 31 [vr 3 0, vi (-1)] (c, l, x, y)) (fun r2 g1 => X (d + 3 + 1) 35 12 [some (vr 3 0), some (vi (iv ((k : Int) + 1))), some (vi (iv ((k : Int) + 1)))] [] (am_ui g1.1 16 (nC K + y * 8) k r2, g1.2.1, g1.2.2.1, g1.2.2.2))) = some (none, c2, l, x, y) ∧ CZ c2 tp n z ∧ CR c2 y K ∧ FD c c2 x := by
        obtain ⟨c1, g1, g2, g3⟩ := e31 (l := l) (x := x) (y := y) h hn ht hC hK (kd := -1) (by omega) d
        rw [twZ_f hz] at g1 g2
        have g1 : E (d + 3) 31 [vr 3 0, vi (-1)] (c, l, x, y) = some (some (vi (iv (-1))), c1, l, x, y) := g1
        rw [g1]
        simp only [am_bi_v]
        obtain ⟨c3, j1, j2, j3, j4⟩ := ih (k + 1) z (am_ui c1 16 (nC K + y * 8) k (iv (-1))) hb (by omega) hz (CZ_FD g2 (ui_nk _ _ _ _ (by omega)) (ui_nk _ _ _ _ (by omega))) (CU_CR (CU.ui _ _ _ _ (by omega)) (CR_FZ g3 hC))
        exact ⟨c3, j1, j2, j3, ((FD_FZ g3 x).tr (FD.ui _ _ _ _ (by omega))).tr j4⟩
      rw [q_35_12]
      simp only [iv_L, iv_L2, h.2.2.1.2.2, hC.2.2.2.2.1.1]
      simp (disch := omega) only [iv_add, iv_lt, iv_eq, iv_nat, if_pos, if_neg, Int.toNat_natCast]
      by_cases e1 : (k : Int) = 0
      · rw [if_pos e1]; exact hgo
      · rw [if_neg e1]
        by_cases e2 : sgnT tp n z.1 = 97
        · rw [if_pos e2]; exact hgo
        · rw [if_neg e2]
          exact ⟨c, hend k z c hz h, h, hC, FD.refl c x⟩
  have kw : ∀ (m : Nat) (ws : List Nat) (z : Tz) (c : Nat → Nat → Nat → Int32), nC K < 8 → ws.length + m = 8 → z.2 = none → CZ c tp n z → CR c y K → RowAt c 16 (nC K + y * 8) ws → ∃ c2 : Nat → Nat → Nat → Int32, X (d + 4) 35 12 [some (vr 3 0), some (vi (iv (ws.length : Nat))), some (vi (iv (ws.length : Nat)))] [] (c, l, x, y) = some (none, c2, l, x, y) ∧ CZ c2 tp n (wsZ tp n K true m ws z).2 ∧ CR c2 y (if (wsZ tp n K true m ws z).2.2 = none then addC K (wsZ tp n K true m ws z).1 else K) ∧ FD c c2 x := by
    intro m
    have hend : ∀ (ws : List Nat) (z : Tz) (c : Nat → Nat → Nat → Int32), nC K < 8 → z.2 = none → CZ c tp n z → CR c y K → RowAt c 16 (nC K + y * 8) ws → ∃ c2 : Nat → Nat → Nat → Int32, X (d + 4) 35 37 [some (vr 3 0), some (vi (iv (ws.length : Nat))), none] [] (c, l, x, y) = some (none, c2, l, x, y) ∧ CZ c2 tp n z ∧ CR c2 y (addC K ws) ∧ FD c c2 x := by
      intro ws z c hb hz h hC hr
      have hf := flt_iff h
      refine ⟨am_ui (am_ui c 17 y (nC K) (iv (ws.length : Nat))) 4 y 13 (iv ((nC K : Int) + 1)), ?_, CZ_FD h (by rw [ui_nk _ _ _ _ (by omega), ui_nk _ _ _ _ (by omega)]) (by rw [ui_nk _ _ _ _ (by omega), ui_nk _ _ _ _ (by omega)]), ?_, (FD.ui _ _ _ _ (by omega)).tr (FD.ui _ _ _ _ (by omega))⟩
      · rw [q_35_37]
        simp only [iv_L, hf, hC.2.2.2.2.1.1]
        rw [if_pos hz]
        simp (disch := omega) only [iv_add, iv_sub, iv_mul, iv_neg, iv_lt, iv_le, iv_eq, iv_nat, iv_L, iv_L2, am_bi_v, am_bv_v, am_bl_v, if_pos, if_neg, Int.toNat_natCast, Int.toNat_add, Int.toNat_mul, Int.reduceToNat]
      · exact CR_addC hC (CU.ui _ _ _ _ (by omega)) (ui_self _ _ _ _) (fun k hk => by rw [ui_nk _ _ _ _ (by omega)]; exact hr k hk)
    induction m with
    | zero =>
      intro ws z c hb hm hz h hC hr
      unfold wsZ
      dsimp only
      obtain ⟨c2, g1, g2, g3, g4⟩ := hend ws z c hb hz h hC hr
      rw [if_pos hz]
      refine ⟨c2, ?_, g2, g3, g4⟩
      rw [q_35_12]
      simp (disch := omega) only [iv_add, iv_sub, iv_mul, iv_neg, iv_lt, iv_le, iv_eq, iv_nat, iv_L, iv_L2, am_bi_v, am_bv_v, am_bl_v, if_pos, if_neg, Int.toNat_natCast, Int.toNat_add, Int.toNat_mul, Int.reduceToNat]
      exact g1
    | succ m ih =>
      intro ws z c hb hm hz h hC hr
      have hs := sgn_bd (n := n) ht z.1
      unfold wsZ
      by_cases hc : ws ≠ [] ∧ sgnT tp n z.1 ≠ 97
      · have hne : ws.length ≠ 0 := fun q => hc.1 (List.eq_nil_of_length_eq_zero q)
        obtain ⟨c2, g1, g2, g3, g4⟩ := hend ws z c hb hz h hC hr
        rw [if_pos hc]
        dsimp only
        rw [if_pos hz]
        refine ⟨c2, ?_, g2, g3, g4⟩
        rw [q_35_12]
        simp only [iv_L, iv_L2, h.2.2.1.2.2]
        simp (disch := omega) only [iv_lt, iv_eq, if_pos, if_neg]
        try rw [if_neg hc.2]
        exact g1
      · rw [if_neg hc]
        have hgo : X (d + 4) 35 12 [some (vr 3 0), some (vi (iv (ws.length : Nat))), some (vi (iv (ws.length : Nat)))] [] (c, l, x, y) = am_bi (E (d + 3) 31 [vr 3 0, vi (-1)] (c, l, x, y)) (fun r2 g1 => X (d + 3 + 1) 35 12 [some (vr 3 0), some (vi (iv ((ws.length : Int) + 1))), some (vi (iv ((ws.length : Int) + 1)))] [] (am_ui g1.1 16 (nC K + y * 8) ws.length r2, g1.2.1, g1.2.2.1, g1.2.2.2)) := by
          rw [q_35_12]
          simp only [iv_L, iv_L2, h.2.2.1.2.2, hC.2.2.2.2.1.1]
          simp (disch := omega) only [iv_add, iv_lt, iv_eq, iv_nat, if_pos, if_neg, Int.toNat_natCast]
          by_cases e1 : (ws.length : Int) = 0
          · rw [if_pos e1]
          · have : sgnT tp n z.1 = 97 := Classical.byContradiction (fun q => hc ⟨fun q2 => e1 (by rw [q2]; rfl), q⟩)
            rw [if_neg e1, if_pos this]
        obtain ⟨c1, g1, g2, g3⟩ := e31 (l := l) (x := x) (y := y) h hn ht hC hK (kd := -1) (by omega) d
        have g1 : E (d + 3) 31 [vr 3 0, vi (-1)] (c, l, x, y) = _ := g1
        have hC1 := CR_FZ g3 hC
        have hr1 : RowAt c1 16 (nC K + y * 8) ws := RowAt_fr hr (g3.1 16 (by omega))
        rw [hgo, g1]
        simp only [am_bi_v]
        have Z2 : ∀ v : Int32, CZ (am_ui c1 16 (nC K + y * 8) ws.length v) tp n (twZ tp n K (-1) z).2 := fun v => CZ_FD g2 (ui_nk _ _ _ _ (by omega)) (ui_nk _ _ _ _ (by omega))
        have C2 : ∀ v : Int32, CR (am_ui c1 16 (nC K + y * 8) ws.length v) y K := fun v => CU_CR (CU.ui _ _ _ _ (by omega)) hC1
        have F2 : ∀ v : Int32, FD c (am_ui c1 16 (nC K + y * 8) ws.length v) x := fun v => (FD_FZ g3 x).tr (FD.ui _ _ _ _ (by omega))
        cases htw : twZ tp n K (-1) z with
        | mk o z1 =>
          rw [htw] at Z2
          cases o with
          | none =>
            have hn1 := twZ_none (tp := tp) (n := n) (K := K) (kd := -1) (z := z) (by rw [htw])
            rw [htw] at hn1
            have hne : ¬ z1.2 = none := fun q => by rw [show ((none, z1) : Option Nat × Tz).2.2 = z1.2 from rfl, q] at hn1; cases hn1
            dsimp only
            rw [if_neg hne]
            obtain ⟨c3, j1, j2, j3, j4⟩ := kf m (ws.length + 1) z1 (am_ui c1 16 (nC K + y * 8) ws.length (iv (oi none))) hb (by omega) hn1 (Z2 _) (C2 _)
            exact ⟨c3, j1, j2, j3, (F2 _).tr j4⟩
          | some w =>
            have hws := twZ_some (tp := tp) (n := n) (K := K) (kd := -1) (z := z) (w := w) (by rw [htw])
            rw [htw] at hws
            have hz1 : z1 = avZ tp n z := hws.2.2.1
            have hz1n : z1.2 = none := by rw [hz1]; exact hz
            have hlen : (ws ++ [w]).length = ws.length + 1 := by rw [List.length_append]; rfl
            dsimp only
            simp only [Bool.true_eq_false, false_and, if_false]
            obtain ⟨c3, j1, j2, j3, j4⟩ := ih (ws ++ [w]) z1 (am_ui c1 16 (nC K + y * 8) ws.length (iv (oi (some w)))) hb (by omega) hz1n (Z2 _) (C2 _) (by
              intro k hk
              rw [hlen] at hk
              by_cases e : k = ws.length
              · rw [e, ui_self, getD_app_new]; rfl
              · rw [ui_ne _ _ _ _ (by omega), getD_app_old (by omega)]; exact hr1 k (by omega))
            rw [hlen] at j1
            exact ⟨c3, j1, j2, j3, (F2 _).tr j4⟩
  obtain ⟨c1, g1, g2, g3⟩ := k27 (l := l) (x := x) (y := y) h hn ht (a := nC K) (m := 8) (by omega) (by omega) d
  have g1 : E (d + 3) 27 [vr 3 0, vi (iv (nC K : Nat)), vi (iv 8)] (c, l, x, y) = _ := g1
  unfold rcZ
  rw [q_35, hC.2.2.2.2.1.1, show (8 : Int32) = iv 8 from rfl, g1]
  simp only [am_bi_v]
  by_cases e : 8 ≤ nC K
  · rw [if_pos e, if_pos (show iv 0 = 0 from rfl), if_pos e]
    rw [if_pos e] at g2
    exact ⟨c1, rfl, g2, CR_FZ g3 hC, FD_FZ g3 x⟩
  · rw [if_neg e, if_neg (by decide), if_neg e]
    rw [if_neg e] at g2
    obtain ⟨c2, j1, j2, j3, j4⟩ := kw 8 [] (avZ tp n z) c1 (by omega) rfl hz0 g2 (CR_FZ g3 hC) (fun k hk => absurd hk (Nat.not_lt_zero _))
    refine ⟨c2, j1, ?_, ?_, (FD_FZ g3 x).tr j4⟩
    · split <;> exact j2
    · split at j3
      · rename_i q; rw [if_pos q]; exact j3
      · rename_i q; rw [if_neg q]; exact j3
theorem lix_lt {t : Nat} {s : Ts} {o : Nat} (h : lixT tp n t s = some o) : o < 18 := by
  unfold lixT at h
  split at h
  · exact lixW_lt h
  · cases h
/-- one statement -/
theorem k25 (hxy : x < 2 ∧ y < 2 ∧ x ≠ y) (h : CZ c tp n z) (hn : n ≤ 1600) (ht : ∀ i, tp i < 256) (hz0 : z.2 = none) (hC : CR c y K) (hK : VK K) (d : Nat) : ∃ c2 : Nat → Nat → Nat → Int32, E (d + 5) 25 [vr 3 0] (c, l, x, y) = some (none, c2, l, x, y) ∧ CZ c2 tp n (rsZ tp n K z).2 ∧ CR c2 y (rsZ tp n K z).1 ∧ FD c c2 x := by
  have hp := h.2.1
  have h94 := e94 (l := l) (x := x) (y := y) h hn ht (t := 0) (by decide) (d + 3)
  obtain ⟨cf, f1, f2, f3⟩ := e95 (l := l) (x := x) (y := y) h (k := 1) (p := z.1.1) (by omega) (by omega) (d + 3)
  have f1 : E (d + 4) 95 [vr 1 0, vi (iv 1), vi (iv (z.1.1 : Nat))] (c, l, x, y) = _ := f1
  unfold rsZ
  rw [q_25, h94]
  simp only [am_bi_v, iv_L]
  cases ho : lixT tp n 0 z.1 with
  | none =>
    rw [if_pos (show iv (oi none) < iv 0 by decide), q_25_14]
    simp only [iv_L]
    rw [if_neg (by decide), if_neg (by decide), if_neg (by decide), if_neg (by decide), if_neg (by decide), h.2.2.1.1, f1]
    exact ⟨cf, rfl, f2, CR_FZ f3 hC, FD_FZ f3 x⟩
  | some o =>
    have hlt := lix_lt ho
    rw [show oi (some o) = (o : Int) from rfl, if_neg (by rw [iv_lt (by omega) (by omega)]; omega)]
    dsimp only
    by_cases e5 : o ≤ 5
    · rw [if_neg (by rw [iv_lt (by omega) (by omega)]; omega), if_pos e5]
      obtain ⟨c2, g1, g2⟩ := k26 (l := l) hxy h hn ht hC hK (o := o) e5 d
      rw [g1]
      exact ⟨c2, rfl, g2⟩
    · rw [if_pos (by rw [iv_lt (by omega) (by omega)]; omega), if_neg e5, q_25_14]
      simp only [iv_L]
      have he : ∀ k : Nat, k < 100 → (iv (o : Int) = iv (k : Int)) = (o = k) := by
        intro k hk
        rw [iv_eq (by omega) (by omega)]
        apply propext
        omega
      have t6 : (iv (o : Int) = iv 6) = (o = 6) := he 6 (by omega)
      have t10 : (iv (o : Int) = iv 10) = (o = 10) := he 10 (by omega)
      have t11 : (iv (o : Int) = iv 11) = (o = 11) := he 11 (by omega)
      have t15 : (iv (o : Int) = iv 15) = (o = 15) := he 15 (by omega)
      have t16 : (iv (o : Int) = iv 16) = (o = 16) := he 16 (by omega)
      simp only [t6, t10, t11, t15, t16]
      by_cases e6 : o = 6
      · rw [if_pos e6, if_pos e6]
        obtain ⟨c2, g1, g2⟩ := k29 (l := l) hxy h hn ht hz0 hC hK d
        rw [g1]
        exact ⟨c2, rfl, g2⟩
      rw [if_neg e6, if_neg e6]
      by_cases e10 : o = 10
      · rw [if_pos e10, if_pos e10]
        obtain ⟨c2, g1, g2⟩ := k30 (l := l) hxy h hn ht hC hK d
        rw [g1]
        exact ⟨c2, rfl, g2⟩
      rw [if_neg e10, if_neg e10]
      by_cases e11 : o = 11
      · rw [if_pos e11, if_pos e11]
        obtain ⟨c2, g1, g2⟩ := k32 (l := l) hxy h hn ht hC hK d
        rw [g1]
        exact ⟨c2, rfl, g2⟩
      rw [if_neg e11, if_neg e11]
      by_cases e15 : o = 15
      · rw [if_pos e15, if_pos e15]
        obtain ⟨c2, g1, g2⟩ := k34 (l := l) hxy h hn ht hC hK d
        rw [g1]
        exact ⟨c2, rfl, g2⟩
      rw [if_neg e15, if_neg e15]
      by_cases e16 : o = 16
      · rw [if_pos e16, if_pos e16]
        obtain ⟨c2, g1, g2⟩ := k35 (l := l) hxy h hn ht hz0 hC hK d
        rw [g1]
        exact ⟨c2, rfl, g2⟩
      rw [if_neg e16, if_neg e16, h.2.2.1.1, f1]
      exact ⟨cf, rfl, f2, CR_FZ f3 hC, FD_FZ f3 x⟩
theorem CR_0 (hc : (c 4 y 9 = iv 0 ∧ c 4 y 10 = iv 0 ∧ c 4 y 11 = iv 0 ∧ c 4 y 12 = iv 0 ∧ c 4 y 13 = iv 0) ∧ c 4 y 14 = iv (-1) ∧ c 4 y 15 = iv (-1)) : CR c y K0 :=
  ⟨⟨hc.1.1, fun w hw => absurd hw (Nat.not_lt_zero _)⟩, ⟨hc.1.2.1, fun w hw => absurd hw (Nat.not_lt_zero _)⟩, ⟨hc.1.2.2.1, fun w hw => absurd hw (Nat.not_lt_zero _)⟩, ⟨hc.1.2.2.2.1, fun w hw => absurd hw (Nat.not_lt_zero _)⟩, ⟨hc.1.2.2.2.2, fun w hw => absurd hw (Nat.not_lt_zero _)⟩, hc.2⟩
/-- all statements -/
theorem k24 (hxy : x < 2 ∧ y < 2 ∧ x ≠ y) (hT : TC c tp n) (hn : n ≤ 1600) (ht : ∀ i, tp i < 256) (d : Nat) : ∃ c2 : Nat → Nat → Nat → Int32, E (d + 6) 24 [vr 3 0] (c, l, x, y) = some (some (vi (iv (oi (txtZ tp n).1))), c2, l, x, y) ∧ CZ c2 tp n (txtZ tp n).2.2 ∧ CR c2 y (txtZ tp n).2.1 ∧ FD c c2 x ∧ ((txtZ tp n).1.isSome = true → (txtZ tp n).2.2.2 = none) := by
  have key : ∀ (m cnt : Nat) (K : Ct) (z : Tz) (c : Nat → Nat → Nat → Int32), cnt + m = 70 → z.2 = none → CZ c tp n z → CR c y K → VK K → ∃ c2 : Nat → Nat → Nat → Int32, X (d + 6) 24 8 [some (vr 3 0), some (vi (iv (cnt : Nat)))] [] (c, l, x, y) = some (some (vi (iv (oi (rdZ tp n m cnt K z).1))), c2, l, x, y) ∧ CZ c2 tp n (rdZ tp n m cnt K z).2.2 ∧ CR c2 y (rdZ tp n m cnt K z).2.1 ∧ FD c c2 x ∧ ((rdZ tp n m cnt K z).1.isSome = true → (rdZ tp n m cnt K z).2.2.2 = none) := by
    intro m
    induction m with
    | zero =>
      intro cnt K z c hm hz h hC hK
      have hs := sgn_bd (n := n) ht z.1
      have hp := h.2.1
      have : cnt = 70 := by omega
      subst this
      unfold rdZ
      rw [q_24_8]
      simp only [iv_L, iv_L2, iv_neg, h.2.2.1.2.2, h.2.2.1.1]
      have hse : (iv (sgnT tp n z.1) = iv (-1)) = (sgnT tp n z.1 = -1) := iv_eq (by omega) (by omega)
      simp only [hse]
      simp (disch := omega) only [iv_lt, if_neg]
      by_cases e : sgnT tp n z.1 = -1
      · rw [if_pos e, if_pos e]
        exact ⟨c, rfl, h, hC, FD.refl c x, fun _ => hz⟩
      · rw [if_neg e, if_neg e]
        obtain ⟨c2, g1, g2, g3⟩ := e95 (l := l) (x := x) (y := y) h (k := 5) (p := z.1.1) (by omega) (by omega) (d + 4)
        have g1 : E (d + 5) 95 [vr 1 0, vi (iv 5), vi (iv (z.1.1 : Nat))] (c, l, x, y) = _ := g1
        rw [g1]
        exact ⟨c2, rfl, g2, CR_FZ g3 hC, FD_FZ g3 x, fun q => by cases q⟩
    | succ m ih =>
      intro cnt K z c hm hz h hC hK
      have hs := sgn_bd (n := n) ht z.1
      unfold rdZ
      rw [q_24_8]
      simp only [iv_L, iv_L2, iv_neg, h.2.2.1.2.2]
      have hse : (iv (sgnT tp n z.1) = iv (-1)) = (sgnT tp n z.1 = -1) := iv_eq (by omega) (by omega)
      simp only [hse]
      simp (disch := omega) only [iv_lt, if_pos]
      by_cases e : sgnT tp n z.1 = -1
      · rw [if_pos e, if_pos e]
        exact ⟨c, rfl, h, hC, FD.refl c x, fun _ => hz⟩
      · rw [if_neg e, if_neg e]
        obtain ⟨c1, g1, g2, g3, g4⟩ := k25 (l := l) hxy h hn ht hz hC hK d
        obtain ⟨c2, k1, k2, k3⟩ := e98 (l := l) (x := x) (y := y) g2 hn ht (sg := 59) (by omega) (d + 2)
        have hf := flt_iff k2
        rw [g1]
        simp only [am_bv_v]
        rw [k1]
        simp only [am_bi_v, hf]
        have hst : tkZ tp n 59 (rsZ tp n K z).2 = (stZ tp n K z).2 := rfl
        have hst1 : (rsZ tp n K z).1 = (stZ tp n K z).1 := rfl
        rw [hst] at k2 ⊢
        rw [hst1] at g3
        have hFD : FD c c2 x := g4.tr (FD_FZ k3 x)
        by_cases e2 : (stZ tp n K z).2.2 = none
        · rw [if_pos e2, if_pos e2]
          obtain ⟨c3, j1, j2, j3, j4, j5⟩ := ih (cnt + 1) (stZ tp n K z).1 (stZ tp n K z).2 c2 (by omega) e2 k2 (CR_FZ k3 g3) (rsZ_VK hK)
          refine ⟨c3, ?_, j2, j3, hFD.tr j4, j5⟩
          rw [iv_add]
          exact j1
        · rw [if_neg e2, if_neg e2]
          exact ⟨c2, rfl, k2, CR_FZ k3 g3, hFD, fun q => by cases q⟩
  obtain ⟨c1, g1, g2, g3⟩ := e91 (l := l) (x := x) (y := y) hT hn ht (d + 2)
  have hF : FD c1 (am_ui (am_ui (am_ui (am_ui (am_ui (am_ui (am_ui c1 4 y 9 0) 4 y 10 0) 4 y 11 0) 4 y 12 0) 4 y 13 0) 4 y 14 (-1)) 4 y 15 (-1)) x := ((((((FD.ui _ _ _ _ (by omega)).tr (FD.ui _ _ _ _ (by omega))).tr (FD.ui _ _ _ _ (by omega))).tr (FD.ui _ _ _ _ (by omega))).tr (FD.ui _ _ _ _ (by omega))).tr (FD.ui _ _ _ _ (by omega))).tr (FD.ui _ _ _ _ (by omega))
  obtain ⟨c2, k1, k2, k3, k4, k5⟩ := key 70 0 K0 (nxtQ tp n 0 false, none) (am_ui (am_ui (am_ui (am_ui (am_ui (am_ui (am_ui c1 4 y 9 0) 4 y 10 0) 4 y 11 0) 4 y 12 0) 4 y 13 0) 4 y 14 (-1)) 4 y 15 (-1)) rfl rfl (CZ_FD g2 (by simp only [ui_nk _ _ _ _ (show (1 : Nat) ≠ 4 by decide)]) (by simp only [ui_nk _ _ _ _ (show (2 : Nat) ≠ 4 by decide)])) (CR_0 ⟨⟨by
      rw [ui_ne _ _ _ _ (by omega), ui_ne _ _ _ _ (by omega), ui_ne _ _ _ _ (by omega), ui_ne _ _ _ _ (by omega), ui_ne _ _ _ _ (by omega), ui_ne _ _ _ _ (by omega), ui_self]; rfl, by
      rw [ui_ne _ _ _ _ (by omega), ui_ne _ _ _ _ (by omega), ui_ne _ _ _ _ (by omega), ui_ne _ _ _ _ (by omega), ui_ne _ _ _ _ (by omega), ui_self]; rfl, by
      rw [ui_ne _ _ _ _ (by omega), ui_ne _ _ _ _ (by omega), ui_ne _ _ _ _ (by omega), ui_ne _ _ _ _ (by omega), ui_self]; rfl, by
      rw [ui_ne _ _ _ _ (by omega), ui_ne _ _ _ _ (by omega), ui_ne _ _ _ _ (by omega), ui_self]; rfl, by
      rw [ui_ne _ _ _ _ (by omega), ui_ne _ _ _ _ (by omega), ui_self]; rfl⟩, by
      rw [ui_ne _ _ _ _ (by omega), ui_self]; rfl, by
      rw [ui_self]; rfl⟩) VK_0
  refine ⟨c2, ?_, k2, k3, ((FD_FZ g3 x).tr hF).tr k4, k5⟩
  rw [q_24, g1]
  simp only [am_bv_v]
  rw [q_12]
  simp only [am_bv_v]
  exact k1
end
