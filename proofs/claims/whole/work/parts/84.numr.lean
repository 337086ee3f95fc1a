/-! the reference: numbers, new words, words told -/
section
variable {c : Nat → Nat → Nat → Int32} {l : Nat → Nat → Int64} {x y : Nat} {tp : Nat → Nat} {n : Nat} {z : Tz} {s : Ts} {K : Ct}
theorem e169 (h : RZ c tp n z) {most : Nat} (hm : most < 10000) (d : Nat) : ∃ (c2 : Nat → Nat → Nat → Int32) (v : Int32), E (d + 4) 169 [vr 48 0, vi (iv 0), vi (iv (most : Nat))] (c, l, x, y) = some (some (vi v), c2, l, x, y) ∧ FR c c2 ∧ RZ c2 tp n (tnZ tp n most z).2 ∧ ∀ a, (tnZ tp n most z).1 = some a → v = iv (a : Nat) := by
  cases hz : z.2 with
  | some f =>
    rw [tnZ_f (by rw [hz]; rfl)]
    refine ⟨c, iv 0, ?_, FR.refl c, h, fun a q => by cases q⟩
    rw [tz_eta z hz] at h
    rw [q_169, if_neg (RZ_bad h)]
    rfl
  | none =>
    rw [tz_eta z hz] at h ⊢
    generalize z.1 = s at h ⊢
    have h4 := h.2.2.2.1
    have hb := bt_bd (n := n) h.2.1.2 s.1
    have h48 := sgn48_iff (tp := tp) (n := n) (s := s)
    obtain ⟨c1, g1, g2, g3⟩ := e150 (l := l) (x := x) (y := y) h (d + 2)
    have hen := ended_iff g2
    have h5 := g2.2.2.2.2.1
    rw [h5] at hen
    obtain ⟨hn0, ht0⟩ := h.2.1
    have hle : s.1 ≤ n := by obtain ⟨_, _, q, _⟩ := g2.2.2.2.2.2; exact q
    have hfail : ∀ (q : Nat), q ≤ 1600 → ∃ c2 : Nat → Nat → Nat → Int32, E (d + 3) 152 [vr 48 0, vi 1, vi (iv (q : Nat))] (c1, l, x, y) = some (none, c2, l, x, y) ∧ RZ c2 tp n (flZ 1 q (s, none)) ∧ FR c1 c2 := fun q hq => e152 (l := l) (x := x) (y := y) (RL_RZ g2) (k := 1) (p := q) (by omega) hq (d + 2)
    unfold tnZ
    dsimp only
    rw [if_neg (show ¬ (none : Option (Nat × Nat)).isSome = true by decide), q_169, h4.1, if_pos (by rfl), g1]
    simp only [am_bi_v]
    rw [e170 hb]
    simp only [am_bi_v, hen, h5]
    by_cases hL : 48 ≤ btT tp n s.1 ∧ btT tp n s.1 ≤ 57
    · rw [if_pos hL, if_neg (show ¬ iv 1 = 0 by decide)]
      cases hg : s.2 with
      | true =>
        have hns : sgnT tp n s ≠ 48 := fun q => by rw [(h48.mp q).2] at hg; cases hg
        rw [if_pos rfl, if_pos hns]
        obtain ⟨c2, k1, k2, k3⟩ := hfail s.1 (by omega)
        rw [k1]
        exact ⟨c2, 0, rfl, g3.tr k3, k2, fun a q => by cases q⟩
      | false =>
        have hs48 := h48.mpr ⟨hL, hg⟩
        have hs1 := sgn_48 hs48
        have hln := lenT_le (tp := tp) hle
        have hdig := runT_dig hs48
        have hrl := runT_len (tp := tp) (n := n) s.1
        have hlen : lenT tp n s.1 = runN tp 48 (n - s.1) s.1 := by unfold lenT; rw [if_pos hs1.1, if_pos (Or.inr hs1.2.1), hs1.2.1]
        rw [if_neg Bool.false_ne_true, if_neg (show ¬ sgnT tp n s ≠ 48 from fun q => q hs48)]
        -- the digits
        have key : ∀ (m j : Nat) (c3 : Nat → Nat → Nat → Int32), s.1 + j + m = n → j + runN tp 48 m (s.1 + j) = lenT tp n s.1 → j ≤ 4 → RT c3 tp n → CH c3 → (c3 48 0 5 = iv 0 ∧ c3 48 0 6 = iv (-1)) → c3 48 0 2 = iv ((s.1 + j : Nat) : Int) → ∃ (c4 : Nat → Nat → Nat → Int32) (v : Int32), X (d + 4) 169 26 [some (vr 48 0), some (vi (iv 0)), some (vi (iv (most : Nat))), some (vi (iv (s.1 : Nat))), some (vi (iv (numP (runT tp n s.1) j : Nat)))] [] (c3, l, x, y) = some (some (vi v), c4, l, x, y) ∧ FR c3 c4 ∧ (if 4 < lenT tp n s.1 then RZ c4 tp n (s, some (1, s.1 + 4)) else v = iv (valT tp n s.1 : Nat) ∧ (if most < valT tp n s.1 then RZ c4 tp n (s, some (2, s.1)) else RZ c4 tp n (nxtT tp n s, none))) := by
          intro m
          have hend : ∀ (j : Nat) (c3 : Nat → Nat → Nat → Int32), j = lenT tp n s.1 → j ≤ 4 → RT c3 tp n → CH c3 → (c3 48 0 5 = iv 0 ∧ c3 48 0 6 = iv (-1)) → c3 48 0 2 = iv ((s.1 + j : Nat) : Int) → ∃ (c4 : Nat → Nat → Nat → Int32) (v : Int32), X (d + 4) 169 70 [some (vr 48 0), some (vi (iv 0)), some (vi (iv (most : Nat))), some (vi (iv (s.1 : Nat))), some (vi (iv (numP (runT tp n s.1) j : Nat)))] [] (c3, l, x, y) = some (some (vi v), c4, l, x, y) ∧ FR c3 c4 ∧ (if 4 < lenT tp n s.1 then RZ c4 tp n (s, some (1, s.1 + 4)) else v = iv (valT tp n s.1 : Nat) ∧ (if most < valT tp n s.1 then RZ c4 tp n (s, some (2, s.1)) else RZ c4 tp n (nxtT tp n s, none))) := by
            intro j c3 hj hj4 hT hH hf h2
            have hval : valT tp n s.1 = numP (runT tp n s.1) j := by
              unfold valT numP
              rw [List.take_of_length_le (by omega)]
            have hbd : numP (runT tp n s.1) j < 10000 := Nat.lt_of_lt_of_le (numP_lt hdig j (by omega)) (Nat.pow_le_pow_right (by decide) (show j ≤ 4 by omega) : 10 ^ j ≤ 10 ^ 4)
            have hF : FR c3 (am_ui c3 48 0 4 (iv ((s.1 + j : Nat) : Int))) := FR.ui _ _ (by omega)
            have hZ : RZ (am_ui c3 48 0 4 (iv ((s.1 + j : Nat) : Int))) tp n (nxtT tp n s, none) := by
              refine ⟨FR_RT hF hT, h.2.1, FR_CH hF hH, ⟨by rw [ui_ne _ _ _ _ (by omega)]; exact hf.1, by rw [ui_ne _ _ _ _ (by omega)]; exact hf.2⟩, s.1 + j, ((s.1 + j : Nat) : Int), ?_, ui_self _ _ _ _, by omega, by omega, ?_, ?_⟩
              · rw [ui_ne _ _ _ _ (by omega)]; exact h2
              · rw [hj]; rfl
              · rw [hj]
                unfold nxtT nxtQ
                dsimp only
                rw [decide_eq_true (Or.inr hs48), Bool.true_and, decide_eq_true_eq]
                omega
            rw [q_169_70, h2, jv_of (by omega), jv_of (by omega), jv_of (by omega), e171 (by omega) (by omega) (by omega)]
            simp only [am_bi_v]
            rw [hval]
            by_cases hv : most < numP (runT tp n s.1) j
            · rw [if_neg (show ¬ (0 ≤ ((numP (runT tp n s.1) j : Nat) : Int) ∧ ((numP (runT tp n s.1) j : Nat) : Int) ≤ (most : Nat)) by omega), if_pos (show iv 0 = 0 from rfl)]
              obtain ⟨c4, k1, k2, k3⟩ := e152 (l := l) (x := x) (y := y) hZ (k := 2) (p := s.1) (by omega) (by omega) (d + 2)
              have k1 : E (d + 3) 152 [vr 48 0, vi 2, vi (iv (s.1 : Nat))] (am_ui c3 48 0 4 (iv ((s.1 + j : Nat) : Int)), l, x, y) = _ := k1
              rw [k1]
              refine ⟨c4, _, rfl, hF.tr k3, ?_⟩
              rw [if_neg (by omega)]
              refine ⟨rfl, ?_⟩
              rw [if_pos hv]
              exact k2
            · rw [if_pos (show (0 ≤ ((numP (runT tp n s.1) j : Nat) : Int) ∧ ((numP (runT tp n s.1) j : Nat) : Int) ≤ (most : Nat)) by omega), if_neg (show ¬ iv 1 = 0 by decide)]
              refine ⟨_, _, rfl, hF, ?_⟩
              rw [if_neg (by omega)]
              refine ⟨rfl, ?_⟩
              rw [if_neg hv]
              exact hZ
          induction m with
          | zero =>
            intro j c3 hj hr hj4 hT hH hf h2
            have hr : j = lenT tp n s.1 := hr
            rw [q_169_26]
            rw [if_neg (by rw [h2, hT.1, iv_lt (by omega) (by omega)]; omega)]
            exact hend j c3 hr hj4 hT hH hf h2
          | succ m ih =>
            intro j c3 hj hr hj4 hT hH hf h2
            have hcell := hT.2 (s.1 + j) (by omega)
            have hbb := ht0 (s.1 + j)
            have hcl := clB_48 (tp (s.1 + j))
            unfold runN at hr
            rw [q_169_26]
            simp only [h2, hT.1]
            simp (disch := omega) only [iv_L, iv_lt, iv_nat, if_pos, if_neg, Int.toNat_natCast, hcell]
            rw [e170 (by omega)]
            simp only [am_bi_v, h2, iv_sub]
            by_cases e1 : clB (tp (s.1 + j)) = 48
            · rw [if_pos e1] at hr
              rw [if_pos (show 48 ≤ (tp (s.1 + j) : Int) ∧ (tp (s.1 + j) : Int) ≤ 57 by omega), if_neg (show ¬ iv 1 = iv 0 by decide)]
              by_cases e4 : j = 4
              · rw [if_pos (show iv (((s.1 + j : Nat) : Int) - (s.1 : Nat)) = iv 4 by congr 1; omega)]
                have hfl : ∃ c4 : Nat → Nat → Nat → Int32, E (d + 3) 152 [vr 48 0, vi (iv 1), vi (iv ((s.1 + j : Nat) : Int))] (c3, l, x, y) = some (none, c4, l, x, y) ∧ RZ c4 tp n (s, some (1, s.1 + 4)) ∧ FR c3 c4 := by
                  have hF : FR c3 (am_ui (am_ui c3 48 0 5 (iv 1)) 48 0 6 (iv ((s.1 + j : Nat) : Int))) := (FR.ui _ _ (by omega)).tr (FR.ui _ _ (by omega))
                  refine ⟨_, by rw [q_152, hf.1, if_pos (by rfl)], ⟨FR_RT hF hT, h.2.1, FR_CH hF hH, ⟨?_, ?_⟩, (by decide : 1 ≤ 1 ∧ 1 ≤ 5), by show s.1 + 4 ≤ 1600; omega⟩, hF⟩
                  · rw [ui_ne _ _ _ _ (by omega), ui_self]; rfl
                  · rw [ui_self, e4]
                obtain ⟨c4, k1, k2, k3⟩ := hfl
                rw [k1]
                refine ⟨c4, 0, rfl, k3, ?_⟩
                rw [if_pos (by omega)]
                exact k2
              · rw [if_neg (show ¬ iv (((s.1 + j : Nat) : Int) - (s.1 : Nat)) = iv 4 by rw [iv_eq (by omega) (by omega)]; omega)]
                simp (disch := omega) only [iv_L, iv_L2, iv_add, iv_sub, iv_mul, iv_lt, iv_nat, if_neg, Int.toNat_natCast, hcell]
                have hjl : j < lenT tp n s.1 := by omega
                have hsn : numP (runT tp n s.1) (j + 1) = 10 * numP (runT tp n s.1) j + (tp (s.1 + j) - 48) := by
                  unfold numP
                  rw [take_succ_getD (by omega), List.foldl_append, List.getD_eq_getElem?_getD, runT_at hjl]
                  rfl
                have hF : FR c3 (am_ui c3 48 0 2 (iv (((s.1 + j : Nat) : Int) + 1))) := FR.ui _ _ (by omega)
                obtain ⟨c4, v, a1, a2, a3⟩ := ih (j + 1) (am_ui c3 48 0 2 (iv (((s.1 + j : Nat) : Int) + 1))) (by omega) (by rw [show s.1 + (j + 1) = s.1 + j + 1 by omega]; omega) (by omega) (FR_RT hF hT) (FR_CH hF hH) ⟨by rw [ui_ne _ _ _ _ (by omega)]; exact hf.1, by rw [ui_ne _ _ _ _ (by omega)]; exact hf.2⟩ (by rw [ui_self]; congr 1)
                refine ⟨c4, v, ?_, hF.tr a2, a3⟩
                rw [hsn] at a1
                rw [show (10 * ((numP (runT tp n s.1) j : Nat) : Int) + (tp (s.1 + j) : Int) - 48) = ((10 * numP (runT tp n s.1) j + (tp (s.1 + j) - 48) : Nat) : Int) by omega]
                exact a1
            · rw [if_neg e1] at hr
              rw [if_neg (show ¬ (48 ≤ (tp (s.1 + j) : Int) ∧ (tp (s.1 + j) : Int) ≤ 57) by omega), if_pos (show iv 0 = iv 0 from rfl)]
              exact hend j c3 (by omega) hj4 hT hH hf h2
        obtain ⟨c4, v, a1, a2, a3⟩ := key (n - s.1) 0 c1 (by omega) (by rw [hlen, Nat.zero_add, Nat.add_zero]) (by omega) g2.1 g2.2.2.1 g2.2.2.2.1 h5
        refine ⟨c4, v, a1, g3.tr a2, ?_⟩
        by_cases h6 : 4 < lenT tp n s.1
        · rw [if_pos h6] at a3 ⊢
          exact ⟨a3, fun a q => by cases q⟩
        · rw [if_neg h6] at a3 ⊢
          by_cases h7 : most < valT tp n s.1
          · rw [if_pos h7] at a3 ⊢
            exact ⟨a3.2, fun a q => by cases q⟩
          · rw [if_neg h7] at a3 ⊢
            exact ⟨a3.2, fun a q => by cases q; exact a3.1⟩
    · have hns : sgnT tp n s ≠ 48 := fun q => hL (h48.mp q).1
      rw [if_neg hL, if_pos (show iv 0 = 0 from rfl), if_pos hns]
      obtain ⟨c2, k1, k2, k3⟩ := hfail s.1 (by omega)
      rw [k1]
      exact ⟨c2, 0, rfl, g3.tr k3, k2, fun a q => by cases q⟩
/-- a new word -/
theorem e158 (h : RZ c tp n z) (hd : RD c l K) (hK : VK K) (d : Nat) : ∃ (c2 : Nat → Nat → Nat → Int32) (v : Int64), E (d + 5) 158 [vr 48 0] (c, l, x, y) = some (some (vl v), c2, l, x, y) ∧ FR c c2 ∧ RZ c2 tp n (nsZ tp n K z).2 ∧ ∀ s, (nsZ tp n K z).1 = some s → v = jv (e27 s) := by
  obtain ⟨c1, v, g1, g2, g3⟩ := e159 (l := l) (x := x) (y := y) h d
  rw [nsZ_eq, q_158, g1]
  simp only [am_bl_v]
  cases hs : (spZ tp n z).1 with
  | none =>
    rw [hs] at g3
    have hn2 := spZ_none hs
    have hf := RZ_flt g3
    simp only [iv_L, hf]
    rw [if_neg (fun q => by rw [q] at hn2; cases hn2)]
    exact ⟨c1, v, rfl, g2, g3, fun s q => by cases q⟩
  | some w =>
    rw [hs] at g3
    obtain ⟨rfl, g4, g5⟩ := g3
    have h0 := spZ_some hs
    have hz : z.2 = none := h0.2.2.1
    have hf := RZ_flt g4
    have hd1 := RD_FR g2 hd
    have h1600 : z.1.1 ≤ 1600 := by
      have := h.2.1.1
      have := (sgn_97 h0.2.2.2.1).1
      omega
    have h161 := e161 (c := c1) (x := x) (y := y) hd1 hK h0.1 (d + 3)
    have h162 := e162 (c := c1) (x := x) (y := y) hd1 hK h0.1 (d + 3)
    obtain ⟨c2, k1, k2, k3⟩ := e152 (l := l) (x := x) (y := y) g4 (k := 3) (p := z.1.1) (by omega) h1600 (d + 3)
    have k1 : E (d + 4) 152 [vr 48 0, vi 3, vi (iv (z.1.1 : Nat))] (c1, l, x, y) = _ := k1
    have k2' : RZ c2 tp n (flZ 3 z.1.1 z) := by
      rw [flZ_none (show (avZ tp n z).2 = none from hz)] at k2
      rw [flZ_none hz]
      exact k2
    rw [if_pos (show c1 48 0 5 = 0 from hf.mpr (show (avZ tp n z).2 = none from hz)), h161]
    simp only [am_bi_v]
    cases hfw : fndW K w with
    | some u =>
      have hu := (fndW_some hfw).1
      have h20 := hK.1.1
      have hgv : givB K w = true := by unfold givB; rw [hfw]; simp
      rw [if_neg (show ¬ iv (oi (some u)) = -1 by show ¬ iv (u : Int) = -iv 1; rw [iv_neg, iv_eq (by omega) (by omega)]; omega), g5, k1, if_pos hgv]
      exact ⟨c2, _, rfl, g2.tr k3, k2', fun s q => by cases q⟩
    | none =>
      rw [if_pos (show iv (oi none) = -1 from rfl), h162]
      simp only [am_bi_v]
      have hgv : givB K w = (List.range (nB K)).any (fun b => (bnK K b).1 == w) := by unfold givB; rw [hfw]; simp
      rw [hgv]
      cases ha : (List.range (nB K)).any (fun b => (bnK K b).1 == w) with
      | true =>
        rw [if_pos rfl, if_neg (show ¬ iv 1 = 0 by decide), g5, k1, if_pos rfl]
        exact ⟨c2, _, rfl, g2.tr k3, k2', fun s q => by cases q⟩
      | false =>
        rw [if_neg Bool.false_ne_true, if_pos (show iv 0 = 0 from rfl), if_neg Bool.false_ne_true]
        exact ⟨c1, _, rfl, g2, g4, fun s q => by cases q; rfl⟩
/-- a word that is told already -/
theorem e167p (h : RZ c tp n z) (hd : RD c l K) (hK : VK K) {kd : Int} (hkd : -1 ≤ kd ∧ kd < 100) (d : Nat) : ∃ (c2 : Nat → Nat → Nat → Int32) (v : Int32), E (d + 5) 167 [vr 48 0, vi (iv kd)] (c, l, x, y) = some (some (vi v), c2, l, x, y) ∧ FR c c2 ∧ RZ c2 tp n (twZ tp n K kd z).2 ∧ ∀ w, (twZ tp n K kd z).1 = some w → v = iv (w : Nat) ∧ c2 48 0 27 = iv (z.1.1 : Nat) := by
  obtain ⟨c1, v, g1, g2, g3⟩ := e159 (l := l) (x := x) (y := y) h d
  have hd1 := RD_FR g2 hd
  rw [twZ_eq, q_167, g1]
  simp only [am_bl_v]
  cases hs : (spZ tp n z).1 with
  | none =>
    rw [hs] at g3
    have hn2 := spZ_none hs
    have hf := RZ_flt g3
    obtain ⟨r, hr⟩ := e161a (c := c1) (x := x) (y := y) hd1 hK v (d + 3)
    have hne : ¬ (spZ tp n z).2.2 = none := fun q => by rw [q] at hn2; cases hn2
    rw [hr]
    simp only [am_bi_v, iv_L, hf]
    rw [if_neg hne, q_167_27]
    simp only [iv_L, hf]
    rw [if_neg hne]
    exact ⟨c1, _, rfl, g2, g3, fun s q => by cases q⟩
  | some s =>
    rw [hs] at g3
    obtain ⟨rfl, g4, g5⟩ := g3
    have h0 := spZ_some hs
    have hz : z.2 = none := h0.2.2.1
    have hf := RZ_flt g4
    have hfz := hf.mpr (show (avZ tp n z).2 = none from hz)
    have h1600 : z.1.1 ≤ 1600 := by
      have := h.2.1.1
      have := (sgn_97 h0.2.2.2.1).1
      omega
    have h161 := e161 (c := c1) (x := x) (y := y) hd1 hK h0.1 (d + 3)
    obtain ⟨c2, k1, k2, k3⟩ := e152 (l := l) (x := x) (y := y) g4 (k := 3) (p := z.1.1) (by omega) h1600 (d + 3)
    have k1 : E (d + 4) 152 [vr 48 0, vi 3, vi (iv (z.1.1 : Nat))] (c1, l, x, y) = _ := k1
    have k2' : RZ c2 tp n (flZ 3 z.1.1 z) := by
      rw [flZ_none (show (avZ tp n z).2 = none from hz)] at k2
      rw [flZ_none hz]
      exact k2
    have kf : ∀ u : Int32, X (d + 5) 167 27 [some (vr 48 0), none, none, none, some (vi u)] [] (c2, l, x, y) = some (some (vi 0), c2, l, x, y) := by
      intro u
      have hf2 := RZ_flt k2'
      rw [q_167_27]
      simp only [iv_L, hf2]
      rw [if_neg (flZ_ns _ _ _)]
    have kg : ∀ u : Int32, X (d + 5) 167 27 [some (vr 48 0), none, none, none, some (vi u)] [] (c1, l, x, y) = some (some (vi u), c1, l, x, y) := by
      intro u
      rw [q_167_27, hfz, if_pos (by rfl)]
    rw [h161]
    simp only [am_bi_v]
    rw [if_pos (show c1 48 0 5 = 0 from hfz)]
    cases hfw : fndW K s with
    | none =>
      rw [if_pos (show iv (oi none) = -1 from rfl), g5, k1]
      simp only [am_bv_v]
      rw [kf]
      exact ⟨c2, _, rfl, g2.tr k3, k2', fun s q => by cases q⟩
    | some w =>
      have hw := (fndW_some hfw).1
      have h20 := hK.1.1
      have h5 := (hK.1.2 w hw).2
      have hcell := (hd1.1.2 w hw).1
      rw [if_neg (show ¬ iv (oi (some w)) = -1 by show ¬ iv (w : Int) = -iv 1; rw [iv_neg, iv_eq (by omega) (by omega)]; omega)]
      dsimp only
      by_cases e1 : kd = -1
      · rw [if_pos (show iv kd = -1 by rw [e1]; rfl), if_pos (Or.inl e1), kg]
        exact ⟨c1, _, rfl, g2, g4, fun v q => by cases q; exact ⟨rfl, g5⟩⟩
      · rw [if_neg (show ¬ iv kd = -1 by show ¬ iv kd = -iv 1; rw [iv_neg, iv_eq (by omega) (by omega)]; omega)]
        rw [show oi (some w) = (w : Int) from rfl]
        simp (disch := omega) only [iv_L, iv_lt, iv_nat, if_neg, Int.toNat_natCast, hcell]
        by_cases e2 : (knd K w : Int) = kd
        · rw [if_pos (by rw [e2]), if_pos (Or.inr e2), kg]
          exact ⟨c1, _, rfl, g2, g4, fun v q => by cases q; exact ⟨rfl, g5⟩⟩
        · rw [if_neg (by rw [iv_eq (by omega) (by omega)]; exact e2), if_neg (show ¬ (kd = -1 ∨ (knd K w : Int) = kd) by omega), g5]
          have k1 : E (d + 4) 152 [vr 48 0, vi (iv 3), vi (iv (z.1.1 : Nat))] (c1, l, x, y) = _ := k1
          rw [k1]
          simp only [am_bv_v]
          rw [kf]
          exact ⟨c2, _, rfl, g2.tr k3, k2', fun s q => by cases q⟩
theorem e167 (h : RZ c tp n z) (hd : RD c l K) (hK : VK K) {kd : Int} (hkd : -1 ≤ kd ∧ kd < 100) (d : Nat) : ∃ (c2 : Nat → Nat → Nat → Int32) (v : Int32), E (d + 5) 167 [vr 48 0, vi (iv kd)] (c, l, x, y) = some (some (vi v), c2, l, x, y) ∧ FR c c2 ∧ RZ c2 tp n (twZ tp n K kd z).2 ∧ ∀ w, (twZ tp n K kd z).1 = some w → v = iv (w : Nat) := by
  obtain ⟨c2, v, h1, h2, h3, h4⟩ := e167p (x := x) (y := y) h hd hK hkd d
  exact ⟨c2, v, h1, h2, h3, fun w hw => (h4 w hw).1⟩
/-- whether a kind is full -/
theorem e157 (h : RZ c tp n z) (hz : z.2 = none) {k m r p : Nat} (hk : k < 10) (hc : c 68 0 k = iv (m : Nat)) (hm : m < 1000) (hr : r < 1000) (hp : p ≤ 1600) (d : Nat) : ∃ c2 : Nat → Nat → Nat → Int32, E (d + 2) 157 [vr 48 0, vi (iv (k : Nat)), vi (iv (r : Nat)), vi (iv (p : Nat))] (c, l, x, y) = some (some (vi (iv (if m = r then 1 else 0))), c2, l, x, y) ∧ FR c c2 ∧ RZ c2 tp n (if m = r then flZ 5 p z else z) := by
  have hf := (RZ_flt h).mpr hz
  obtain ⟨c2, k1, k2, k3⟩ := e152 (l := l) (x := x) (y := y) h (k := 5) (p := p) (by omega) hp d
  have k1 : E (d + 1) 152 [vr 48 0, vi 5, vi (iv (p : Nat))] (c, l, x, y) = _ := k1
  have hf2 := RZ_flt k2
  rw [q_157, hf, if_pos (by rfl)]
  simp (disch := omega) only [iv_lt, iv_nat, iv_L, if_neg, Int.toNat_natCast, hc]
  by_cases e : m = r
  · rw [if_pos (by rw [e]), if_pos e, if_pos e]
    simp only [iv_L] at k1
    rw [k1]
    simp only [am_bv_v, hf2]
    rw [if_neg (flZ_ns _ _ _)]
    exact ⟨c2, rfl, k3, k2⟩
  · rw [if_neg (by rw [iv_eq (by omega) (by omega)]; omega), if_neg e, if_neg e]
    exact ⟨c, rfl, FR.refl c, h⟩
end
