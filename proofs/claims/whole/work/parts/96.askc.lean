/-! the class's ask: sums -/
/-- what the reading of a QUESTION writes -/
def FQ (c c2 : Nat → Nat → Nat → Int32) : Prop := (∀ k, k ≠ 1 → k ≠ 44 → c2 k = c k) ∧ (∀ i j, (j < 2 ∨ 6 < j) → c2 1 i j = c 1 i j) ∧ ∀ i j, j ≠ 5 → c2 44 i j = c 44 i j
/-- the CASE that is read for -/
def CX (c : Nat → Nat → Nat → Int32) (x : Nat) (K : Ct) (F : Nat) (q : Cx) : Prop := c 44 0 3 = iv q.1 ∧ c 44 0 4 = iv q.2.2.1 ∧ ((q.1 = -1 ∧ q.2.1 = []) ∨ ∃ i, i < nC K ∧ q.1 = (i : Int) ∧ q.2.1 = csK K i) ∧ (0 ≤ q.2.2.1 ∧ q.2.2.1 ≤ 2) ∧ q.2.2.2 = b01 (q.2.2.1 = tru K) ∧ JR c x K F
/-- how it comes back: m more may be opened -/
def RC (c c2 : Nat → Nat → Nat → Int32) (tp : Nat → Nat) (n m : Nat) (q : Cx) (w : List Nat × Tz) (r : Int32) : Prop := CZ c2 tp n w.2 ∧ FQ c c2 ∧ (w.2.2 = none → c2 44 0 5 = iv (6 - (m : Int)) ∧ ∃ v, r = iv v ∧ (-1000000 ≤ v ∧ v ≤ 1000000) ∧ Val q w.1 v)
/-- method M reads f, D calls deep at most -/
def CT (l : Nat → Nat → Int64) (x y : Nat) (tp : Nat → Nat) (n : Nat) (K : Ct) (F : Nat) (q : Cx) (m M D : Nat) (f : Tz → List Nat × Tz) : Prop := ∀ (d : Nat) (c : Nat → Nat → Nat → Int32) (z : Tz), D ≤ d → CZ c tp n z → CX c x K F q → (z.2 = none → c 44 0 5 = iv (6 - (m : Int))) → ∃ (c2 : Nat → Nat → Nat → Int32) (r : Int32), E d M [vr 44 0] (c, l, x, y) = some (some (vi r), c2, l, x, y) ∧ RC c c2 tp n m q (f z) r
section
variable {c : Nat → Nat → Nat → Int32} {l : Nat → Nat → Int64} {x y : Nat} {tp : Nat → Nat} {n : Nat} {z : Tz} {K : Ct} {F : Nat} {q : Cx} {m : Nat}
theorem FQ.refl (c : Nat → Nat → Nat → Int32) : FQ c c := ⟨fun _ _ _ => rfl, fun _ _ _ => rfl, fun _ _ _ => rfl⟩
theorem FQ.tr {c1 c2 c3 : Nat → Nat → Nat → Int32} (h : FQ c1 c2) (g : FQ c2 c3) : FQ c1 c3 := ⟨fun k h1 h2 => (g.1 k h1 h2).trans (h.1 k h1 h2), fun i j hj => (g.2.1 i j hj).trans (h.2.1 i j hj), fun i j hj => (g.2.2 i j hj).trans (h.2.2 i j hj)⟩
theorem FQ_FZ {c2 : Nat → Nat → Nat → Int32} (h : FZ c c2) : FQ c c2 := ⟨fun k h1 _ => h.1 k h1, h.2, fun i j _ => by rw [h.1 44 (by omega)]⟩
theorem FQ_5 (c : Nat → Nat → Nat → Int32) (v : Int32) : FQ c (am_ui c 44 0 5 v) := ⟨fun k _ h => ui_nk _ _ _ _ h, fun i j _ => by rw [ui_nk _ _ _ _ (by omega)], fun i j h => ui_ne _ _ _ _ (by omega)⟩
theorem CX_FQ {c2 : Nat → Nat → Nat → Int32} (h : FQ c c2) (g : CX c x K F q) : CX c2 x K F q := by
  obtain ⟨g1, g2, g3, g4, g5, g6⟩ := g
  exact ⟨by rw [h.2.2 0 3 (by omega)]; exact g1, by rw [h.2.2 0 4 (by omega)]; exact g2, g3, g4, g5, JR_fr g6 (fun k h1 h2 => h.1 k (by omega) (by omega))⟩
theorem FZ_5 {c2 : Nat → Nat → Nat → Int32} (h : FZ c c2) : c2 44 0 5 = c 44 0 5 := by rw [h.1 44 (by omega)]
theorem CZ_5 (h : CZ c tp n z) (v : Int32) : CZ (am_ui c 44 0 5 v) tp n z := CZ_FD h (ui_nk _ _ _ _ (by omega)) (ui_nk _ _ _ _ (by omega))
theorem CZ_flt (h : CZ c tp n z) : (c 1 0 5 = iv 0) = (z.2 = none) := by
  have h4 := h.2.2.2
  cases hz : z.2 with
  | none =>
    rw [hz] at h4
    have h4 : c 1 0 5 = iv 0 ∧ c 1 0 6 = iv (-1) := h4
    rw [h4.1]
    exact propext ⟨fun _ => rfl, fun _ => rfl⟩
  | some f =>
    rw [hz] at h4
    have h4 : (c 1 0 5 = iv (f.1 : Nat) ∧ c 1 0 6 = iv (f.2 : Nat)) ∧ (1 ≤ f.1 ∧ f.1 ≤ 5) ∧ f.2 ≤ 1600 := h4
    rw [h4.1.1]
    refine propext ⟨fun e => ?_, fun e => by cases e⟩
    rw [iv_eq (by omega) (by omega)] at e
    omega
theorem CZ_sgn (h : CZ c tp n z) : c 1 0 4 = iv (sgnT tp n z.1) := h.2.2.1.2.2
theorem CZ_at (h : CZ c tp n z) : c 1 0 2 = iv (z.1.1 : Nat) := h.2.2.1.1
theorem i32_64 (r : Int32) : r.toInt64 = jv r.toInt := by
  have h := jv_of (a := r.toInt) ⟨Int32.le_toInt r, Int32.toInt_lt r⟩
  rw [← iv_self r] at h
  exact h
/-- a loop's end -/
theorem RC_stop (h : CZ c tp n z) {cs : List Nat} {r : Int32} (hv : z.2 = none → c 44 0 5 = iv (6 - (m : Int)) ∧ ∃ v, r = iv v ∧ (-1000000 ≤ v ∧ v ≤ 1000000) ∧ Val q cs v) : RC c c tp n m q (cs, z) r := ⟨h, FQ.refl c, hv⟩
theorem prd_loop (hn : n ≤ 1600) (ht : ∀ i, tp i < 256) {D : Nat} {f : Tz → List Nat × Tz} (hD : 4 ≤ D) (hP : CT l x y tp n K F q m 67 D f) {d : Nat} (hd : D ≤ d) : ∀ (k : Nat) (cs : List Nat) (z : Tz) (c : Nat → Nat → Nat → Int32) (v1 : Int32), k ≤ 1600 → CZ c tp n z → CX c x K F q → (z.2 = none → c 44 0 5 = iv (6 - (m : Int)) ∧ ∃ v, v1 = iv v ∧ (-1000000 ≤ v ∧ v ≤ 1000000) ∧ Val q cs v) → ∃ (c2 : Nat → Nat → Nat → Int32) (r : Int32), X (d + 1) 66 5 [some (vr 44 0), some (vi v1), some (vi (iv (1600 - (k : Int)))), none, none] [] (c, l, x, y) = some (some (vi r), c2, l, x, y) ∧ RC c c2 tp n m q (lpZ f (mulO tp n) tp n k cs z) r := by
  intro k
  induction k with
  | zero =>
    intro cs z c v1 hk h hX hv
    refine ⟨c, v1, ?_, RC_stop h hv⟩
    rw [q_66_5]
    simp (disch := omega) only [iv_add, iv_sub, iv_mul, iv_neg, iv_lt, iv_le, iv_eq, iv_nat, iv_L, iv_L2, am_bi_v, am_bv_v, am_bl_v, if_pos, if_neg, Int.toNat_natCast, Int.toNat_add, Int.toNat_mul, Int.reduceToNat]
    all_goals rfl
  | succ k ih =>
    intro cs z c v1 hk h hX hv
    have hs := sgn_bd (n := n) ht z.1
    have hf := CZ_flt h
    rw [q_66_5, CZ_sgn h]
    have e42 : (iv (sgnT tp n z.1) = 42) = (sgnT tp n z.1 = 42) := iv_eq (b := 42) (by omega) (by omega)
    have e47 : (iv (sgnT tp n z.1) = 47) = (sgnT tp n z.1 = 47) := iv_eq (b := 47) (by omega) (by omega)
    have h16 : iv (1600 - ((k + 1 : Nat) : Int)) < 1600 := by
      show iv (1600 - ((k + 1 : Nat) : Int)) < iv 1600
      rw [iv_lt (by omega) (by omega)]
      omega
    rw [if_pos h16]
    simp only [iv_L, hf, e42, e47]
    unfold lpZ
    by_cases hz : z.2 = none
    · rw [if_pos hz, if_pos hz]
      obtain ⟨h5, v, hv1, hvb, hvV⟩ := hv hz
      obtain ⟨c1, a1, a2, a3⟩ := e92 (l := l) (x := x) (y := y) h hn ht (d - 2)
      have a1 : E d 92 [vr 1 0] (c, l, x, y) = some (none, c1, l, x, y) := by rw [← a1, show d - 2 + 2 = d by omega]
      have hX1 := CX_FQ (FQ_FZ a3) hX
      obtain ⟨c2, r, b1, b2, b3, b4⟩ := hP d c1 (avZ tp n z) hd a2 hX1 (fun _ => by rw [FZ_5 a3]; exact h5)
      have hX2 := CX_FQ b3 hX1
      have hFQ := (FQ_FZ a3).tr b3
      have hi : iv (1600 - ((k + 1 : Nat) : Int)) + iv 1 = iv (1600 - (k : Int)) := by rw [iv_add, show 1600 - ((k + 1 : Nat) : Int) + 1 = 1600 - (k : Int) by omega]
      have rb : -2147483648 ≤ r.toInt ∧ r.toInt < 2147483648 := ⟨Int32.le_toInt r, Int32.toInt_lt r⟩
      unfold mulO
      by_cases s1 : sgnT tp n z.1 = 42
      · simp only [s1, if_true]
        rw [q_66_30, a1]
        simp only [am_bv_v]
        rw [b1]
        simp only [am_bi_v, iv_L]
        have hm : v1.toInt64 * r.toInt64 = jv (v * r.toInt) := by
          rw [hv1, jv_of (by omega), i32_64 r, jv_mul]
        have hmb : -4000000000000000000 ≤ v * r.toInt ∧ v * r.toInt ≤ 4000000000000000000 := by
          have h1 : (v * r.toInt).natAbs ≤ 1000000 * 2147483648 := by
            rw [Int.natAbs_mul]
            exact Nat.mul_le_mul (by omega) (by omega)
          omega
        have h74 := e74 (c := c2) (l := l) (x := x) (y := y) hmb (d - 1)
        rw [show d - 1 + 1 = d by omega] at h74
        rw [if_neg (show ¬ iv 1 = iv 0 by decide), hm, h74]
        simp only [am_bi_v]
        rw [hi]
        obtain ⟨c3, r3, g1, g2, g3, g4⟩ := ih (cs ++ (f (avZ tp n z)).1 ++ [3]) (f (avZ tp n z)).2 c2 (iv (clp (v * r.toInt))) (by omega) b2 hX2 (fun e => by
          obtain ⟨o1, w, o2, o3, o4⟩ := b4 e
          refine ⟨o1, clp (v * r.toInt), rfl, clp_bd _, ?_⟩
          have hV := Val_bin hvV o4 (cd := 3) (by omega)
          have hru : r.toInt = w := by rw [o2, iv_toInt (by omega)]
          have hb : binO 3 v w = clp (v * r.toInt) := by
            unfold binO
            rw [if_neg (by decide), if_neg (by decide), if_pos rfl, hru]
          rw [← hb]
          exact hV)
        exact ⟨c3, r3, g1, g2, hFQ.tr g3, g4⟩
      · by_cases s2 : sgnT tp n z.1 = 47
        · simp only [s2, if_true, show ¬ (47 : Int) = 42 by decide, if_false]
          rw [q_66_30, a1]
          simp only [am_bv_v]
          rw [b1]
          simp only [am_bi_v, iv_L]
          rw [if_pos trivial]
          have hgo : ∃ u : Int32, (if r = iv 0 then X (d + 1) 66 5 [some (vr 44 0), some (vi (iv 0)), some (vi (iv (1600 - ((k + 1 : Nat) : Int)) + iv 1)), none, none] [] (c2, l, x, y) else if r = iv 0 then none else X (d + 1) 66 5 [some (vr 44 0), some (vi (am_fd v1 r)), some (vi (iv (1600 - ((k + 1 : Nat) : Int)) + iv 1)), none, none] [] (c2, l, x, y)) = X (d + 1) 66 5 [some (vr 44 0), some (vi u), some (vi (iv (1600 - (k : Int)))), none, none] [] (c2, l, x, y) ∧ ∀ w, r = iv w → (-1000000 ≤ w ∧ w ≤ 1000000) → u = iv (binO 4 v w) := by
            rw [hi]
            by_cases e0 : r = iv 0
            · refine ⟨iv 0, by rw [if_pos e0], fun w h1 h2 => ?_⟩
              have hw : w = 0 := by
                rw [e0, iv_eq (by omega) (by omega)] at h1
                exact h1.symm
              have hb : binO 4 v 0 = 0 := by
                unfold binO
                rw [if_neg (by decide), if_neg (by decide), if_neg (by decide), if_pos rfl, if_pos rfl]
              rw [hw, hb]
            · refine ⟨am_fd v1 r, by rw [if_neg e0, if_neg e0], fun w h1 h2 => ?_⟩
              have hw : ¬ w = 0 := fun q => e0 (by rw [h1, q])
              rw [h1, hv1, am_fd_iv hvb h2 hw]
              unfold binO
              rw [if_neg (by decide), if_neg (by decide), if_neg (by decide), if_pos rfl, if_neg hw]
          obtain ⟨u, hu1, hu2⟩ := hgo
          rw [hu1]
          obtain ⟨c3, r3, g1, g2, g3, g4⟩ := ih (cs ++ (f (avZ tp n z)).1 ++ [4]) (f (avZ tp n z)).2 c2 u (by omega) b2 hX2 (fun e => by
            obtain ⟨o1, w, o2, o3, o4⟩ := b4 e
            refine ⟨o1, binO 4 v w, hu2 w o2 o3, ?_, Val_bin hvV o4 (cd := 4) (by omega)⟩
            unfold binO
            rw [if_neg (by decide), if_neg (by decide), if_neg (by decide), if_pos rfl]
            split
            · omega
            · exact fdv_bd v w hvb)
          exact ⟨c3, r3, g1, g2, hFQ.tr g3, g4⟩
        · simp only [s1, s2, if_false]
          exact ⟨c, v1, rfl, RC_stop h hv⟩
    · rw [if_neg hz, if_neg hz]
      exact ⟨c, v1, rfl, RC_stop h hv⟩
theorem sum_loop (hn : n ≤ 1600) (ht : ∀ i, tp i < 256) {D : Nat} {f : Tz → List Nat × Tz} (hD : 4 ≤ D) (hP : CT l x y tp n K F q m 66 D f) {d : Nat} (hd : D ≤ d) : ∀ (k : Nat) (cs : List Nat) (z : Tz) (c : Nat → Nat → Nat → Int32) (v1 : Int32), k ≤ 1600 → CZ c tp n z → CX c x K F q → (z.2 = none → c 44 0 5 = iv (6 - (m : Int)) ∧ ∃ v, v1 = iv v ∧ (-1000000 ≤ v ∧ v ≤ 1000000) ∧ Val q cs v) → ∃ (c2 : Nat → Nat → Nat → Int32) (r : Int32), X (d + 1) 65 5 [some (vr 44 0), some (vi v1), some (vi (iv (1600 - (k : Int)))), none, none] [] (c, l, x, y) = some (some (vi r), c2, l, x, y) ∧ RC c c2 tp n m q (lpZ f (addO tp n) tp n k cs z) r := by
  intro k
  induction k with
  | zero =>
    intro cs z c v1 hk h hX hv
    refine ⟨c, v1, ?_, RC_stop h hv⟩
    rw [q_65_5]
    simp (disch := omega) only [iv_add, iv_sub, iv_mul, iv_neg, iv_lt, iv_le, iv_eq, iv_nat, iv_L, iv_L2, am_bi_v, am_bv_v, am_bl_v, if_pos, if_neg, Int.toNat_natCast, Int.toNat_add, Int.toNat_mul, Int.reduceToNat]
    all_goals rfl
  | succ k ih =>
    intro cs z c v1 hk h hX hv
    have hs := sgn_bd (n := n) ht z.1
    have hf := CZ_flt h
    rw [q_65_5, CZ_sgn h]
    have e42 : (iv (sgnT tp n z.1) = 43) = (sgnT tp n z.1 = 43) := iv_eq (b := 43) (by omega) (by omega)
    have e47 : (iv (sgnT tp n z.1) = 45) = (sgnT tp n z.1 = 45) := iv_eq (b := 45) (by omega) (by omega)
    have h16 : iv (1600 - ((k + 1 : Nat) : Int)) < 1600 := by
      show iv (1600 - ((k + 1 : Nat) : Int)) < iv 1600
      rw [iv_lt (by omega) (by omega)]
      omega
    rw [if_pos h16]
    have h0 : (c 1 0 5 = 0) = (z.2 = none) := hf
    simp only [h0, e42, e47]
    unfold lpZ
    by_cases hz : z.2 = none
    · rw [if_pos hz, if_pos hz]
      obtain ⟨h5, v, hv1, hvb, hvV⟩ := hv hz
      obtain ⟨c1, a1, a2, a3⟩ := e92 (l := l) (x := x) (y := y) h hn ht (d - 2)
      have a1 : E d 92 [vr 1 0] (c, l, x, y) = some (none, c1, l, x, y) := by rw [← a1, show d - 2 + 2 = d by omega]
      have hX1 := CX_FQ (FQ_FZ a3) hX
      obtain ⟨c2, r, b1, b2, b3, b4⟩ := hP d c1 (avZ tp n z) hd a2 hX1 (fun _ => by rw [FZ_5 a3]; exact h5)
      have hX2 := CX_FQ b3 hX1
      have hFQ := (FQ_FZ a3).tr b3
      have hi : iv (1600 - ((k + 1 : Nat) : Int)) + 1 = iv (1600 - (k : Int)) := by
        show iv (1600 - ((k + 1 : Nat) : Int)) + iv 1 = _
        rw [iv_add, show 1600 - ((k + 1 : Nat) : Int) + 1 = 1600 - (k : Int) by omega]
      have rb : -2147483648 ≤ r.toInt ∧ r.toInt < 2147483648 := ⟨Int32.le_toInt r, Int32.toInt_lt r⟩
      have hfin : ∀ (cd : Nat) (w : Int), (cd = 1 ∧ w = v + r.toInt ∨ cd = 2 ∧ w = v - r.toInt) → ∃ (c3 : Nat → Nat → Nat → Int32) (r3 : Int32), am_bi (E d 74 [vl (jv w)] (c2, l, x, y)) (fun r5 g4 => X (d + 1) 65 5 [some (vr 44 0), some (vi r5), some (vi (iv (1600 - ((k + 1 : Nat) : Int)) + 1)), none, none] [] g4) = some (some (vi r3), c3, l, x, y) ∧ RC c c3 tp n m q (lpZ f (addO tp n) tp n k (cs ++ (f (avZ tp n z)).1 ++ [cd]) (f (avZ tp n z)).2) r3 := by
        intro cd w hw
        have h74 := e74 (a := w) (c := c2) (l := l) (x := x) (y := y) (by omega) (d - 1)
        rw [show d - 1 + 1 = d by omega] at h74
        rw [h74]
        simp only [am_bi_v]
        rw [hi]
        obtain ⟨c3, r3, g1, g2, g3, g4⟩ := ih (cs ++ (f (avZ tp n z)).1 ++ [cd]) (f (avZ tp n z)).2 c2 (iv (clp w)) (by omega) b2 hX2 (fun e => by
          obtain ⟨o1, u, o2, o3, o4⟩ := b4 e
          refine ⟨o1, clp w, rfl, clp_bd _, ?_⟩
          have hV := Val_bin hvV o4 (cd := cd) (by omega)
          have hru : r.toInt = u := by rw [o2, iv_toInt (by omega)]
          have hb : binO cd v u = clp w := by
            unfold binO
            rcases hw with ⟨rfl, h2⟩ | ⟨rfl, h2⟩
            · rw [if_pos rfl, h2, hru]
            · rw [if_neg (by decide), if_pos rfl, h2, hru]
          rw [← hb]
          exact hV)
        exact ⟨c3, r3, g1, g2, hFQ.tr g3, g4⟩
      unfold addO
      by_cases s1 : sgnT tp n z.1 = 43
      · simp only [s1, if_true]
        rw [q_65_30, a1]
        simp only [am_bv_v]
        rw [b1]
        simp only [am_bi_v]
        have hm : v1.toInt64 + r.toInt64 = jv (v + r.toInt) := by
          rw [hv1, jv_of (by omega), i32_64 r, jv_add]
        rw [if_neg (show ¬ (1 : Int32) = 0 by decide), hm]
        exact hfin 1 _ (Or.inl ⟨rfl, rfl⟩)
      · by_cases s2 : sgnT tp n z.1 = 45
        · simp only [s2, if_true, show ¬ (45 : Int) = 43 by decide, if_false]
          rw [q_65_30, a1]
          simp only [am_bv_v]
          rw [b1]
          simp only [am_bi_v]
          have hm : v1.toInt64 - r.toInt64 = jv (v - r.toInt) := by
            rw [hv1, jv_of (by omega), i32_64 r, jv_sub]
          rw [if_pos trivial, hm]
          exact hfin 2 _ (Or.inr ⟨rfl, rfl⟩)
        · simp only [s1, s2, if_false]
          exact ⟨c, v1, rfl, RC_stop h hv⟩
    · rw [if_neg hz, if_neg hz]
      exact ⟨c, v1, rfl, RC_stop h hv⟩
/-- products, sums -/
theorem e66 (hn : n ≤ 1600) (ht : ∀ i, tp i < 256) {D : Nat} {f : Tz → List Nat × Tz} (hD : 4 ≤ D) (hP : CT l x y tp n K F q m 67 D f) : CT l x y tp n K F q m 66 (D + 1) (prdZ tp n f) := by
  intro d c z hd h hX h5
  obtain ⟨d, rfl⟩ : ∃ e, d = e + 1 := ⟨d - 1, by omega⟩
  obtain ⟨c1, r1, a1, a2, a3, a4⟩ := hP d c z (by omega) h hX h5
  obtain ⟨c2, r2, b1, b2, b3, b4⟩ := prd_loop (l := l) (y := y) hn ht hD hP (d := d) (by omega) 1600 (f z).1 (f z).2 c1 r1 (by omega) a2 (CX_FQ a3 hX) a4
  refine ⟨c2, r2, ?_, b2, a3.tr b3, b4⟩
  rw [q_66, a1]
  exact b1
theorem e65 (hn : n ≤ 1600) (ht : ∀ i, tp i < 256) {D : Nat} {f : Tz → List Nat × Tz} (hD : 4 ≤ D) (hP : CT l x y tp n K F q m 67 D f) : CT l x y tp n K F q m 65 (D + 2) (sumZ tp n f) := by
  intro d c z hd h hX h5
  obtain ⟨d, rfl⟩ : ∃ e, d = e + 1 := ⟨d - 1, by omega⟩
  have hQ := e66 hn ht hD hP
  obtain ⟨c1, r1, a1, a2, a3, a4⟩ := hQ d c z (by omega) h hX h5
  obtain ⟨c2, r2, b1, b2, b3, b4⟩ := sum_loop (l := l) (y := y) hn ht (by omega) hQ (d := d) (by omega) 1600 (prdZ tp n f z).1 (prdZ tp n f z).2 c1 r1 (by omega) a2 (CX_FQ a3 hX) a4
  refine ⟨c2, r2, ?_, b2, a3.tr b3, b4⟩
  rw [q_65, a1]
  exact b1
end
