/-! the class's ask: tests -/
/-- a test comes back -/
def RT2 (c c2 : Nat → Nat → Nat → Int32) (tp : Nat → Nat) (n m : Nat) (q : Cx) (w : List Nat × Tz) (r : Int32) : Prop := CZ c2 tp n w.2 ∧ FQ c c2 ∧ (w.2.2 = none → c2 44 0 5 = iv (6 - (m : Int)) ∧ ∃ v, r = iv v ∧ (v = 0 ∨ v = 1) ∧ Val q w.1 v)
def CTB (l : Nat → Nat → Int64) (x y : Nat) (tp : Nat → Nat) (n : Nat) (K : Ct) (F : Nat) (q : Cx) (m M D : Nat) (f : Tz → List Nat × Tz) : Prop := ∀ (d : Nat) (c : Nat → Nat → Nat → Int32) (z : Tz), D ≤ d → CZ c tp n z → CX c x K F q → z.2 = none → c 44 0 5 = iv (6 - (m : Int)) → ∃ (c2 : Nat → Nat → Nat → Int32) (r : Int32), E d M [vr 44 0] (c, l, x, y) = some (some (vi r), c2, l, x, y) ∧ RT2 c c2 tp n m q (f z) r
def OT (l : Nat → Nat → Int64) (x y : Nat) (tp : Nat → Nat) (n : Nat) (K : Ct) (F : Nat) (q : Cx) (m D : Nat) (f : Option (Tz → List Nat × Tz)) : Prop := (m = 0 ∧ f = none) ∨ ∃ (k : Nat) (P : Tz → List Nat × Tz), m = k + 1 ∧ f = some P ∧ CTB l x y tp n K F q k 62 D P
section
variable {c : Nat → Nat → Nat → Int32} {l : Nat → Nat → Int64} {x y : Nat} {tp : Nat → Nat} {n : Nat} {z : Tz} {K : Ct} {F : Nat} {q : Cx} {m : Nat}
theorem RT_stop (h : CZ c tp n z) {cs : List Nat} {r : Int32} (hv : z.2 = none → c 44 0 5 = iv (6 - (m : Int)) ∧ ∃ v, r = iv v ∧ (v = 0 ∨ v = 1) ∧ Val q cs v) : RT2 c c tp n m q (cs, z) r := ⟨h, FQ.refl c, hv⟩
theorem RT_bad {c2 : Nat → Nat → Nat → Int32} {w : List Nat × Tz} {r : Int32} (h : CZ c2 tp n w.2) (hf : FQ c c2) (hw : w.2.2 ≠ none) : RT2 c c2 tp n m q w r := ⟨h, hf, fun e => absurd e hw⟩
theorem lix_iv {o : Nat} (ho : o < 100) (s : Ts) : (iv (oi (lixT tp n 1 s)) = iv (o : Nat)) = (lixT tp n 1 s = some o) := by
  cases h : lixT tp n 1 s with
  | none =>
    refine propext ⟨fun e => ?_, fun e => by cases e⟩
    have e : iv (-1) = iv (o : Nat) := e
    rw [iv_eq (by omega) (by omega)] at e
    omega
  | some k =>
    have hk := lix_lt h
    have e : (iv (k : Nat) = iv (o : Nat)) = ((k : Int) = (o : Int)) := iv_eq (by omega) (by omega)
    show (iv (k : Nat) = iv (o : Nat)) = _
    rw [e, Option.some_inj]
    exact propext Int.ofNat_inj
theorem and_loop (hn : n ≤ 1600) (ht : ∀ i, tp i < 256) {D : Nat} {f : Tz → List Nat × Tz} (hD : 4 ≤ D) (hP : CTB l x y tp n K F q m 62 D f) {d : Nat} (hd : D ≤ d) : ∀ (k : Nat) (cs : List Nat) (z : Tz) (c : Nat → Nat → Nat → Int32) (v1 : Int32), k ≤ 1600 → CZ c tp n z → CX c x K F q → (z.2 = none → c 44 0 5 = iv (6 - (m : Int)) ∧ ∃ v, v1 = iv v ∧ (v = 0 ∨ v = 1) ∧ Val q cs v) → ∃ (c2 : Nat → Nat → Nat → Int32) (r : Int32), X (d + 1) 61 5 [some (vr 44 0), some (vi v1), some (vi (iv (1600 - (k : Int))))] [] (c, l, x, y) = some (some (vi r), c2, l, x, y) ∧ RT2 c c2 tp n m q (lpZ f (andO tp n) tp n k cs z) r := by
  intro k
  induction k with
  | zero =>
    intro cs z c v1 hk h hX hv
    refine ⟨c, v1, ?_, RT_stop h hv⟩
    rw [q_61_5]
    simp (disch := omega) only [iv_add, iv_sub, iv_mul, iv_neg, iv_lt, iv_le, iv_eq, iv_nat, iv_L, iv_L2, am_bi_v, am_bv_v, am_bl_v, if_pos, if_neg, Int.toNat_natCast, Int.toNat_add, Int.toNat_mul, Int.reduceToNat]
    all_goals rfl
  | succ k ih =>
    intro cs z c v1 hk h hX hv
    have hf : (c 1 0 5 = 0) = (z.2 = none) := CZ_flt h
    have h16 : iv (1600 - ((k + 1 : Nat) : Int)) < 1600 := by
      show iv (1600 - ((k + 1 : Nat) : Int)) < iv 1600
      rw [iv_lt (by omega) (by omega)]
      omega
    rw [q_61_5, if_pos h16]
    simp only [hf]
    unfold lpZ
    by_cases hz : z.2 = none
    · rw [if_pos hz, if_pos hz]
      have h94 := e94 (l := l) (x := x) (y := y) h hn ht (t := 1) (by decide) (d - 1)
      rw [show d - 1 + 1 = d by omega] at h94
      rw [h94]
      simp only [am_bi_v]
      have e7 : (iv (oi (lixT tp n 1 z.1)) = 7) = (lixT tp n 1 z.1 = some 7) := lix_iv (o := 7) (by omega) z.1
      unfold andO
      by_cases s1 : lixT tp n 1 z.1 = some 7
      · obtain ⟨h5, v, hv1, hvb, hvV⟩ := hv hz
        obtain ⟨c1, a1, a2, a3⟩ := e92 (l := l) (x := x) (y := y) h hn ht (d - 2)
        have a1 : E d 92 [vr 1 0] (c, l, x, y) = some (none, c1, l, x, y) := by rw [← a1, show d - 2 + 2 = d by omega]
        have hX1 := CX_FQ (FQ_FZ a3) hX
        obtain ⟨c2, r, b1, b2, b3, b4⟩ := hP d c1 (avZ tp n z) hd a2 hX1 hz (by rw [FZ_5 a3]; exact h5)
        have hX2 := CX_FQ b3 hX1
        have hFQ := (FQ_FZ a3).tr b3
        have hi : iv (1600 - ((k + 1 : Nat) : Int)) + 1 = iv (1600 - (k : Int)) := by
          show iv (1600 - ((k + 1 : Nat) : Int)) + iv 1 = _
          rw [iv_add, show 1600 - ((k + 1 : Nat) : Int) + 1 = 1600 - (k : Int) by omega]
        rw [if_pos (e7.mpr s1), a1, if_pos s1]
        simp only [am_bv_v]
        rw [b1]
        simp only [am_bi_v]
        rw [hi]
        obtain ⟨c3, r3, g1, g2, g3, g4⟩ := ih (cs ++ (f (avZ tp n z)).1 ++ [10]) (f (avZ tp n z)).2 c2 (v1 &&& r) (by omega) b2 hX2 (fun e => by
          obtain ⟨o1, u, o2, o3, o4⟩ := b4 e
          have hV := Val_bin hvV o4 (cd := 10) (by omega)
          have hb : binO 10 v u = v * u := by
            unfold binO
            rw [if_neg (by decide), if_neg (by decide), if_neg (by decide), if_neg (by decide), if_neg (by decide), if_neg (by decide), if_neg (by decide), if_neg (by decide), if_neg (by decide), if_pos rfl]
          rw [hb] at hV
          refine ⟨o1, v * u, ?_, ?_, hV⟩
          · rw [hv1, o2]
            rcases hvb with rfl | rfl <;> rcases o3 with rfl | rfl <;> decide
          · rcases hvb with rfl | rfl <;> rcases o3 with rfl | rfl <;> omega)
        exact ⟨c3, r3, g1, g2, hFQ.tr g3, g4⟩
      · rw [if_neg (fun e => s1 (e7.mp e)), if_neg s1]
        exact ⟨c, v1, rfl, RT_stop h hv⟩
    · rw [if_neg hz, if_neg hz]
      exact ⟨c, v1, rfl, RT_stop h hv⟩
theorem or_loop (hn : n ≤ 1600) (ht : ∀ i, tp i < 256) {D : Nat} {f : Tz → List Nat × Tz} (hD : 4 ≤ D) (hP : CTB l x y tp n K F q m 61 D f) {d : Nat} (hd : D ≤ d) : ∀ (k : Nat) (cs : List Nat) (z : Tz) (c : Nat → Nat → Nat → Int32) (v1 : Int32), k ≤ 1600 → CZ c tp n z → CX c x K F q → (z.2 = none → c 44 0 5 = iv (6 - (m : Int)) ∧ ∃ v, v1 = iv v ∧ (v = 0 ∨ v = 1) ∧ Val q cs v) → ∃ (c2 : Nat → Nat → Nat → Int32) (r : Int32), X (d + 1) 60 5 [some (vr 44 0), some (vi v1), some (vi (iv (1600 - (k : Int))))] [] (c, l, x, y) = some (some (vi r), c2, l, x, y) ∧ RT2 c c2 tp n m q (lpZ f (orO tp n) tp n k cs z) r := by
  intro k
  induction k with
  | zero =>
    intro cs z c v1 hk h hX hv
    refine ⟨c, v1, ?_, RT_stop h hv⟩
    rw [q_60_5]
    simp (disch := omega) only [iv_add, iv_sub, iv_mul, iv_neg, iv_lt, iv_le, iv_eq, iv_nat, iv_L, iv_L2, am_bi_v, am_bv_v, am_bl_v, if_pos, if_neg, Int.toNat_natCast, Int.toNat_add, Int.toNat_mul, Int.reduceToNat]
    all_goals rfl
  | succ k ih =>
    intro cs z c v1 hk h hX hv
    have hf : (c 1 0 5 = 0) = (z.2 = none) := CZ_flt h
    have h16 : iv (1600 - ((k + 1 : Nat) : Int)) < 1600 := by
      show iv (1600 - ((k + 1 : Nat) : Int)) < iv 1600
      rw [iv_lt (by omega) (by omega)]
      omega
    rw [q_60_5, if_pos h16]
    simp only [hf]
    unfold lpZ
    by_cases hz : z.2 = none
    · rw [if_pos hz, if_pos hz]
      have h94 := e94 (l := l) (x := x) (y := y) h hn ht (t := 1) (by decide) (d - 1)
      rw [show d - 1 + 1 = d by omega] at h94
      rw [h94]
      simp only [am_bi_v]
      have e7 : (iv (oi (lixT tp n 1 z.1)) = 6) = (lixT tp n 1 z.1 = some 6) := lix_iv (o := 6) (by omega) z.1
      unfold orO
      by_cases s1 : lixT tp n 1 z.1 = some 6
      · obtain ⟨h5, v, hv1, hvb, hvV⟩ := hv hz
        obtain ⟨c1, a1, a2, a3⟩ := e92 (l := l) (x := x) (y := y) h hn ht (d - 2)
        have a1 : E d 92 [vr 1 0] (c, l, x, y) = some (none, c1, l, x, y) := by rw [← a1, show d - 2 + 2 = d by omega]
        have hX1 := CX_FQ (FQ_FZ a3) hX
        obtain ⟨c2, r, b1, b2, b3, b4⟩ := hP d c1 (avZ tp n z) hd a2 hX1 hz (by rw [FZ_5 a3]; exact h5)
        have hX2 := CX_FQ b3 hX1
        have hFQ := (FQ_FZ a3).tr b3
        have hi : iv (1600 - ((k + 1 : Nat) : Int)) + 1 = iv (1600 - (k : Int)) := by
          show iv (1600 - ((k + 1 : Nat) : Int)) + iv 1 = _
          rw [iv_add, show 1600 - ((k + 1 : Nat) : Int) + 1 = 1600 - (k : Int) by omega]
        rw [if_pos (e7.mpr s1), a1, if_pos s1]
        simp only [am_bv_v]
        rw [b1]
        simp only [am_bi_v]
        rw [hi]
        obtain ⟨c3, r3, g1, g2, g3, g4⟩ := ih (cs ++ (f (avZ tp n z)).1 ++ [11]) (f (avZ tp n z)).2 c2 (v1 ||| r) (by omega) b2 hX2 (fun e => by
          obtain ⟨o1, u, o2, o3, o4⟩ := b4 e
          have hV := Val_bin hvV o4 (cd := 11) (by omega)
          have hb : binO 11 v u = b01 (0 < v + u) := by
            unfold binO
            rw [if_neg (by decide), if_neg (by decide), if_neg (by decide), if_neg (by decide), if_neg (by decide), if_neg (by decide), if_neg (by decide), if_neg (by decide), if_neg (by decide), if_neg (by decide)]
          rw [hb] at hV
          refine ⟨o1, b01 (0 < v + u), ?_, ?_, hV⟩
          · rw [hv1, o2]
            rcases hvb with rfl | rfl <;> rcases o3 with rfl | rfl <;> decide
          · unfold b01
            split
            · exact Or.inr rfl
            · exact Or.inl rfl)
        exact ⟨c3, r3, g1, g2, hFQ.tr g3, g4⟩
      · rw [if_neg (fun e => s1 (e7.mp e)), if_neg s1]
        exact ⟨c, v1, rfl, RT_stop h hv⟩
    · rw [if_neg hz, if_neg hz]
      exact ⟨c, v1, rfl, RT_stop h hv⟩
theorem e61 (hn : n ≤ 1600) (ht : ∀ i, tp i < 256) {D : Nat} {f : Tz → List Nat × Tz} (hD : 4 ≤ D) (hP : CTB l x y tp n K F q m 62 D f) : CTB l x y tp n K F q m 61 (D + 1) (bthZ tp n f) := by
  intro d c z hd h hX hz h5
  obtain ⟨d, rfl⟩ : ∃ e, d = e + 1 := ⟨d - 1, by omega⟩
  obtain ⟨c1, r1, a1, a2, a3, a4⟩ := hP d c z (by omega) h hX hz h5
  obtain ⟨c2, r2, b1, b2, b3, b4⟩ := and_loop (l := l) (y := y) hn ht hD hP (d := d) (by omega) 1600 (f z).1 (f z).2 c1 r1 (by omega) a2 (CX_FQ a3 hX) a4
  refine ⟨c2, r2, ?_, b2, a3.tr b3, b4⟩
  rw [q_61, a1]
  exact b1
theorem e60 (hn : n ≤ 1600) (ht : ∀ i, tp i < 256) {D : Nat} {f : Tz → List Nat × Tz} (hD : 4 ≤ D) (hP : CTB l x y tp n K F q m 62 D f) : CTB l x y tp n K F q m 60 (D + 2) (tstZ tp n f) := by
  intro d c z hd h hX hz h5
  obtain ⟨d, rfl⟩ : ∃ e, d = e + 1 := ⟨d - 1, by omega⟩
  have hQ := e61 hn ht hD hP
  obtain ⟨c1, r1, a1, a2, a3, a4⟩ := hQ d c z (by omega) h hX hz h5
  obtain ⟨c2, r2, b1, b2, b3, b4⟩ := or_loop (l := l) (y := y) hn ht (by omega) hQ (d := d) (by omega) 1600 (bthZ tp n f z).1 (bthZ tp n f z).2 c1 r1 (by omega) a2 (CX_FQ a3 hX) a4
  refine ⟨c2, r2, ?_, b2, a3.tr b3, b4⟩
  rw [q_60, a1]
  exact b1
end
