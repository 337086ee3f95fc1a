/-! the class's ask: parts -/
/-- what may still be opened, and how what stands in it is read -/
def OP (l : Nat → Nat → Int64) (x y : Nat) (tp : Nat → Nat) (n : Nat) (K : Ct) (F : Nat) (q : Cx) (m D : Nat) (f : Option (Tz → List Nat × Tz)) : Prop := (m = 0 ∧ f = none) ∨ ∃ (k : Nat) (P : Tz → List Nat × Tz), m = k + 1 ∧ f = some P ∧ CT l x y tp n K F q k 67 D P ∧ ∀ z : Tz, z.2.isSome = true → P z = ([], z)
section
variable {c : Nat → Nat → Nat → Int32} {l : Nat → Nat → Int64} {x y : Nat} {tp : Nat → Nat} {n : Nat} {z : Tz} {K : Ct} {F : Nat} {q : Cx} {m : Nat}
theorem tkZ_n {sg : Int} (h : (tkZ tp n sg z).2 = none) : z.2 = none := by
  cases hz : z.2 with
  | none => rfl
  | some f =>
    rw [tkZ_f (by rw [hz]; rfl), hz] at h
    cases h
theorem sumZ_n {P : Tz → List Nat × Tz} (hP : ∀ z : Tz, z.2.isSome = true → P z = ([], z)) (h : (sumZ tp n P z).2.2 = none) : z.2 = none := by
  cases hz : z.2 with
  | none => rfl
  | some f =>
    rw [sumZ_f hP (by rw [hz]; rfl)] at h
    rw [← hz]
    exact h
theorem CZ_le (h : CZ c tp n z) : z.1.1 ≤ n := h.2.1
theorem RC_bad {c2 : Nat → Nat → Nat → Int32} {w : List Nat × Tz} {r : Int32} (h : CZ c2 tp n w.2) (hf : FQ c c2) (hw : w.2.2 ≠ none) : RC c c2 tp n m q w r := ⟨h, hf, fun e => absurd e hw⟩
theorem e64_f {f : Nat × Nat} (h : CZ c tp n z) (hz : z.2 = some f) (d : Nat) : E (d + 1) 64 [vr 44 0] (c, l, x, y) = some (some (vi 0), c, l, x, y) := by
  have hf := CZ_flt h
  have h0 : ¬ c 1 0 5 = 0 := by
    show ¬ c 1 0 5 = iv 0
    rw [hf, hz]
    exact fun q => by cases q
  rw [q_64, if_neg h0, if_neg h0]
theorem e64_0 (h : CZ c tp n z) (hn : n ≤ 1600) (hz : z.2 = none) (h5 : c 44 0 5 = iv 6) (d : Nat) : ∃ c2 : Nat → Nat → Nat → Int32, E (d + 2) 64 [vr 44 0] (c, l, x, y) = some (some (vi 0), c2, l, x, y) ∧ CZ c2 tp n (flZ 4 z.1.1 z) ∧ FQ c c2 := by
  have hp := CZ_le h
  have h0 : c 1 0 5 = 0 := by
    show c 1 0 5 = iv 0
    rw [CZ_flt h]; exact hz
  obtain ⟨c2, g1, g2, g3⟩ := e95 (l := l) (x := x) (y := y) h (k := 4) (p := z.1.1) (by omega) (by omega) d
  have g1 : E (d + 1) 95 [vr 1 0, vi 4, vi (iv (z.1.1 : Nat))] (c, l, x, y) = _ := g1
  have hne : ¬ c2 1 0 5 = 0 := by
    show ¬ c2 1 0 5 = iv 0
    rw [CZ_flt g2]
    exact flZ_ns _ _ _
  rw [q_64, if_pos h0, h5, if_neg (show ¬ iv 6 < 6 by decide), CZ_at h, g1]
  simp only [am_bv_v]
  rw [if_neg hne]
  exact ⟨c2, rfl, g2, FQ_FZ g3⟩
theorem e64_s {k : Nat} (hk : k < 6) (h : CZ c tp n z) (hz : z.2 = none) (h5 : c 44 0 5 = iv (6 - ((k + 1 : Nat) : Int))) (d : Nat) : E (d + 1) 64 [vr 44 0] (c, l, x, y) = some (some (vi 1), am_ui c 44 0 5 (iv (6 - (k : Int))), l, x, y) := by
  have h0 : c 1 0 5 = 0 := by
    show c 1 0 5 = iv 0
    rw [CZ_flt h]; exact hz
  have h6 : iv (6 - ((k + 1 : Nat) : Int)) < 6 := by
    show iv (6 - ((k + 1 : Nat) : Int)) < iv 6
    rw [iv_lt (by omega) (by omega)]
    omega
  have h7 : iv (6 - ((k + 1 : Nat) : Int)) + 1 = iv (6 - (k : Int)) := by
    show iv (6 - ((k + 1 : Nat) : Int)) + iv 1 = _
    rw [iv_add, show 6 - ((k + 1 : Nat) : Int) + 1 = 6 - (k : Int) by omega]
  rw [q_64, if_pos h0, h5, if_pos h6, if_pos h0, h7]
theorem opn_dec {k : Nat} (hk : k < 6) (h5 : c 44 0 5 = iv (6 - (k : Int))) : c 44 0 5 - 1 = iv (6 - ((k + 1 : Nat) : Int)) := by
  rw [h5]
  show iv (6 - (k : Int)) - iv 1 = _
  rw [iv_sub, show 6 - (k : Int) - 1 = 6 - ((k + 1 : Nat) : Int) by omega]
theorem e68_45 (hn : n ≤ 1600) (ht : ∀ i, tp i < 256) {k : Nat} (hk : k < 6) {z1 : Tz} {cs : List Nat} {v : Int32} (h : CZ c tp n z1) (hv : z1.2 = none → c 44 0 5 = iv (6 - (k : Int)) ∧ ∃ w, v = iv w ∧ (-1000000 ≤ w ∧ w ≤ 1000000) ∧ Val q cs w) (d : Nat) : ∃ (c2 : Nat → Nat → Nat → Int32) (r : Int32), X (d + 4) 68 45 [some (vr 44 0), none, some (vi v), none] [] (c, l, x, y) = some (some (vi r), c2, l, x, y) ∧ RC c c2 tp n (k + 1) q (cs, tkZ tp n 41 z1) r := by
  obtain ⟨c1, a1, a2, a3⟩ := e98 (l := l) (x := x) (y := y) h hn ht (sg := 41) (by omega) d
  have a1 : E (d + 3) 98 [vr 1 0, vi 41] (c, l, x, y) = _ := a1
  rw [q_68_45, a1]
  simp only [am_bi_v]
  refine ⟨_, v, rfl, CZ_5 a2 _, (FQ_FZ a3).tr (FQ_5 _ _), fun e => ?_⟩
  obtain ⟨o1, w, o2, o3, o4⟩ := hv (tkZ_n e)
  have h5 : c1 44 0 5 = iv (6 - (k : Int)) := by rw [FZ_5 a3]; exact o1
  exact ⟨by rw [ui_self, opn_dec hk h5], w, o2, o3, o4⟩
theorem e68 (hn : n ≤ 1600) (ht : ∀ i, tp i < 256) {D : Nat} {f : Option (Tz → List Nat × Tz)} (hD : 4 ≤ D) (hm : m ≤ 6) (hP : OP l x y tp n K F q m D f) {d : Nat} (hd : D + 3 ≤ d) (h : CZ c tp n z) (hX : CX c x K F q) (hz : z.2 = none) (h5 : c 44 0 5 = iv (6 - (m : Int))) {a : Int32} {w : Nat} (ha : (a = -1 ∧ w = 0) ∨ (a = 16 ∧ w = 5) ∨ (a = 17 ∧ w = 6)) : ∃ (c2 : Nat → Nat → Nat → Int32) (r : Int32), E d 68 [vr 44 0, vi a] (c, l, x, y) = some (some (vi r), c2, l, x, y) ∧ RC c c2 tp n m q (brZ tp n f w z) r := by
  obtain ⟨d, rfl⟩ : ∃ e, d = e + 4 := ⟨d - 4, by omega⟩
  have hs := sgn_bd (n := n) ht z.1
  have hp := CZ_le h
  have e40 : (iv (sgnT tp n z.1) = 40) = (sgnT tp n z.1 = 40) := iv_eq (b := 40) (by omega) (by omega)
  rw [q_68, CZ_sgn h]
  unfold brZ
  by_cases s1 : sgnT tp n z.1 = 40
  · rw [if_pos (e40.mpr s1), if_neg (show ¬ sgnT tp n z.1 ≠ 40 from fun q => q s1), q_68_12]
    rcases hP with ⟨rfl, rfl⟩ | ⟨k, P, rfl, rfl, hP, hPf⟩
    · obtain ⟨c2, g1, g2, g3⟩ := e64_0 (l := l) (x := x) (y := y) h hn hz h5 (d + 1)
      rw [g1]
      simp only [am_bi_v]
      rw [if_pos trivial]
      exact ⟨c2, 0, rfl, RC_bad g2 g3 (flZ_ns _ _ _)⟩
    · have g1 := e64_s (l := l) (x := x) (y := y) (k := k) (by omega) h hz h5 (d + 2)
      have hS := e65 hn ht hD hP
      obtain ⟨c1, a1, a2, a3⟩ := e92 (l := l) (x := x) (y := y) (CZ_5 h (iv (6 - (k : Int)))) hn ht (d + 1)
      have hX1 := CX_FQ ((FQ_5 c (iv (6 - (k : Int)))).tr (FQ_FZ a3)) hX
      obtain ⟨c2, r1, b1, b2, b3, b4⟩ := hS (d + 3) c1 (avZ tp n z) (by omega) a2 hX1 (fun _ => by rw [FZ_5 a3, ui_self])
      have hX2 := CX_FQ b3 hX1
      have hF2 : FQ c c2 := ((FQ_5 c (iv (6 - (k : Int)))).tr (FQ_FZ a3)).tr b3
      rw [g1]
      simp only [am_bi_v]
      rw [if_neg (show ¬ (1 : Int32) = 0 by decide), a1]
      simp only [am_bv_v]
      rw [b1]
      simp only [am_bi_v]
      rcases ha with ⟨rfl, rfl⟩ | ha
      · rw [if_pos (show (-1 : Int32) = -1 from rfl), if_pos rfl]
        obtain ⟨c3, r3, j1, j2, j3, j4⟩ := e68_45 (l := l) (x := x) (y := y) hn ht (k := k) (by omega) b2 b4 d
        exact ⟨c3, r3, j1, j2, hF2.tr j3, j4⟩
      · have hna : ¬ a = -1 := by
          rcases ha with ⟨rfl, -⟩ | ⟨rfl, -⟩ <;> decide
        rw [if_neg hna, if_neg (show ¬ w = 0 by omega)]
        obtain ⟨c3, t1, t2, t3⟩ := e98 (l := l) (x := x) (y := y) b2 hn ht (sg := 44) (by omega) d
        have t1 : E (d + 3) 98 [vr 1 0, vi 44] (c2, l, x, y) = _ := t1
        have hX3 := CX_FQ (FQ_FZ t3) hX2
        obtain ⟨c4, r4, u1, u2, u3, u4⟩ := hS (d + 3) c3 (tkZ tp n 44 (sumZ tp n P (avZ tp n z)).2) (by omega) t2 hX3 (fun e => by rw [FZ_5 t3]; exact (b4 (tkZ_n e)).1)
        have hF4 : FQ c c4 := (hF2.tr (FQ_FZ t3)).tr u3
        rw [t1]
        simp only [am_bi_v]
        rw [u1]
        simp only [am_bi_v]
        have hn2 : (sumZ tp n P (tkZ tp n 44 (sumZ tp n P (avZ tp n z)).2)).2.2 = none → (sumZ tp n P (avZ tp n z)).2.2 = none := fun e => tkZ_n (sumZ_n hPf e)
        rcases ha with ⟨rfl, rfl⟩ | ⟨rfl, rfl⟩
        · rw [if_pos (show (16 : Int32) = 16 from rfl)]
          obtain ⟨c5, r5, j1, j2, j3, j4⟩ := e68_45 (l := l) (x := x) (y := y) (v := if r4 < r1 then r4 else r1) (cs := (sumZ tp n P (avZ tp n z)).1 ++ (sumZ tp n P (tkZ tp n 44 (sumZ tp n P (avZ tp n z)).2)).1 ++ [5]) hn ht (k := k) (by omega) u2 (fun e => by
            obtain ⟨o1, wv, o2, o3, o4⟩ := u4 e
            obtain ⟨p1, pv, p2, p3, p4⟩ := b4 (hn2 e)
            have hb : binO 5 pv wv = if wv < pv then wv else pv := by
              unfold binO
              rw [if_neg (by decide), if_neg (by decide), if_neg (by decide), if_neg (by decide), if_pos rfl]
              split <;> split <;> omega
            refine ⟨o1, binO 5 pv wv, ?_, ?_, Val_bin p4 o4 (by omega)⟩
            · rw [hb, o2, p2]
              have hlt : (iv wv < iv pv) = (wv < pv) := iv_lt (by omega) (by omega)
              simp only [hlt]
              split <;> rfl
            · rw [hb]
              split <;> omega) d
          exact ⟨c5, r5, j1, j2, hF4.tr j3, j4⟩
        · rw [if_neg (show ¬ (17 : Int32) = 16 by decide)]
          obtain ⟨c5, r5, j1, j2, j3, j4⟩ := e68_45 (l := l) (x := x) (y := y) (v := if r1 < r4 then r4 else r1) (cs := (sumZ tp n P (avZ tp n z)).1 ++ (sumZ tp n P (tkZ tp n 44 (sumZ tp n P (avZ tp n z)).2)).1 ++ [6]) hn ht (k := k) (by omega) u2 (fun e => by
            obtain ⟨o1, wv, o2, o3, o4⟩ := u4 e
            obtain ⟨p1, pv, p2, p3, p4⟩ := b4 (hn2 e)
            have hb : binO 6 pv wv = if pv < wv then wv else pv := by
              unfold binO
              rw [if_neg (by decide), if_neg (by decide), if_neg (by decide), if_neg (by decide), if_neg (by decide), if_pos rfl]
              split <;> split <;> omega
            refine ⟨o1, binO 6 pv wv, ?_, ?_, Val_bin p4 o4 (by omega)⟩
            · rw [hb, o2, p2]
              have hlt : (iv pv < iv wv) = (pv < wv) := iv_lt (by omega) (by omega)
              simp only [hlt]
              split <;> rfl
            · rw [hb]
              split <;> omega) d
          exact ⟨c5, r5, j1, j2, hF4.tr j3, j4⟩
  · rw [if_neg (fun e => s1 (e40.mp e)), if_pos (show sgnT tp n z.1 ≠ 40 from s1)]
    obtain ⟨c2, g1, g2, g3⟩ := e95 (l := l) (x := x) (y := y) h (k := 1) (p := z.1.1) (by omega) (by omega) (d + 2)
    have g1 : E (d + 3) 95 [vr 1 0, vi 1, vi (iv (z.1.1 : Nat))] (c, l, x, y) = _ := g1
    have hfl : (flZ 1 z.1.1 z).2 = some (1, z.1.1) := by rw [flZ_none hz]
    rw [CZ_at h, g1]
    simp only [am_bv_v]
    rw [q_68_12, e64_f g2 hfl]
    simp only [am_bi_v]
    rw [if_pos trivial]
    exact ⟨c2, 0, rfl, RC_bad g2 (FQ_FZ g3) (flZ_ns _ _ _)⟩
/-- simple parts -/
theorem e71 (h : CX c x K F q) (d : Nat) : E (d + 1) 71 [vr 44 0] (c, l, x, y) = some (some (vi (iv (q.2.1.length : Nat))), c, l, x, y) := by
  obtain ⟨g1, g2, g3, g4, g5, g6⟩ := h
  rw [q_71, g1]
  rcases g3 with ⟨e1, e2⟩ | ⟨i, hi, e1, e2⟩
  · rw [e1, e2, if_pos (show iv (-1) = -1 from rfl)]
    rfl
  · have h8 := g6.2.1.2.2.2.2.1.1
    have hc := (g6.1.2.2.2.2.1.2 i hi).1
    rw [e1, e2, if_neg (show ¬ iv (i : Int) = -1 by show ¬ iv (i : Int) = iv (-1); rw [iv_eq (by omega) (by omega)]; omega)]
    simp (disch := omega) only [iv_add, iv_sub, iv_mul, iv_neg, iv_lt, iv_le, iv_eq, iv_nat, iv_L, iv_L2, am_bi_v, am_bv_v, am_bl_v, if_pos, if_neg, Int.toNat_natCast, Int.toNat_add, Int.toNat_mul, Int.reduceToNat, hc]
theorem e70 (h : CX c x K F q) {a : Int} (ha : -2147483648 ≤ a ∧ a < 2147483648) (d : Nat) : E (d + 2) 70 [vr 44 0, vi (iv a)] (c, l, x, y) = some (some (vi (iv (atW q.2.1 a))), c, l, x, y) := by
  have h71 := e71 (l := l) (y := y) h d
  obtain ⟨g1, g2, g3, g4, g5, g6⟩ := h
  have hl : q.2.1.length ≤ 8 := by
    rcases g3 with ⟨e1, e2⟩ | ⟨i, hi, e1, e2⟩
    · rw [e2]; decide
    · rw [e2]; exact (g6.2.1.2.2.2.2.1.2 i hi).2.1
  have e1 : (iv a < 0) = (a < 0) := iv_lt (b := 0) ha (by omega)
  have e2 : (iv a < iv (q.2.1.length : Nat)) = (a < q.2.1.length) := iv_lt ha (by omega)
  rw [q_70]
  unfold atW
  by_cases n0 : a < 0
  · rw [if_pos (e1.mpr n0), if_neg (by omega)]
    rfl
  · rw [if_neg (fun q => n0 (e1.mp q)), h71]
    simp only [am_bi_v]
    by_cases n1 : a < q.2.1.length
    · rw [if_pos (e2.mpr n1)]
      rcases g3 with ⟨-, e4⟩ | ⟨i, hi, e3, e4⟩
      · rw [e4] at n1
        exact absurd n1 (by show ¬ a < ((0 : Nat) : Int); omega)
      · have h8 := g6.2.1.2.2.2.2.1.1
        rw [e4] at n1
        have hc := (g6.1.2.2.2.2.1.2 i hi).2 a.toNat (by omega)
        have hi2 : (iv a).toNatClampNeg = a.toNat := iv_nat ha
        rw [g1, e3, e4, if_pos (show 0 ≤ a ∧ a < ((csK K i).length : Int) from ⟨by omega, n1⟩)]
        rw [e4] at hl
        simp (disch := omega) only [iv_add, iv_sub, iv_mul, iv_neg, iv_lt, iv_le, iv_eq, iv_nat, iv_L, iv_L2, am_bi_v, am_bv_v, am_bl_v, if_pos, if_neg, Int.toNat_natCast, Int.toNat_add, Int.toNat_mul, Int.reduceToNat, hc]
    · rw [if_neg (fun q => n1 (e2.mp q)), if_neg (by omega)]
      rfl
theorem e72 (h : CX c x K F q) {a : Int} (ha : -2147483648 ≤ a ∧ a < 2147483648) (d : Nat) : E (d + 2) 72 [vr 44 0, vi (iv a)] (c, l, x, y) = some (some (vi (iv (hasW q.2.1 a))), c, l, x, y) := by
  have h71 := e71 (l := l) (y := y) h d
  obtain ⟨g1, g2, g3, g4, g5, g6⟩ := h
  rw [q_72, g1]
  rcases g3 with ⟨e3, e4⟩ | ⟨i, hi, e3, e4⟩
  · rw [e3, e4, if_pos (show iv (-1) = -1 from rfl)]
    rfl
  · have h8 := g6.2.1.2.2.2.2.1.1
    have h20 := g6.2.1.1.1
    have hcs := g6.2.1.2.2.2.2.1.2 i hi
    have h104 := e104 (c := c) (l := l) (x := x) (y := y) (kd := 16) (ki := i + x * 8) (by omega) (ws := csK K i) (fun k hk => (g6.1.2.2.2.2.1.2 i hi).2 k hk) hcs.2.1 (fun w hw => by have := hcs.2.2 w hw; omega) ha d
    rw [e4] at h71
    rw [e3, e4, if_neg (show ¬ iv (i : Int) = -1 by show ¬ iv (i : Int) = iv (-1); rw [iv_eq (by omega) (by omega)]; omega)]
    simp (disch := omega) only [iv_add, iv_sub, iv_mul, iv_neg, iv_lt, iv_le, iv_eq, iv_nat, iv_L, iv_L2, am_bi_v, am_bv_v, am_bl_v, if_pos, if_neg, Int.toNat_natCast, Int.toNat_add, Int.toNat_mul, Int.reduceToNat]
    rw [h71]
    simp only [am_bi_v]
    rw [h104]
    rfl
end
