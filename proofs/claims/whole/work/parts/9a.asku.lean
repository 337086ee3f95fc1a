/-! the class's ask: facts, the whole question -/
section
variable {c : Nat → Nat → Nat → Int32} {l : Nat → Nat → Int64} {x y : Nat} {tp : Nat → Nat} {n : Nat} {z : Tz} {K : Ct} {F : Nat} {q : Cx} {m : Nat}
theorem e63_1 (hn : n ≤ 1600) (ht : ∀ i, tp i < 256) {D : Nat} {f : Option (Tz → List Nat × Tz)} (hD : 4 ≤ D) (hm : m ≤ 6) (hP : OT l x y tp n K F q m D f) {d : Nat} (hd : D + 1 ≤ d) (h : CZ c tp n z) (hX : CX c x K F q) (hz : z.2 = none) (h5 : c 44 0 5 = iv (6 - (m : Int))) : ∃ (c2 : Nat → Nat → Nat → Int32) (r : Int32), E d 63 [vr 44 0, vi 1] (c, l, x, y) = some (some (vi r), c2, l, x, y) ∧ RT2 c c2 tp n m q (atZ tp n f 12 z) r := by
  obtain ⟨d, rfl⟩ : ∃ e, d = e + 4 := ⟨d - 4, by omega⟩
  rw [q_63]
  unfold atZ
  rcases hP with ⟨rfl, rfl⟩ | ⟨k, P, rfl, rfl, hP⟩
  · obtain ⟨c2, g1, g2, g3⟩ := e64_0 (l := l) (x := x) (y := y) h hn hz h5 (d + 1)
    rw [g1]
    simp only [am_bi_v]
    rw [if_pos trivial]
    exact ⟨c2, 0, rfl, RT_bad g2 g3 (flZ_ns _ _ _)⟩
  · have g1 := e64_s (l := l) (x := x) (y := y) (k := k) (by omega) h hz h5 (d + 2)
    obtain ⟨c1, a1, a2, a3⟩ := e92 (l := l) (x := x) (y := y) (CZ_5 h (iv (6 - (k : Int)))) hn ht (d + 1)
    have hX1 := CX_FQ ((FQ_5 c (iv (6 - (k : Int)))).tr (FQ_FZ a3)) hX
    obtain ⟨c2, r1, b1, b2, b3, b4⟩ := hP (d + 3) c1 (avZ tp n z) (by omega) a2 hX1 hz (by rw [FZ_5 a3, ui_self])
    have hF2 : FQ c (am_ui c2 44 0 5 (c2 44 0 5 - 1)) := (((FQ_5 c (iv (6 - (k : Int)))).tr (FQ_FZ a3)).tr b3).tr (FQ_5 _ _)
    rw [g1]
    simp only [am_bi_v]
    rw [if_neg (show ¬ (1 : Int32) = 0 by decide), a1]
    simp only [am_bv_v]
    rw [if_neg (show ¬ (1 : Int32) = 0 by decide), b1]
    simp only [am_bi_v]
    rw [if_neg (show ¬ (1 : Int32) = 0 by decide)]
    refine ⟨_, _, rfl, CZ_5 b2 _, hF2, fun e => ?_⟩
    obtain ⟨o1, v, o2, o3, o4⟩ := b4 e
    refine ⟨by rw [ui_self, opn_dec (by omega) o1], 1 - v, ?_, by omega, ?_⟩
    · rw [o2]
      show iv 1 - iv v = _
      rw [iv_sub]
    · exact Val_un o4 (fun st => by
        unfold stp
        rw [if_neg (by decide), if_neg (by decide), if_neg (by decide), if_neg (by decide), if_neg (by decide), if_neg (by decide)]
        dsimp only
        rw [if_pos rfl])
theorem e63_0 (hn : n ≤ 1600) (ht : ∀ i, tp i < 256) {D : Nat} {f : Option (Tz → List Nat × Tz)} (hD : 4 ≤ D) (hm : m ≤ 6) (hP : OT l x y tp n K F q m D f) {d : Nat} (hd : D + 3 ≤ d) (h : CZ c tp n z) (hX : CX c x K F q) (hz : z.2 = none) (h5 : c 44 0 5 = iv (6 - (m : Int))) : ∃ (c2 : Nat → Nat → Nat → Int32) (r : Int32), E d 63 [vr 44 0, vi 0] (c, l, x, y) = some (some (vi r), c2, l, x, y) ∧ RT2 c c2 tp n m q (sqZ tp n f z) r := by
  obtain ⟨d, rfl⟩ : ∃ e, d = e + 4 := ⟨d - 4, by omega⟩
  rw [q_63]
  unfold sqZ
  rcases hP with ⟨rfl, rfl⟩ | ⟨k, P, rfl, rfl, hP⟩
  · obtain ⟨c2, g1, g2, g3⟩ := e64_0 (l := l) (x := x) (y := y) h hn hz h5 (d + 1)
    rw [g1]
    simp only [am_bi_v]
    rw [if_pos trivial]
    exact ⟨c2, 0, rfl, RT_bad g2 g3 (flZ_ns _ _ _)⟩
  · have g1 := e64_s (l := l) (x := x) (y := y) (k := k) (by omega) h hz h5 (d + 2)
    obtain ⟨c1, a1, a2, a3⟩ := e92 (l := l) (x := x) (y := y) (CZ_5 h (iv (6 - (k : Int)))) hn ht (d + 1)
    have hX1 := CX_FQ ((FQ_5 c (iv (6 - (k : Int)))).tr (FQ_FZ a3)) hX
    obtain ⟨c2, r1, b1, b2, b3, b4⟩ := (e60 hn ht hD hP) (d + 3) c1 (avZ tp n z) (by omega) a2 hX1 hz (by rw [FZ_5 a3, ui_self])
    obtain ⟨c3, t1, t2, t3⟩ := e98 (l := l) (x := x) (y := y) b2 hn ht (sg := 93) (by omega) d
    have t1 : E (d + 3) 98 [vr 1 0, vi 93] (c2, l, x, y) = _ := t1
    have hF3 : FQ c (am_ui c3 44 0 5 (c3 44 0 5 - 1)) := ((((FQ_5 c (iv (6 - (k : Int)))).tr (FQ_FZ a3)).tr b3).tr (FQ_FZ t3)).tr (FQ_5 _ _)
    rw [g1]
    simp only [am_bi_v]
    rw [if_neg (show ¬ (1 : Int32) = 0 by decide), a1]
    simp only [am_bv_v]
    rw [if_pos trivial, b1]
    simp only [am_bi_v]
    rw [if_pos trivial, t1]
    simp only [am_bi_v]
    refine ⟨_, _, rfl, CZ_5 t2 _, hF3, fun e => ?_⟩
    obtain ⟨o1, v, o2, o3, o4⟩ := b4 (tkZ_n e)
    have o1 : c3 44 0 5 = iv (6 - (k : Int)) := by rw [FZ_5 t3]; exact o1
    exact ⟨by rw [ui_self, opn_dec (by omega) o1], v, o2, o3, o4⟩
theorem e62_55 (hn : n ≤ 1600) (ht : ∀ i, tp i < 256) {D : Nat} {P : Tz → List Nat × Tz} (hD : 4 ≤ D) (hP : CT l x y tp n K F q m 67 D P) (hPf : ∀ z : Tz, z.2.isSome = true → P z = ([], z)) {z1 : Tz} {cs : List Nat} {r1 : Int32} {sg : Int} {cd : Nat} (hc : (sg = 60 ∧ cd = 7) ∨ (sg = 62 ∧ cd = 8) ∨ (sg = 61 ∧ cd = 9)) (h : CZ c tp n z1) (hX : CX c x K F q) (hv : z1.2 = none → c 44 0 5 = iv (6 - (m : Int)) ∧ ∃ v, r1 = iv v ∧ (-1000000 ≤ v ∧ v ≤ 1000000) ∧ Val q cs v) {d : Nat} (hd : D + 2 ≤ d) : ∃ (c2 : Nat → Nat → Nat → Int32) (r : Int32), X (d + 1) 62 55 [some (vr 44 0), none, some (vi r1), some (vi (iv sg)), none, none] [] (c, l, x, y) = some (some (vi r), c2, l, x, y) ∧ RT2 c c2 tp n m q (cs ++ (sumZ tp n P (tkZ tp n sg z1)).1 ++ [cd], (sumZ tp n P (tkZ tp n sg z1)).2) r := by
  obtain ⟨c1, a1, a2, a3⟩ := e98 (l := l) (x := x) (y := y) h hn ht (sg := sg) (by omega) (d - 3)
  rw [show d - 3 + 3 = d by omega] at a1
  have hX1 := CX_FQ (FQ_FZ a3) hX
  obtain ⟨c2, r2, b1, b2, b3, b4⟩ := (e65 hn ht hD hP) d c1 (tkZ tp n sg z1) (by omega) a2 hX1 (fun e => by rw [FZ_5 a3]; exact (hv (tkZ_n e)).1)
  have hF : FQ c c2 := (FQ_FZ a3).tr b3
  rw [q_62_55, a1]
  simp only [am_bi_v]
  rw [b1]
  simp only [am_bi_v]
  have hend : ∀ (b : Prop) [Decidable b], (∀ u v, r1 = iv u → r2 = iv v → (-1000000 ≤ u ∧ u ≤ 1000000) → (-1000000 ≤ v ∧ v ≤ 1000000) → iv (if b then 1 else 0) = iv (binO cd u v) ∧ (binO cd u v = 0 ∨ binO cd u v = 1)) → ∃ (c3 : Nat → Nat → Nat → Int32) (r : Int32), (if b then some (some (vi 1), c2, l, x, y) else some (some (vi 0), c2, l, x, y)) = some (some (vi r), c3, l, x, y) ∧ RT2 c c3 tp n m q (cs ++ (sumZ tp n P (tkZ tp n sg z1)).1 ++ [cd], (sumZ tp n P (tkZ tp n sg z1)).2) r := by
    intro b _ hb
    refine ⟨c2, iv (if b then 1 else 0), ?_, b2, hF, fun e => ?_⟩
    · split <;> rfl
    · obtain ⟨o1, v, o2, o3, o4⟩ := b4 e
      obtain ⟨p1, u, p2, p3, p4⟩ := hv (tkZ_n (sumZ_n hPf e))
      obtain ⟨g1, g2⟩ := hb u v p2 o2 p3 o3
      exact ⟨o1, binO cd u v, g1, g2, Val_bin p4 o4 (by omega)⟩
  rcases hc with ⟨rfl, rfl⟩ | ⟨rfl, rfl⟩ | ⟨rfl, rfl⟩
  · rw [if_pos (show iv 60 = 60 from rfl)]
    refine hend (r1 < r2) (fun u v e1 e2 hu hv => ?_)
    have hb : binO 7 u v = b01 (u < v) := by
      unfold binO
      rw [if_neg (by decide), if_neg (by decide), if_neg (by decide), if_neg (by decide), if_neg (by decide), if_neg (by decide), if_pos rfl]
    have he : (r1 < r2) = (u < v) := by rw [e1, e2]; exact iv_lt (by omega) (by omega)
    rw [hb]
    unfold b01
    simp only [he]
    split <;> simp
  · rw [if_neg (show ¬ iv 62 = 60 by decide), if_pos (show iv 62 = 62 from rfl)]
    refine hend (r2 < r1) (fun u v e1 e2 hu hv => ?_)
    have hb : binO 8 u v = b01 (v < u) := by
      unfold binO
      rw [if_neg (by decide), if_neg (by decide), if_neg (by decide), if_neg (by decide), if_neg (by decide), if_neg (by decide), if_neg (by decide), if_pos rfl]
    have he : (r2 < r1) = (v < u) := by rw [e1, e2]; exact iv_lt (by omega) (by omega)
    rw [hb]
    unfold b01
    simp only [he]
    split <;> simp
  · rw [if_neg (show ¬ iv 61 = 60 by decide), if_neg (show ¬ iv 61 = 62 by decide)]
    refine hend (r1 = r2) (fun u v e1 e2 hu hv => ?_)
    have hb : binO 9 u v = b01 (u = v) := by
      unfold binO
      rw [if_neg (by decide), if_neg (by decide), if_neg (by decide), if_neg (by decide), if_neg (by decide), if_neg (by decide), if_neg (by decide), if_neg (by decide), if_pos rfl]
    have he : (r1 = r2) = (u = v) := by rw [e1, e2]; exact iv_eq (by omega) (by omega)
    rw [hb]
    unfold b01
    simp only [he]
    split <;> simp
theorem e62 (hn : n ≤ 1600) (ht : ∀ i, tp i < 256) {D D2 : Nat} {f : Option (Tz → List Nat × Tz)} {P : Tz → List Nat × Tz} (hD : 4 ≤ D) (hm : m ≤ 6) (hP : OT l x y tp n K F q m D f) (hS : CT l x y tp n K F q m 67 D2 P) (hPf : ∀ z : Tz, z.2.isSome = true → P z = ([], z)) (hD2 : 4 ≤ D2 ∧ D2 + 3 ≤ D + 4) : CTB l x y tp n K F q m 62 (D + 4) (fcZ tp n P f) := by
  intro d c z hd h hX hz h5
  obtain ⟨d, rfl⟩ : ∃ e, d = e + 1 := ⟨d - 1, by omega⟩
  have hs := sgn_bd (n := n) ht z.1
  have hp := CZ_le h
  have h94 := e94 (l := l) (x := x) (y := y) h hn ht (t := 1) (by decide) (d - 1)
  rw [show d - 1 + 1 = d by omega] at h94
  have e9 : (iv (oi (lixT tp n 1 z.1)) = 9) = (lixT tp n 1 z.1 = some 9) := lix_iv (o := 9) (by omega) z.1
  have e8 : (iv (oi (lixT tp n 1 z.1)) = 8) = (lixT tp n 1 z.1 = some 8) := lix_iv (o := 8) (by omega) z.1
  have e91 : (c 1 0 4 = 91) = (sgnT tp n z.1 = 91) := by rw [CZ_sgn h]; exact iv_eq (b := 91) (by omega) (by omega)
  rw [q_62, h94]
  simp only [am_bi_v]
  unfold fcZ
  by_cases s9 : lixT tp n 1 z.1 = some 9
  · obtain ⟨c1, a1, a2, a3⟩ := e92 (l := l) (x := x) (y := y) h hn ht (d - 2)
    rw [show d - 2 + 2 = d by omega] at a1
    rw [if_pos (e9.mpr s9), if_pos s9, a1]
    simp only [am_bv_v]
    refine ⟨c1, 1, rfl, a2, FQ_FZ a3, fun _ => ⟨by rw [FZ_5 a3]; exact h5, 1, rfl, Or.inr rfl, Val_one (fun st => ?_)⟩⟩
    unfold stp
    rw [if_neg (by decide), if_pos rfl]
  · rw [if_neg (fun e => s9 (e9.mp e)), if_neg s9]
    by_cases s8 : lixT tp n 1 z.1 = some 8
    · obtain ⟨c2, r, g1, g2⟩ := e63_1 hn ht hD hm hP (d := d) (by omega) h hX hz h5
      rw [if_pos (e8.mpr s8), if_pos s8, q_62_21, if_pos (e8.mpr s8), g1]
      exact ⟨c2, r, rfl, g2⟩
    · rw [if_neg (fun e => s8 (e8.mp e)), if_neg s8]
      by_cases s91 : sgnT tp n z.1 = 91
      · obtain ⟨c2, r, g1, g2⟩ := e63_0 hn ht hD hm hP (d := d) (by omega) h hX hz h5
        rw [if_pos (e91.mpr s91), if_pos s91, q_62_21, if_neg (fun e => s8 (e8.mp e)), g1]
        exact ⟨c2, r, rfl, g2⟩
      · rw [if_neg (fun e => s91 (e91.mp e)), if_neg s91]
        obtain ⟨c1, r1, b1, b2, b3, b4⟩ := (e65 hn ht hD2.1 hS) d c z (by omega) h hX (fun _ => h5)
        have hX1 := CX_FQ b3 hX
        have hs1 := sgn_bd (n := n) ht (sumZ tp n P z).2.1
        have hp1 := CZ_le b2
        have e60 : (c1 1 0 4 = 60) = (sgnT tp n (sumZ tp n P z).2.1 = 60) := by rw [CZ_sgn b2]; exact iv_eq (b := 60) (by omega) (by omega)
        have e62 : (c1 1 0 4 = 62) = (sgnT tp n (sumZ tp n P z).2.1 = 62) := by rw [CZ_sgn b2]; exact iv_eq (b := 62) (by omega) (by omega)
        have e61 : (c1 1 0 4 = 61) = (sgnT tp n (sumZ tp n P z).2.1 = 61) := by rw [CZ_sgn b2]; exact iv_eq (b := 61) (by omega) (by omega)
        rw [b1]
        simp only [am_bi_v]
        unfold cpZ cmpC
        by_cases t60 : sgnT tp n (sumZ tp n P z).2.1 = 60
        · rw [if_pos (e60.mpr t60), if_pos t60, CZ_sgn b2]
          obtain ⟨c2, r, g1, g2, g3, g4⟩ := e62_55 hn ht hD2.1 hS hPf (cd := 7) (Or.inl ⟨t60, rfl⟩) b2 hX1 b4 (d := d) (by omega)
          exact ⟨c2, r, g1, g2, b3.tr g3, g4⟩
        · rw [if_neg (fun e => t60 (e60.mp e)), if_neg t60]
          by_cases t62 : sgnT tp n (sumZ tp n P z).2.1 = 62
          · rw [if_pos (e62.mpr t62), if_pos t62, CZ_sgn b2]
            obtain ⟨c2, r, g1, g2, g3, g4⟩ := e62_55 hn ht hD2.1 hS hPf (cd := 8) (Or.inr (Or.inl ⟨t62, rfl⟩)) b2 hX1 b4 (d := d) (by omega)
            exact ⟨c2, r, g1, g2, b3.tr g3, g4⟩
          · rw [if_neg (fun e => t62 (e62.mp e)), if_neg t62]
            by_cases t61 : sgnT tp n (sumZ tp n P z).2.1 = 61
            · rw [if_pos (e61.mpr t61), if_pos t61, CZ_sgn b2]
              obtain ⟨c2, r, g1, g2, g3, g4⟩ := e62_55 hn ht hD2.1 hS hPf (cd := 9) (Or.inr (Or.inr ⟨t61, rfl⟩)) b2 hX1 b4 (d := d) (by omega)
              exact ⟨c2, r, g1, g2, b3.tr g3, g4⟩
            · rw [if_neg (fun e => t61 (e61.mp e)), if_neg t61]
              obtain ⟨c2, g1, g2, g3⟩ := e95 (l := l) (x := x) (y := y) b2 (k := 1) (p := (sumZ tp n P z).2.1.1) (by omega) (by omega) (d - 1)
              rw [show d - 1 + 1 = d by omega] at g1
              have g1 : E d 95 [vr 1 0, vi 1, vi (iv ((sumZ tp n P z).2.1.1 : Nat))] (c1, l, x, y) = _ := g1
              rw [CZ_at b2, g1]
              simp only [am_bv_v]
              exact ⟨c2, 0, rfl, RT_bad g2 (b3.tr (FQ_FZ g3)) (flZ_ns _ _ _)⟩
/-- a fact -/
theorem factC (hn : n ≤ 1600) (ht : ∀ i, tp i < 256) : ∀ m, m ≤ 6 → CTB l x y tp n K F q m 62 (12 + 4 * m) (factZ tp n m)
  | 0, _ => e62 hn ht (D := 8) (by omega) (by omega) (Or.inl ⟨rfl, rfl⟩) (partC hn ht 0 (by omega)) (fun z hz => partZ_f 0 hz) (by omega)
  | m + 1, h => e62 hn ht (D := 12 + 4 * m) (by omega) h (Or.inr ⟨m, factZ tp n m, rfl, rfl, factC hn ht m (by omega)⟩) (partC hn ht (m + 1) h) (fun z hz => partZ_f (m + 1) hz) (by omega)
end
