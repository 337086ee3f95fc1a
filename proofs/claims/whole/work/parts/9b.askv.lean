/-! the class's ask: the whole question -/
section
variable {c : Nat → Nat → Nat → Int32} {l : Nat → Nat → Int64} {x y : Nat} {tp : Nat → Nat} {n : Nat} {z : Tz} {K : Ct} {F : Nat} {q : Cx} {m : Nat}
theorem e59_33 (hn : n ≤ 1600) (ht : ∀ i, tp i < 256) {w : List Nat × Tz} {r : Int32} (h : CZ c tp n w.2) (d : Nat) : ∃ c2 : Nat → Nat → Nat → Int32, X (d + 2) 59 33 [some (vr 44 0), none, none] [vi r] (c, l, x, y) = some (some (vi r), c2, l, x, y) ∧ CZ c2 tp n (enZ tp n w).2 ∧ FQ c c2 := by
  have hs := sgn_bd (n := n) ht w.2.1
  have hp := CZ_le h
  have e1 : (c 1 0 4 = -1) = (sgnT tp n w.2.1 = -1) := by
    rw [CZ_sgn h]
    show (iv (sgnT tp n w.2.1) = iv (-1)) = _
    rw [iv_eq (by omega) (by omega)]
  rw [q_59_33]
  unfold enZ
  dsimp only
  by_cases s1 : sgnT tp n w.2.1 = -1
  · rw [if_pos (e1.mpr s1), if_pos s1]
    exact ⟨c, rfl, h, FQ.refl c⟩
  · obtain ⟨c2, g1, g2, g3⟩ := e95 (l := l) (x := x) (y := y) h (k := 1) (p := w.2.1.1) (by omega) (by omega) d
    have g1 : E (d + 1) 95 [vr 1 0, vi 1, vi (iv (w.2.1.1 : Nat))] (c, l, x, y) = _ := g1
    rw [if_neg (fun e => s1 (e1.mp e)), if_neg s1, CZ_at h, g1]
    exact ⟨c2, rfl, g2, FQ_FZ g3⟩
theorem enZ_n {w : List Nat × Tz} (h : (enZ tp n w).2.2 = none) : w.2.2 = none := by
  unfold enZ at h
  dsimp only at h
  split at h
  · exact h
  · exact absurd h (flZ_ns _ _ _)
theorem e59 (hn : n ≤ 1600) (ht : ∀ i, tp i < 256) {d : Nat} (hd : 39 ≤ d) (h : CZ c tp n z) (hX : CX c x K F q) (hz : z.2 = none) : ∃ (c2 : Nat → Nat → Nat → Int32) (r : Int32), E d 59 [vr 44 0] (c, l, x, y) = some (some (vi r), c2, l, x, y) ∧ CZ c2 tp n (qsZ tp n z).2 ∧ FQ c c2 ∧ ((qsZ tp n z).2.2 = none → ∃ (o : Nat) (v : Int), lixT tp n 1 z.1 = some o ∧ o < 6 ∧ r = iv v ∧ (-1000000 ≤ v ∧ v ≤ 1000000) ∧ (o ≤ 2 → v = 0 ∨ v = 1) ∧ Val q (qsZ tp n z).1 v) := by
  obtain ⟨d, rfl⟩ : ∃ e, d = e + 2 := ⟨d - 2, by omega⟩
  have hp := CZ_le h
  have h1 : CZ (am_ui c 44 0 5 (iv 0)) tp n z := CZ_5 h (iv 0)
  have hX1 := CX_FQ (FQ_5 c (iv 0)) hX
  have h94 := e94 (l := l) (x := x) (y := y) h1 hn ht (t := 1) (by decide) d
  obtain ⟨cf, f1, f2, f3⟩ := e95 (l := l) (x := x) (y := y) h1 (k := 1) (p := z.1.1) (by omega) (by omega) d
  have f1 : E (d + 1) 95 [vr 1 0, vi 1, vi (iv (z.1.1 : Nat))] (am_ui c 44 0 5 (iv 0), l, x, y) = _ := f1
  have fF : FQ c cf := (FQ_5 c (iv 0)).tr (FQ_FZ f3)
  have h94 : E (d + 1) 94 [vr 1 0, vr 200 1] (am_ui c 44 0 5 0, l, x, y) = _ := h94
  rw [q_59, h94]
  simp only [am_bi_v]
  rw [show am_ui c 44 0 5 (iv 0) 1 0 2 = iv (z.1.1 : Nat) from CZ_at h1]
  unfold qsZ
  cases ho : lixT tp n 1 z.1 with
  | none =>
    rw [if_pos (show iv (oi none) < 0 by decide), f1]
    exact ⟨cf, 0, rfl, f2, fF, fun e => absurd e (flZ_ns _ _ _)⟩
  | some o =>
    have hlt := lix_lt ho
    have hoi : oi (some o) = (o : Int) := rfl
    have e0 : (iv (o : Nat) < 0) = ((o : Int) < 0) := iv_lt (b := 0) (by omega) (by omega)
    have e5 : (5 < iv (o : Nat)) = ((5 : Int) < (o : Int)) := iv_lt (a := 5) (by omega) (by omega)
    have e2 : (2 < iv (o : Nat)) = ((2 : Int) < (o : Int)) := iv_lt (a := 2) (by omega) (by omega)
    rw [hoi, if_neg (fun e => by rw [e0] at e; omega)]
    dsimp only
    by_cases o5 : o < 6
    · obtain ⟨c1, a1, a2, a3⟩ := e92 (l := l) (x := x) (y := y) h1 hn ht (d - 1)
      rw [show d - 1 + 2 = d + 1 by omega] at a1
      have hX2 := CX_FQ (FQ_FZ a3) hX1
      have h5 : c1 44 0 5 = iv (6 - ((6 : Nat) : Int)) := by rw [FZ_5 a3, ui_self]; rfl
      have hF1 : FQ c c1 := (FQ_5 c (iv 0)).tr (FQ_FZ a3)
      rw [if_neg (fun e => by rw [e5] at e; omega), if_pos o5, a1]
      simp only [am_bv_v]
      unfold bdZ
      by_cases o2 : o ≤ 2
      · obtain ⟨c2, r, b1, b2, b3, b4⟩ := (e60 (l := l) (y := y) (q := q) (K := K) (F := F) hn ht (by omega) (factC hn ht 6 (by omega))) (d + 1) c1 (avZ tp n z) (by omega) a2 hX2 hz h5
        obtain ⟨c3, g1, g2, g3⟩ := e59_33 (l := l) (x := x) (y := y) (r := r) hn ht (w := tstZ tp n (factZ tp n 6) (avZ tp n z)) b2 d
        rw [if_neg (fun e => by rw [e2] at e; omega), b1, if_pos o2]
        simp only [am_bi_v]
        refine ⟨c3, r, g1, g2, (hF1.tr b3).tr g3, fun e => ?_⟩
        obtain ⟨p1, v, p2, p3, p4⟩ := b4 (enZ_n e)
        exact ⟨o, v, rfl, o5, p2, by omega, fun _ => p3, p4⟩
      · obtain ⟨c2, r, b1, b2, b3, b4⟩ := (e65 (l := l) (y := y) (q := q) (K := K) (F := F) hn ht (by omega) (partC hn ht 6 (by omega))) (d + 1) c1 (avZ tp n z) (by omega) a2 hX2 (fun _ => h5)
        obtain ⟨c3, g1, g2, g3⟩ := e59_33 (l := l) (x := x) (y := y) (r := r) hn ht (w := sumZ tp n (partZ tp n 6) (avZ tp n z)) b2 d
        rw [if_pos (by rw [e2]; omega), b1, if_neg o2]
        simp only [am_bi_v]
        refine ⟨c3, r, g1, g2, (hF1.tr b3).tr g3, fun e => ?_⟩
        obtain ⟨p1, v, p2, p3, p4⟩ := b4 (enZ_n e)
        exact ⟨o, v, rfl, o5, p2, p3, fun q => absurd q o2, p4⟩
    · rw [if_pos (by rw [e5]; omega), if_neg o5, f1]
      exact ⟨cf, 0, rfl, f2, fF, fun e => absurd e (flZ_ns _ _ _)⟩
end
