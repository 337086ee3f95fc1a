/-! the reference: text() -/
/-- what a text that is refused leaves -/
def QX (c : Nat → Nat → Nat → Int32) (l : Nat → Nat → Int64) (c2 : Nat → Nat → Nat → Int32) (l2 : Nat → Nat → Int64) : Prop := (∀ k i j, nDr k j → ¬ (k = 48 ∧ (j = 1 ∨ j = 3 ∨ j = 7 ∨ j = 8 ∨ j = 37)) → ¬ (k = 50 ∧ j = 1) → c2 k i j = c k i j) ∧ ∀ k j, ¬ (k = 69 ∧ j < 20) → ¬ (k = 71 ∧ j < 7) → l2 k j = l k j
section
variable {c : Nat → Nat → Nat → Int32} {l : Nat → Nat → Int64} {x y : Nat} {tp : Nat → Nat} {n : Nat} {z : Tz} {s : Ts} {K : Ct} {F : Nat} {row : List (Nat × Nat)} {fa fp : Int} {rf : Nat → Int32} {sd : Int} {oc : List Nat}
theorem QX.tr {c1 c2 c3 : Nat → Nat → Nat → Int32} {l1 l2 l3 : Nat → Nat → Int64} (h : QX c1 l1 c2 l2) (g : QX c2 l2 c3 l3) : QX c1 l1 c3 l3 := ⟨fun k i j h1 h2 h3 => (g.1 k i j h1 h2 h3).trans (h.1 k i j h1 h2 h3), fun k j h1 h2 => (g.2 k j h1 h2).trans (h.2 k j h1 h2)⟩
theorem QX_FT {c2 : Nat → Nat → Nat → Int32} {l2 : Nat → Nat → Int64} (h : FT c l c2 l2) : QX c l c2 l2 := ⟨fun k i j h1 h2 _ => h.1 k i j h1 (by omega), h.2⟩
theorem QX.ui (k i j : Nat) (v : Int32) (h : (k = 48 ∧ (j = 1 ∨ j = 2 ∨ j = 3 ∨ j = 4 ∨ j = 5 ∨ j = 6 ∨ j = 7 ∨ j = 8 ∨ j = 37)) ∨ (k = 50 ∧ j = 1) ∨ (k = 68 ∧ j < 5) ∨ (k = 76 ∧ j < 2)) : QX c l (am_ui c k i j v) l := by
  refine ⟨fun k2 i2 j2 hk h2 h3 => ui_ne _ _ _ _ ?_, fun _ _ _ _ => rfl⟩
  unfold nDr at hk
  omega
theorem KX_QX {c2 : Nat → Nat → Nat → Int32} {l2 : Nat → Nat → Int64} (h : QX c l c2 l2) : KX c l c2 l2 := ⟨fun k i j h1 => h.1 k i j (by unfold nTx at h1; unfold nDr; omega) (by unfold nTx at h1; omega) (by unfold nTx at h1; omega), fun k h1 h2 => funext fun j => h.2 k j (by omega) (by omega)⟩
theorem RR_QX {c2 : Nat → Nat → Nat → Int32} {l2 : Nat → Nat → Int64} (h : QX c l c2 l2) (g : RR c l K F) : RR c2 l2 K F := by
  obtain ⟨hc, hl⟩ := h
  obtain ⟨⟨g1, g2, g3, g4, g5, g6⟩, hK, hF, h39⟩ := g
  have r : ∀ k i j, nDr k j → k ≠ 48 → k ≠ 50 → c2 k i j = c k i j := fun k i j h1 h2 h3 => hc k i j h1 (by omega) (by omega)
  refine ⟨⟨⟨?_, fun w hw => ?_⟩, ⟨?_, fun i hi k hk => ?_⟩, ⟨?_, fun f hf => ?_⟩, ⟨?_, fun b hb => ?_⟩, ⟨?_, fun i hi => ?_⟩, ?_⟩, hK, hF, ?_⟩
  · rw [r 68 0 5 (by unfold nDr; omega) (by omega) (by omega)]; exact g1.1
  · rw [r 70 0 _ (by unfold nDr; omega) (by omega) (by omega), hl 69 _ (by omega) (by omega)]; exact g1.2 w hw
  · rw [r 68 0 6 (by unfold nDr; omega) (by omega) (by omega)]; exact g2.1
  · rw [r 72 0 _ (by unfold nDr; omega) (by omega) (by omega)]; exact g2.2 i hi k hk
  · rw [r 68 0 7 (by unfold nDr; omega) (by omega) (by omega)]; exact g3.1
  · rw [r 73 0 _ (by unfold nDr; omega) (by omega) (by omega), r 73 0 _ (by unfold nDr; omega) (by omega) (by omega), r 73 0 _ (by unfold nDr; omega) (by omega) (by omega)]; exact g3.2 f hf
  · rw [r 68 0 8 (by unfold nDr; omega) (by omega) (by omega)]; exact g4.1
  · have hg := g4.2 b hb
    rw [hl 71 _ (by omega) (by omega), r 74 0 _ (by unfold nDr; omega) (by omega) (by omega), r 74 0 _ (by unfold nDr; omega) (by omega) (by omega), r 74 0 _ (by unfold nDr; omega) (by omega) (by omega)]
    exact ⟨hg.1, hg.2.1, hg.2.2.1, hg.2.2.2.1, fun k hk => by rw [r 74 0 _ (by unfold nDr; omega) (by omega) (by omega)]; exact hg.2.2.2.2 k hk⟩
  · rw [r 68 0 9 (by unfold nDr; omega) (by omega) (by omega)]; exact g5.1
  · have hg := g5.2 i hi
    rw [r 75 0 _ (by unfold nDr; omega) (by omega) (by omega)]
    exact ⟨hg.1, fun k hk => by rw [r 75 0 _ (by unfold nDr; omega) (by omega) (by omega)]; exact hg.2 k hk⟩
  · rw [hc 48 0 38 (by unfold nDr; omega) (by omega) (by omega), r 76 0 2 (by unfold nDr; omega) (by omega) (by omega), r 76 0 3 (by unfold nDr; omega) (by omega) (by omega)]; exact g6
  · rw [hc 48 0 39 (by unfold nDr; omega) (by omega) (by omega)]; exact h39
theorem KX_k {c2 : Nat → Nat → Nat → Int32} {l2 : Nat → Nat → Int64} (h : KX c l c2 l2) {k : Nat} (hk : k ≠ 48 ∧ k ≠ 50 ∧ k ≠ 68 ∧ k ≠ 70 ∧ ¬ (72 ≤ k ∧ k ≤ 76)) : c2 k = c k := by
  funext i j
  exact h.1 k i j (by unfold nTx; omega)
theorem tx_zero (d : Nat) : ∀ (m v : Nat) (c : Nat → Nat → Nat → Int32), v + m = 5 → (∀ j, j < v → c 68 0 j = iv 0) → ∃ c2 : Nat → Nat → Nat → Int32, X (d + 1) 149 34 [some (vr 48 0), some (vi (iv (v : Nat)))] [] (c, l, x, y) = X (d + 1) 149 44 [some (vr 48 0), none] [] (c2, l, x, y) ∧ (∀ j, j < 5 → c2 68 0 j = iv 0) ∧ (∀ k, k ≠ 68 → c2 k = c k) ∧ QX c l c2 l
  | 0, v, c, h, hc => by
    refine ⟨c, ?_, fun j hj => hc j (by omega), fun _ _ => rfl, ⟨fun _ _ _ _ _ _ => rfl, fun _ _ _ _ => rfl⟩⟩
    rw [q_149_34, show v = 5 by omega]
    simp (disch := omega) only [iv_add, iv_sub, iv_mul, iv_neg, iv_lt, iv_le, iv_eq, iv_nat, iv_L, iv_L2, am_bi_v, am_bv_v, am_bl_v, if_pos, if_neg, Int.toNat_natCast, Int.toNat_add, Int.toNat_mul, Int.reduceToNat]
    all_goals rfl
  | m + 1, v, c, h, hc => by
    obtain ⟨c2, g1, g2, g3, g4⟩ := tx_zero d m (v + 1) (am_ui c 68 0 v (iv 0)) (by omega) (fun j hj => by
      by_cases e : j = v
      · rw [e, ui_self]
      · rw [ui_ne _ _ _ _ (by omega)]; exact hc j (by omega))
    refine ⟨c2, ?_, g2, fun k hk => by rw [g3 k hk, ui_nk _ _ _ _ hk], (QX.ui _ _ _ _ (by omega)).tr g4⟩
    rw [← g1, q_149_34]
    simp (disch := omega) only [iv_add, iv_sub, iv_mul, iv_neg, iv_lt, iv_le, iv_eq, iv_nat, iv_L, iv_L2, am_bi_v, am_bv_v, am_bl_v, if_pos, if_neg, Int.toNat_natCast, Int.toNat_add, Int.toNat_mul, Int.reduceToNat]
    all_goals rfl
theorem tx_init (h : AR c l K F row tp n fa fp rf sd oc) (hv : VS K F row tp n fa fp sd oc) (d : Nat) : ∃ c2 : Nat → Nat → Nat → Int32, E (d + 8) 149 [vr 48 0] (c, l, x, y) = X (d + 8) 149 44 [some (vr 48 0), none] [] (c2, l, x, y) ∧ RZ c2 tp n (nxtQ tp n 0 false, none) ∧ RD c2 l K0 ∧ c2 48 0 37 = iv ((0 : Nat) : Int) ∧ QX c l c2 l ∧ c2 48 0 1 = iv 0 ∧ c2 50 = c 50 := by
  obtain ⟨h1, h2, h3, h4, h5, h6, h7⟩ := h
  obtain ⟨c2, g1, g2, g3, g4⟩ := tx_zero (l := l) (x := x) (y := y) (d + 7) 5 0 (am_ui (am_ui (am_ui (am_ui (am_ui (am_ui (am_ui (am_ui (am_ui c 48 0 3 (c 48 0 1)) 48 0 1 0) 48 0 2 0) 48 0 4 (-1)) 48 0 5 0) 48 0 6 (-1)) 48 0 37 0) 76 0 0 (-1)) 76 0 1 (-1)) rfl (fun j hj => absurd hj (Nat.not_lt_zero _))
  have g1 : X (d + 8) 149 34 [some (vr 48 0), some (vi 0)] [] (am_ui (am_ui (am_ui (am_ui (am_ui (am_ui (am_ui (am_ui (am_ui c 48 0 3 (c 48 0 1)) 48 0 1 0) 48 0 2 0) 48 0 4 (-1)) 48 0 5 0) 48 0 6 (-1)) 48 0 37 0) 76 0 0 (-1)) 76 0 1 (-1), l, x, y) = _ := g1
  have hk : ∀ k, k ≠ 48 → k ≠ 68 → k ≠ 76 → c2 k = c k := by
    intro k k1 k2 k3
    rw [g3 k k2, ui_nk _ _ _ _ k3, ui_nk _ _ _ _ k3, ui_nk _ _ _ _ k1, ui_nk _ _ _ _ k1, ui_nk _ _ _ _ k1, ui_nk _ _ _ _ k1, ui_nk _ _ _ _ k1, ui_nk _ _ _ _ k1, ui_nk _ _ _ _ k1]
  have c48 : c2 48 = am_ui (am_ui (am_ui (am_ui (am_ui (am_ui (am_ui c 48 0 3 (c 48 0 1)) 48 0 1 0) 48 0 2 0) 48 0 4 (-1)) 48 0 5 0) 48 0 6 (-1)) 48 0 37 0 48 := by
    rw [g3 48 (by omega), ui_nk _ _ _ _ (by omega), ui_nk _ _ _ _ (by omega)]
  refine ⟨c2, ?_, ⟨⟨?_, ?_⟩, hv.2.2.2.1, CH_fr h7 (fun k hk2 => hk k (by omega) (by omega) (by omega)), ⟨?_, ?_⟩, ?_⟩, ?_, ?_, ?_, ?_, hk 50 (by omega) (by omega) (by omega)⟩
  · rw [q_149]; exact g1
  · rw [c48, ui_ne _ _ _ _ (by omega), ui_ne _ _ _ _ (by omega), ui_ne _ _ _ _ (by omega), ui_ne _ _ _ _ (by omega), ui_ne _ _ _ _ (by omega), ui_ne _ _ _ _ (by omega), ui_self]; exact h4.1
  · rw [hk 49 (by omega) (by omega) (by omega)]; exact h4.2.2.2
  · rw [c48, ui_ne _ _ _ _ (by omega), ui_ne _ _ _ _ (by omega), ui_self]; rfl
  · rw [c48, ui_ne _ _ _ _ (by omega), ui_self]; rfl
  · refine ⟨0, -1, ?_, ?_, Nat.zero_le _, ⟨by decide, by decide⟩, rfl, ?_⟩
    · rw [c48, ui_ne _ _ _ _ (by omega), ui_ne _ _ _ _ (by omega), ui_ne _ _ _ _ (by omega), ui_ne _ _ _ _ (by omega), ui_self]; rfl
    · rw [c48, ui_ne _ _ _ _ (by omega), ui_ne _ _ _ _ (by omega), ui_ne _ _ _ _ (by omega), ui_self]; rfl
    · constructor
      · intro q
        exact absurd q (show ¬ (false && decide (skp tp (n - 0) 0 = 0)) = true by simp)
      · intro q
        omega
  · have z0 : ∀ j, j < 5 → c2 68 0 j = iv 0 := g2
    refine ⟨⟨z0 0 (by omega), fun w hw => absurd hw (Nat.not_lt_zero _)⟩, ⟨z0 1 (by omega), fun w hw => absurd hw (Nat.not_lt_zero _)⟩, ⟨z0 2 (by omega), fun w hw => absurd hw (Nat.not_lt_zero _)⟩, ⟨z0 3 (by omega), fun w hw => absurd hw (Nat.not_lt_zero _)⟩, ⟨z0 4 (by omega), fun w hw => absurd hw (Nat.not_lt_zero _)⟩, ?_, ?_⟩
    · rw [g3 76 (by omega), ui_ne _ _ _ _ (by omega), ui_self]; rfl
    · rw [g3 76 (by omega), ui_self]; rfl
  · rw [c48, ui_self]; rfl
  · refine QX.tr ?_ g4
    exact (((((((((QX.ui 48 0 3 (c 48 0 1) (by omega)).tr (QX.ui _ _ _ _ (by omega))).tr (QX.ui _ _ _ _ (by omega))).tr (QX.ui _ _ _ _ (by omega))).tr (QX.ui _ _ _ _ (by omega))).tr (QX.ui _ _ _ _ (by omega))).tr (QX.ui _ _ _ _ (by omega))).tr (QX.ui _ _ _ _ (by omega))).tr (QX.ui _ _ _ _ (by omega)))
  · rw [c48, ui_ne _ _ _ _ (by omega), ui_ne _ _ _ _ (by omega), ui_ne _ _ _ _ (by omega), ui_ne _ _ _ _ (by omega), ui_ne _ _ _ _ (by omega), ui_self]; rfl
theorem m149_no (h : AR c l K F row tp n fa fp rf sd oc) (hv : VS K F row tp n fa fp sd oc) (ho : (txtZ tp n).1 = none) (d : Nat) : ∃ (c2 : Nat → Nat → Nat → Int32) (l2 : Nat → Nat → Int64), E (d + 8) 149 [vr 48 0] (c, l, x, y) = some (some (vi (iv (-1))), c2, l2, x, y) ∧ AR c2 l2 K F row tp 0 (fltF (txtZ tp n).2.2.2) (fltP (txtZ tp n).2.2.2) (updR rf 1) sd oc ∧ KX c l c2 l2 := by
  obtain ⟨c1, g1, g2, g3, g4, g5, g6, g7⟩ := tx_init (x := x) (y := y) h hv d
  obtain ⟨-, i2⟩ := tx_loop (x := x) (y := y) d 70 0 K0 _ c1 l rfl g2 g3 VK_0 g4
  obtain ⟨c2, l2, f, j1, j2, j3⟩ := i2 ho
  have j1 : (txtZ tp n).2.2.2 = some f := j1
  rw [j1]
  obtain ⟨h1, h2, h3, h4, h5, h6, h7⟩ := h
  have f1 := FT_1 j3
  have q : QX c l (am_ui (am_ui (am_ui c2 48 0 7 (iv (f.1 : Nat))) 48 0 8 (iv (f.2 : Nat))) 50 0 1 (c2 50 0 1 + 1)) l2 := ((g5.tr (QX_FT j3)).tr ((QX.ui _ _ _ _ (by omega)).tr (QX.ui _ _ _ _ (by omega)))).tr (QX.ui _ _ _ _ (by omega))
  have kx := KX_QX q
  have c42 := kx.1 48 0 42
  refine ⟨_, l2, by rw [g1, j2]; rfl, ⟨RR_QX q h1, ⟨?_, RowAt_fr h2.2.1 (KX_k kx (by omega)), RowAt_fr h2.2.2 (KX_k kx (by omega))⟩, ⟨?_, RowAt_fr h3.2 (KX_k kx (by omega))⟩, ⟨?_, ?_, ?_, ?_⟩, ?_, ?_, CH_fr h7 (fun k hk => KX_k kx (by omega))⟩, kx⟩
  · rw [q.1 48 0 42 (by unfold nDr; omega) (by omega) (by omega)]; exact h2.1
  · rw [q.1 48 0 88 (by unfold nDr; omega) (by omega) (by omega)]; exact h3.1
  · rw [ui_nk _ _ _ _ (by omega), ui_ne _ _ _ _ (by omega), ui_ne _ _ _ _ (by omega), f1.1]; exact g6
  · rw [ui_nk _ _ _ _ (by omega), ui_ne _ _ _ _ (by omega), ui_self]; rfl
  · rw [ui_nk _ _ _ _ (by omega), ui_self]; rfl
  · rw [KX_k kx (by omega)]; exact h4.2.2.2
  · intro k hk
    unfold updR
    by_cases e : k = 1
    · rw [if_pos e, e, ui_self, f1.2, g7, h5 1 (by omega)]
    · rw [if_neg e, ui_ne _ _ _ _ (by omega), ui_nk _ _ _ _ (by omega), ui_nk _ _ _ _ (by omega), f1.2, g7]; exact h5 k hk
  · rw [kx.2 48 (by omega) (by omega)]; exact h6
theorem m149_ok (h : AR c l K F row tp n fa fp rf sd oc) (hv : VS K F row tp n fa fp sd oc) {m : Nat} (ho : (txtZ tp n).1 = some m) (d : Nat) : ∃ (c2 : Nat → Nat → Nat → Int32) (l2 : Nat → Nat → Int64), E (d + 8) 149 [vr 48 0] (c, l, x, y) = some (some (vi (iv (m : Nat))), c2, l2, x, y) ∧ AR c2 l2 (txtZ tp n).2.1 (2 ^ nL (txtZ tp n).2.1 - 1) [] tp 0 0 (-1) rf sd oc ∧ KX c l c2 l2 := by
  obtain ⟨c1, g1, g2, g3, g4, g5, g6, g7⟩ := tx_init (x := x) (y := y) h hv d
  obtain ⟨i1, -⟩ := tx_loop (x := x) (y := y) d 70 0 K0 _ c1 l rfl g2 g3 VK_0 g4
  obtain ⟨c2, l2, j1, j2, ⟨j3, j4, j5⟩, j6, j7, j8⟩ := i1 m ho
  have kx := (KX_QX g5).tr j6
  obtain ⟨h1, h2, h3, h4, h5, h6, h7⟩ := h
  refine ⟨c2, l2, by rw [g1, j1], ⟨j2, ⟨j3, fun k hk => absurd hk (Nat.not_lt_zero _), fun k hk => absurd hk (Nat.not_lt_zero _)⟩, ⟨?_, RowAt_fr h3.2 (KX_k kx (by omega))⟩, ⟨j7.trans g6, j4, j5, ?_⟩, ?_, ?_, CH_fr h7 (fun k hk => KX_k kx (by omega))⟩, kx⟩
  · rw [kx.1 48 0 88 (by unfold nTx; omega)]; exact h3.1
  · rw [KX_k kx (by omega)]; exact h4.2.2.2
  · rw [j8, g7]; exact h5
  · rw [kx.2 48 (by omega) (by omega)]; exact h6
end
