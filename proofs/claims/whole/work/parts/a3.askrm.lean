/-! the reference's ask() -/
def FW (c c2 : Nat → Nat → Nat → Int32) : Prop := (∀ k, k ≠ 48 → k ≠ 108 → k ≠ 109 → (k < 79 ∨ 83 < k) → c2 k = c k) ∧ ∀ i s, ¬ (1 ≤ s ∧ s ≤ 8) → s ≠ 27 → s ≠ 44 → s ≠ 47 → s ≠ 48 → s ≠ 50 → s ≠ 78 → s ≠ 80 → s ≠ 81 → s ≠ 82 → s ≠ 84 → s ≠ 86 → c2 48 i s = c 48 i s
def LV (l l2 : Nat → Nat → Int64) : Prop := (∀ k, k ≠ 110 → k ≠ 48 → l2 k = l k) ∧ ∀ j, j ≠ 85 → l2 48 j = l 48 j
section
variable {c c2 c3 : Nat → Nat → Nat → Int32} {l l2 : Nat → Nat → Int64} {x y : Nat} {K : Ct} {F : Nat} {row : List (Nat × Nat)} {tp : Nat → Nat} {n : Nat} {fa fp : Int} {rf : Nat → Int32} {sd : Int} {oc : List Nat} {z : Tz} {S C : List Nat}
theorem FW.tr {c1 c2 c3 : Nat → Nat → Nat → Int32} (h : FW c1 c2) (g : FW c2 c3) : FW c1 c3 := ⟨fun k h1 h2 h3 h4 => (g.1 k h1 h2 h3 h4).trans (h.1 k h1 h2 h3 h4), fun i s a1 a2 a3 a4 a5 a6 a7 a8 a9 b1 b2 b3 => (g.2 i s a1 a2 a3 a4 a5 a6 a7 a8 a9 b1 b2 b3).trans (h.2 i s a1 a2 a3 a4 a5 a6 a7 a8 a9 b1 b2 b3)⟩
theorem FW.ui (j : Nat) (v : Int32) (h : (1 ≤ j ∧ j ≤ 8) ∨ j = 78 ∨ j = 80 ∨ j = 81 ∨ j = 82 ∨ j = 84 ∨ j = 86) : FW c (am_ui c 48 0 j v) := ⟨fun k h1 _ _ _ => ui_nk _ _ _ _ h1, fun i s a1 a2 a3 a4 a5 a6 a7 a8 a9 b1 b2 b3 => ui_ne _ _ _ _ (by omega)⟩
theorem FW_FK (h : FK c c2) : FW c c2 := ⟨fun k h1 h2 h3 _ => h.1 k h1 h2 h3, fun i s a1 a2 a3 a4 a5 a6 a7 a8 a9 b1 b2 b3 => h.2 i s (by omega) (by omega) (by omega) (by omega) a2 a7 a8 a9 b1⟩
theorem FW_FE (h : FE c c2) : FW c c2 := ⟨fun k h1 _ _ h4 => h.1 k h1 h4, fun i s a1 a2 a3 a4 a5 a6 a7 a8 a9 b1 b2 b3 => h.2 i s a3 a4 a5 a6 b2⟩
theorem FW_FU (h : FU c c2) : FW c c2 := ⟨fun k h1 _ _ _ => h.1 k h1, fun i s a1 a2 a3 a4 a5 a6 a7 a8 a9 b1 b2 b3 => h.2 i s b3⟩
theorem FW.refl (c : Nat → Nat → Nat → Int32) : FW c c := ⟨fun _ _ _ _ _ => rfl, fun _ _ _ _ _ _ _ _ _ _ _ _ _ _ => rfl⟩
theorem LV.refl (l : Nat → Nat → Int64) : LV l l := ⟨fun _ _ _ => rfl, fun _ _ => rfl⟩
theorem LV.tr {l1 l2 l3 : Nat → Nat → Int64} (h : LV l1 l2) (g : LV l2 l3) : LV l1 l3 := ⟨fun k h1 h2 => (g.1 k h1 h2).trans (h.1 k h1 h2), fun j h1 => (g.2 j h1).trans (h.2 j h1)⟩
theorem LV_LE (h : LE l l2) : LV l l2 := ⟨fun k h1 _ => h k h1, fun j _ => by rw [h 48 (by omega)]⟩
theorem LV_LU (h : LU l l2) : LV l l2 := ⟨fun k _ h2 => h.1 k h2, h.2⟩
theorem RR_FW (h : FW c c2) (hl : LV l l2) (g : RR c l K F) : RR c2 l2 K F := by
  have g2 := RR_l g (hl.1 69 (by omega) (by omega)) (hl.1 71 (by omega) (by omega))
  unfold RR RS at g2 ⊢
  rw [h.1 68 (by omega) (by omega) (by omega) (by omega), h.1 70 (by omega) (by omega) (by omega) (by omega), h.1 72 (by omega) (by omega) (by omega) (by omega), h.1 73 (by omega) (by omega) (by omega) (by omega), h.1 74 (by omega) (by omega) (by omega) (by omega), h.1 75 (by omega) (by omega) (by omega) (by omega), h.1 76 (by omega) (by omega) (by omega) (by omega), h.2 0 38 (by omega) (by omega) (by omega) (by omega) (by omega) (by omega) (by omega) (by omega) (by omega) (by omega) (by omega) (by omega), h.2 0 39 (by omega) (by omega) (by omega) (by omega) (by omega) (by omega) (by omega) (by omega) (by omega) (by omega) (by omega) (by omega)]
  exact g2
theorem ask_end {fa' fp' : Int} (h : AR c l K F row tp n fa fp rf sd oc) (hF : FW c c2) (hL : LV l l2) (h1 : c2 48 0 1 = iv 0) (h7 : c2 48 0 7 = iv fa') (h8 : c2 48 0 8 = iv fp') : AR c2 l2 K F row tp 0 fa' fp' rf sd oc ∧ KL c c2 := by
  obtain ⟨g1, g2, g3, g4, g5, g6, g7⟩ := h
  have k : ∀ k, k ≠ 48 → k ≠ 108 → k ≠ 109 → (k < 79 ∨ 83 < k) → c2 k = c k := hF.1
  refine ⟨⟨RR_FW hF hL g1, ⟨?_, RowAt_fr g2.2.1 (k 77 (by omega) (by omega) (by omega) (by omega)), RowAt_fr g2.2.2 (k 78 (by omega) (by omega) (by omega) (by omega))⟩, ⟨?_, RowAt_fr g3.2 (k 111 (by omega) (by omega) (by omega) (by omega))⟩, ⟨h1, h7, h8, ?_⟩, ?_, ?_, CH_fr g7 (fun j hj => k j (by omega) (by omega) (by omega) (by omega))⟩, fun j hj => k j (by omega) (by omega) (by omega) (by omega)⟩
  · rw [hF.2 0 42 (by omega) (by omega) (by omega) (by omega) (by omega) (by omega) (by omega) (by omega) (by omega) (by omega) (by omega) (by omega)]; exact g2.1
  · rw [hF.2 0 88 (by omega) (by omega) (by omega) (by omega) (by omega) (by omega) (by omega) (by omega) (by omega) (by omega) (by omega) (by omega)]; exact g3.1
  · rw [k 49 (by omega) (by omega) (by omega) (by omega)]; exact g4.2.2.2
  · rw [k 50 (by omega) (by omega) (by omega) (by omega)]; exact g5
  · rw [hL.2 57 (by omega)]; exact g6
theorem VB_vl {q : Cx} {lo hi : Int} (h : VB q C lo hi) : lo ≤ vlS q C ∧ vlS q C ≤ hi := by
  obtain ⟨v, hv, g⟩ := h
  have g1 := (g [] (fun w hw => by cases hw)).1
  have : vlS q C = v := by
    unfold vlS
    rw [g1]
    rfl
  rw [this]
  exact hv
theorem cxS_bd (h : RR c l K F) {i : Nat} (hi : i < nC K) : CBk (cxS K F i) := by
  obtain ⟨k1, k2, k3⟩ := case_in h hi
  have h20 := h.2.1.1.1
  have hr := rul_lt K F (csK K i)
  have hb := b01_bd ((rul K F (csK K i) : Int) = tru K)
  exact ⟨⟨by show 0 ≤ (i : Int); omega, by show (i : Int) ≤ 1000; omega⟩, ⟨by show (csK K i).length ≤ 1000; omega, fun w hw => by have := k3 w hw; omega⟩, ⟨by show 0 ≤ (rul K F (csK K i) : Int); omega, by show (rul K F (csK K i) : Int) ≤ 1000; omega⟩, hb.1, hb.2⟩
/-- from CASE to CASE -/
theorem e258_86 {o : Nat} (ho : o ≤ 5) (hCl : C.length ≤ 1600) (hCv : ∀ v ∈ C, v < 20000) (hV : ∀ i, i < nC K → VB (cxS K F i) C (-1000000) 1000000) (h01 : o ≤ 2 → ∀ i, i < nC K → VB (cxS K F i) C 0 1) (d : Nat) : ∀ (k i : Nat) (c : Nat → Nat → Nat → Int32) (l : Nat → Nat → Int64), i + k = nC K → RR c l K F → c 48 0 78 = iv (C.length : Nat) → RowAt c 108 0 C → l 48 85 = jv (ansW o i (vsS K F C)) → c 48 0 86 = iv (if i = 0 then 1 else 0) → ∃ (c2 : Nat → Nat → Nat → Int32) (l2 : Nat → Nat → Int64), X (d + 10) 258 86 [some (vr 48 0), some (vi (iv (o : Nat))), some (vi (iv (i : Nat)))] [] (c, l, x, y) = some (some (vl (jv (ansW o (nC K) (vsS K F C)))), c2, l2, x, y) ∧ FW c c2 ∧ (c2 48 0 1 = c 48 0 1 ∧ c2 48 0 7 = c 48 0 7 ∧ c2 48 0 8 = c 48 0 8) ∧ LV l l2 := by
  have hvs : ∀ i, -1000000 ≤ vsS K F C i ∧ vsS K F C i ≤ 1000000 := by
    intro i
    unfold vsS
    split
    · rename_i q
      exact VB_vl (hV i q)
    · omega
  have hvs01 : o ≤ 2 → ∀ i, vsS K F C i = 0 ∨ vsS K F C i = 1 := by
    intro ho2 i
    unfold vsS
    split
    · rename_i q
      have := VB_vl (h01 ho2 i q)
      omega
    · omega
  intro k
  induction k with
  | zero =>
    intro i c l hik hR h78 h108 hl h86
    have h8 := hR.2.1.2.2.2.2.1.1
    refine ⟨c, l, ?_, FW.refl c, ⟨rfl, rfl, rfl⟩, LV.refl l⟩
    rw [q_258_86, q_218]
    simp only [am_bi_v]
    rw [hR.1.2.2.2.2.1.1, if_neg (by rw [iv_lt (by omega) (by omega)]; omega), hl, show i = nC K by omega]
  | succ k ih =>
    intro i c l hik hR h78 h108 hl h86
    have h8 := hR.2.1.2.2.2.2.1.1
    obtain ⟨c1, l1, a1, a2, a3, a4⟩ := e279 (x := x) (y := y) (show i < nC K by omega) hCl hCv hR h78 h108 (hV i (by omega)) d
    have hvi : vlS (cxS K F i) C = vsS K F C i := by
      unfold vsS
      rw [if_pos (by omega)]
    rw [hvi] at a1
    obtain ⟨c2, l2, b1, b2, b3, b4, b5⟩ := e287 (c := c1) (l := l1) (x := x) (y := y) (v := vsS K F C) (o := o) (i := i) ho (by omega) hvs hvs01 (by rw [a4 48 (by omega)]; exact hl) (by rw [a3.2 0 86 (by omega) (by omega) (by omega) (by omega) (by omega)]; exact h86) (d + 8)
    have hFE := (FW_FE a3).tr (FW_FU b4)
    have hLE := (LV_LE a4).tr (LV_LU b5)
    have hs : ∀ s, s ≠ 44 → s ≠ 47 → s ≠ 48 → s ≠ 50 → s ≠ 84 → s ≠ 86 → c2 48 0 s = c 48 0 s := fun s s1 s2 s3 s4 s5 s6 => (b4.2 0 s s6).trans (a3.2 0 s s1 s2 s3 s4 s5)
    obtain ⟨c4, l4, g1, g2, g3, g4⟩ := ih (i + 1) c2 l2 (by omega) (RR_FW hFE hLE hR) (by rw [hs 78 (by omega) (by omega) (by omega) (by omega) (by omega) (by omega)]; exact h78) (RowAt_fr h108 ((b4.1 108 (by omega)).trans (a3.1 108 (by omega) (by omega)))) b2 (by rw [b3, if_neg (by omega)])
    refine ⟨c4, l4, ?_, hFE.tr g2, ⟨by rw [g3.1, hs 1 (by omega) (by omega) (by omega) (by omega) (by omega) (by omega)], by rw [g3.2.1, hs 7 (by omega) (by omega) (by omega) (by omega) (by omega) (by omega)], by rw [g3.2.2, hs 8 (by omega) (by omega) (by omega) (by omega) (by omega) (by omega)]⟩, hLE.tr g4⟩
    have e1 : iv (i : Nat) + 1 = iv ((i + 1 : Nat) : Int) := by
      show iv (i : Nat) + iv 1 = _
      rw [iv_add]
      rfl
    rw [q_258_86, q_218]
    simp only [am_bi_v]
    rw [hR.1.2.2.2.2.1.1, if_pos (by rw [iv_lt (by omega) (by omega)]; omega), a1]
    simp only [am_bl_v]
    rw [b1]
    simp only [am_bv_v]
    rw [e1]
    exact g1
theorem en_sgn : sgnT tp n z.1 = -1 ↔ btT tp n z.1.1 = -1 := by
  unfold sgnT btT
  by_cases q : z.1.1 < n
  · rw [if_pos q, if_pos q]
    split <;> omega
  · rw [if_neg q, if_neg q]
theorem RZ_ff (h : RZ c tp n z) : c 48 0 5 = iv (fltF z.2) ∧ c 48 0 6 = iv (fltP z.2) := by
  have h4 := h.2.2.2
  cases hz : z.2 with
  | none => rw [hz] at h4; exact h4.1
  | some f => rw [hz] at h4; exact h4.1
/-- told without a fault, or with one -/
theorem e258_bad (h : AB c tp n z) (o : Int32) (d : Nat) : X (d + 10) 258 48 [some (vr 48 0), some (vi o), none] [] (c, l, x, y) = some (some (vl (jv (-1000000000000000))), am_ui (am_ui c 48 0 7 (iv (fltF z.2))) 48 0 8 (iv (fltP z.2)), l, x, y) := by
  have hM : (1000000000000000 : Int64) = jv 1000000000000000 := rfl
  have hf := RZ_ff h.1
  rw [q_258_48, if_neg (AB_bad h), q_258_60, if_neg (AB_bad h), hf.1, hf.2, hM, jv_neg]
theorem m258 (h : AR c l K F row tp n fa fp rf sd oc) (hv : VS K F row tp n fa fp sd oc) (d : Nat) : ∃ (c2 : Nat → Nat → Nat → Int32) (l2 : Nat → Nat → Int64), E (d + 10) 258 [vr 48 0] (c, l, x, y) = some (some (vl (jv (askS tp n K F))), c2, l2, x, y) ∧ AR c2 l2 K F row tp 0 (fltF (zAsk tp n).2) (fltP (zAsk tp n).2) rf sd oc ∧ KL c c2 := by
  have hc0 : ∃ c0 : Nat → Nat → Nat → Int32, c0 = am_ui (am_ui (am_ui (am_ui (am_ui (am_ui (am_ui (am_ui (am_ui (am_ui c 48 0 3 (c 48 0 1)) 48 0 1 0) 48 0 2 0) 48 0 4 (-1)) 48 0 5 0) 48 0 6 (-1)) 48 0 78 0) 48 0 80 0) 48 0 81 0) 48 0 82 0 := ⟨_, rfl⟩
  obtain ⟨c0, hc0⟩ := hc0
  have F0 : FW c c0 := by
    rw [hc0]
    exact (((((((((FW.ui 3 _ (by omega)).tr (FW.ui 1 _ (by omega))).tr (FW.ui 2 _ (by omega))).tr (FW.ui 4 _ (by omega))).tr (FW.ui 5 _ (by omega))).tr (FW.ui 6 _ (by omega))).tr (FW.ui 78 _ (by omega))).tr (FW.ui 80 _ (by omega))).tr (FW.ui 81 _ (by omega))).tr (FW.ui 82 _ (by omega))
  have k0 : ∀ k, k ≠ 48 → c0 k = c k := by
    intro k hk
    rw [hc0, ui_nk _ _ _ _ hk, ui_nk _ _ _ _ hk, ui_nk _ _ _ _ hk, ui_nk _ _ _ _ hk, ui_nk _ _ _ _ hk, ui_nk _ _ _ _ hk, ui_nk _ _ _ _ hk, ui_nk _ _ _ _ hk, ui_nk _ _ _ _ hk, ui_nk _ _ _ _ hk]
  have w82 : c0 48 0 82 = iv 0 := by rw [hc0, ui_self]; rfl
  have w81 : c0 48 0 81 = iv 0 := by rw [hc0, ui_ne _ _ _ _ (by omega), ui_self]; rfl
  have w80 : c0 48 0 80 = iv 0 := by rw [hc0, ui_ne _ _ _ _ (by omega), ui_ne _ _ _ _ (by omega), ui_self]; rfl
  have w78 : c0 48 0 78 = iv 0 := by rw [hc0, ui_ne _ _ _ _ (by omega), ui_ne _ _ _ _ (by omega), ui_ne _ _ _ _ (by omega), ui_self]; rfl
  have w6 : c0 48 0 6 = iv (-1) := by rw [hc0, ui_ne _ _ _ _ (by omega), ui_ne _ _ _ _ (by omega), ui_ne _ _ _ _ (by omega), ui_ne _ _ _ _ (by omega), ui_self]; rfl
  have w5 : c0 48 0 5 = iv 0 := by rw [hc0, ui_ne _ _ _ _ (by omega), ui_ne _ _ _ _ (by omega), ui_ne _ _ _ _ (by omega), ui_ne _ _ _ _ (by omega), ui_ne _ _ _ _ (by omega), ui_self]; rfl
  have w4 : c0 48 0 4 = iv (-1) := by rw [hc0, ui_ne _ _ _ _ (by omega), ui_ne _ _ _ _ (by omega), ui_ne _ _ _ _ (by omega), ui_ne _ _ _ _ (by omega), ui_ne _ _ _ _ (by omega), ui_ne _ _ _ _ (by omega), ui_self]; rfl
  have w2 : c0 48 0 2 = iv 0 := by rw [hc0, ui_ne _ _ _ _ (by omega), ui_ne _ _ _ _ (by omega), ui_ne _ _ _ _ (by omega), ui_ne _ _ _ _ (by omega), ui_ne _ _ _ _ (by omega), ui_ne _ _ _ _ (by omega), ui_ne _ _ _ _ (by omega), ui_self]; rfl
  have w1 : c0 48 0 1 = iv 0 := by rw [hc0, ui_ne _ _ _ _ (by omega), ui_ne _ _ _ _ (by omega), ui_ne _ _ _ _ (by omega), ui_ne _ _ _ _ (by omega), ui_ne _ _ _ _ (by omega), ui_ne _ _ _ _ (by omega), ui_ne _ _ _ _ (by omega), ui_ne _ _ _ _ (by omega), ui_self]; rfl
  have w3 : c0 48 0 3 = iv (n : Nat) := by rw [hc0, ui_ne _ _ _ _ (by omega), ui_ne _ _ _ _ (by omega), ui_ne _ _ _ _ (by omega), ui_ne _ _ _ _ (by omega), ui_ne _ _ _ _ (by omega), ui_ne _ _ _ _ (by omega), ui_ne _ _ _ _ (by omega), ui_ne _ _ _ _ (by omega), ui_ne _ _ _ _ (by omega), ui_self]; exact h.2.2.2.1.1
  have hz0 : RZ c0 tp n (nxtQ tp n 0 false, none) := by
    refine ⟨⟨w3, ?_⟩, hv.2.2.2.1, CH_fr h.2.2.2.2.2.2 (fun k hk => k0 k (by omega)), ⟨w5, w6⟩, 0, -1, w2, w4, Nat.zero_le _, ⟨by decide, by decide⟩, rfl, ?_⟩
    · rw [k0 49 (by omega)]; exact h.2.2.2.1.2.2.2
    · constructor
      · intro q
        exact absurd q (show ¬ (false && decide (skp tp (n - 0) 0 = 0)) = true by simp)
      · intro q
        omega
  have hA : AS c0 tp n (nxtQ tp n 0 false, none) [] [] 6 0 := ⟨hz0, rfl, ⟨⟨w80, trivial⟩, ⟨w78, fun k hk => absurd hk (Nat.not_lt_zero _)⟩, w81, w82, Nat.zero_le _, (fun v hv => by cases hv), (fun v hv => by cases hv)⟩, Nat.zero_le _, Nat.le_refl _⟩
  have hR0 := RR_FW F0 (LV.refl l) h.1
  obtain ⟨c1, o, a1, a2, a3, a4⟩ := e259 (l := l) (x := x) (y := y) hA (d + 4)
  -- all ends with a fault
  have bad : ∀ (c3 : Nat → Nat → Nat → Int32) (z : Tz), FK c0 c3 → AB c3 tp n z → zAsk tp n = z → ∃ (c2 : Nat → Nat → Nat → Int32) (l2 : Nat → Nat → Int64), X (d + 10) 258 48 [some (vr 48 0), some (vi (iv (o : Nat))), none] [] (c3, l, x, y) = some (some (vl (jv (askS tp n K F))), c2, l2, x, y) ∧ AR c2 l2 K F row tp 0 (fltF (zAsk tp n).2) (fltP (zAsk tp n).2) rf sd oc ∧ KL c c2 := by
    intro c3 z hF hB hz
    have hask : askS tp n K F = -1000000000000000 := by
      unfold askS
      rw [if_neg]
      intro q
      have q : (zAsk tp n).2 = none := q
      rw [hz] at q
      have := hB.2
      rw [q] at this
      cases this
    have hE := ask_end h (F0.tr ((FW_FK hF).tr ((FW.ui 7 (iv (fltF z.2)) (by omega)).tr (FW.ui 8 (iv (fltP z.2)) (by omega))))) (LV.refl l) (fa' := fltF z.2) (fp' := fltP z.2) (by rw [ui_ne _ _ _ _ (by omega), ui_ne _ _ _ _ (by omega), hF.2 0 1 (by omega) (by omega) (by omega) (by omega) (by omega) (by omega) (by omega) (by omega) (by omega)]; exact w1) (by rw [ui_ne _ _ _ _ (by omega), ui_self]) (ui_self ..)
    rw [hz, hask]
    exact ⟨_, l, e258_bad hB _ d, hE⟩
  have hgo : E (d + 10) 258 [vr 48 0] (c, l, x, y) = if (c1 48 0 5) = 0 then (if iv (o : Nat) < 3 then (am_bv (E (d + 9) 260 [vr 48 0] (c1, l, x, y)) (fun g3 => X (d + 10) 258 48 [some (vr 48 0), some (vi (iv (o : Nat))), none] [] g3)) else (if (c1 48 0 5) = 0 then (am_bv (E (d + 9) 264 [vr 48 0] (c1, l, x, y)) (fun g4 => X (d + 10) 258 48 [some (vr 48 0), some (vi (iv (o : Nat))), none] [] g4)) else X (d + 10) 258 48 [some (vr 48 0), some (vi (iv (o : Nat))), none] [] (c1, l, x, y))) else (if (c1 48 0 5) = 0 then (am_bv (E (d + 9) 264 [vr 48 0] (c1, l, x, y)) (fun g5 => X (d + 10) 258 48 [some (vr 48 0), some (vi (iv (o : Nat))), none] [] g5)) else X (d + 10) 258 48 [some (vr 48 0), some (vi (iv (o : Nat))), none] [] (c1, l, x, y)) := by
    rw [q_258, ← hc0, a1]
    simp only [am_bi_v]
  rw [hgo]
  by_cases hp : ∃ p, lixT tp n 1 (nxtQ tp n 0 false) = some p ∧ p < 6
  · rw [if_pos hp] at a4
    obtain ⟨a5, a6⟩ := a4
    have hqs : qsZ tp n (nxtQ tp n 0 false, none) = enZ tp n (bdZ tp n o (avZ tp n (nxtQ tp n 0 false, none))) := by
      unfold qsZ
      dsimp only
      dsimp only at a5
      rw [a5]
      dsimp only
      rw [if_pos a2]
    have body : ∃ c3 : Nat → Nat → Nat → Int32, (if (c1 48 0 5) = 0 then (if iv (o : Nat) < 3 then (am_bv (E (d + 9) 260 [vr 48 0] (c1, l, x, y)) (fun g3 => X (d + 10) 258 48 [some (vr 48 0), some (vi (iv (o : Nat))), none] [] g3)) else (if (c1 48 0 5) = 0 then (am_bv (E (d + 9) 264 [vr 48 0] (c1, l, x, y)) (fun g4 => X (d + 10) 258 48 [some (vr 48 0), some (vi (iv (o : Nat))), none] [] g4)) else X (d + 10) 258 48 [some (vr 48 0), some (vi (iv (o : Nat))), none] [] (c1, l, x, y))) else (if (c1 48 0 5) = 0 then (am_bv (E (d + 9) 264 [vr 48 0] (c1, l, x, y)) (fun g5 => X (d + 10) 258 48 [some (vr 48 0), some (vi (iv (o : Nat))), none] [] g5)) else X (d + 10) 258 48 [some (vr 48 0), some (vi (iv (o : Nat))), none] [] (c1, l, x, y))) = X (d + 10) 258 48 [some (vr 48 0), some (vi (iv (o : Nat))), none] [] (c3, l, x, y) ∧ FK c0 c3 ∧ (if (bdZ tp n o (avZ tp n (nxtQ tp n 0 false, none))).2.2 = none then AS c3 tp n (bdZ tp n o (avZ tp n (nxtQ tp n 0 false, none))).2 [] (bdZ tp n o (avZ tp n (nxtQ tp n 0 false, none))).1 6 0 else AB c3 tp n (bdZ tp n o (avZ tp n (nxtQ tp n 0 false, none))).2) := by
      have h05 := AS_0 a6
      have e3 : (iv (o : Nat) < 3) = ((o : Int) < 3) := iv_lt (b := 3) (by omega) (by omega)
      rw [if_pos h05, if_pos h05]
      unfold bdZ
      by_cases ho : o ≤ 2
      · rw [if_pos (by rw [e3]; omega), if_pos ho]
        obtain ⟨c3, b1, b2, b3⟩ := e260 (l := l) (x := x) (y := y) a6 d
        refine ⟨c3, ?_, a3.tr b2, ?_⟩
        · rw [b1]
          simp only [am_bv_v]
        · rw [List.nil_append] at b3
          exact b3
      · rw [if_neg (by rw [e3]; omega), if_neg ho]
        obtain ⟨c3, b1, b2, b3⟩ := e264 (l := l) (x := x) (y := y) (by omega) a6 (fun v hv => by cases hv) (d + 2)
        refine ⟨c3, ?_, a3.tr b2, ?_⟩
        · rw [b1]
          simp only [am_bv_v]
        · rw [List.nil_append] at b3
          by_cases q : (sumZ tp n (partZ tp n 6) (avZ tp n (nxtQ tp n 0 false, none))).2.2 = none
          · rw [if_pos q] at b3 ⊢
            exact b3
          · rw [if_neg q] at b3 ⊢
            exact AF_AB b3
    obtain ⟨c3, b1, b2, b3⟩ := body
    rw [b1]
    have hVB : ∀ i, i < nC K → (bdZ tp n o (avZ tp n (nxtQ tp n 0 false, none))).2.2 = none → VB (cxS K F i) (bdZ tp n o (avZ tp n (nxtQ tp n 0 false, none))).1 (if o ≤ 2 then 0 else -1000000) (if o ≤ 2 then 1 else 1000000) := by
      intro i hi hn
      have hx := cxS_bd hR0 hi
      unfold bdZ at hn ⊢
      by_cases ho : o ≤ 2
      · rw [if_pos ho] at hn ⊢
        rw [if_pos ho, if_pos ho]
        exact tst_VB (fact_VB hx 6) _ hn
      · rw [if_neg ho] at hn ⊢
        rw [if_neg ho, if_neg ho]
        exact sum_VB (part_VB hx 6) _ hn
    generalize hr : bdZ tp n o (avZ tp n (nxtQ tp n 0 false, none)) = r at b3 hqs hVB
    have hzA : zAsk tp n = (enZ tp n r).2 := by
      unfold zAsk
      rw [hqs]
    by_cases hz : r.2.2 = none
    · rw [if_pos hz] at b3
      obtain ⟨c4, g1, g2, g3, g4⟩ := AS_look (l := l) (x := x) (y := y) b3 (d + 8)
      have hb := bt_bd (n := n) hv.2.2.2.1.2 r.2.1.1
      have en := en_sgn (tp := tp) (n := n) (z := r.2)
      by_cases e : sgnT tp n r.2.1 = -1
      · have hen : enZ tp n r = r := by
          unfold enZ
          rw [if_pos e]
        have hF4 : FK c0 c4 := b2.tr (FK_FR g4)
        have hgo2 : X (d + 10) 258 48 [some (vr 48 0), some (vi (iv (o : Nat))), none] [] (c3, l, x, y) = X (d + 10) 258 60 [some (vr 48 0), some (vi (iv (o : Nat))), none] [] (c4, l, x, y) := by
          rw [q_258_48, if_pos (AS_0 b3), g1]
          simp only [am_bi_v]
          rw [if_pos (show iv (btT tp n r.2.1.1) = -1 by rw [en.mp e]; rfl)]
        have hff := RZ_ff g3.1
        have hS : FW c4 (am_ui (am_ui (am_ui c4 48 0 7 (c4 48 0 5)) 48 0 8 (c4 48 0 6)) 48 0 86 1) := ((FW.ui 7 _ (by omega)).tr (FW.ui 8 _ (by omega))).tr (FW.ui 86 _ (by omega))
        have hst : ∀ u : Int64, (∃ (v : Int), u = jv v ∧ v = ansW o 0 (vsS K F r.1)) → ∃ (c2 : Nat → Nat → Nat → Int32) (l2 : Nat → Nat → Int64), X (d + 10) 258 86 [some (vr 48 0), some (vi (iv (o : Nat))), some (vi 0)] [] (am_ui (am_ui (am_ui c4 48 0 7 (c4 48 0 5)) 48 0 8 (c4 48 0 6)) 48 0 86 1, am_ul l 48 85 u, x, y) = some (some (vl (jv (askS tp n K F))), c2, l2, x, y) ∧ AR c2 l2 K F row tp 0 (fltF (zAsk tp n).2) (fltP (zAsk tp n).2) rf sd oc ∧ KL c c2 := by
          intro u hu
          obtain ⟨v, hu1, hu2⟩ := hu
          have hLV : LV l (am_ul l 48 85 u) := LV_LU (LU.ul u)
          have hFW5 : FW c (am_ui (am_ui (am_ui c4 48 0 7 (c4 48 0 5)) 48 0 8 (c4 48 0 6)) 48 0 86 1) := F0.tr ((FW_FK hF4).tr hS)
          obtain ⟨c5, l5, i1, i2, i3, i4⟩ := e258_86 (x := x) (y := y) (K := K) (F := F) (C := r.1) (show o ≤ 5 by omega) (by have := g3.2.2.1.2.2.2.2.1; omega) g3.2.2.1.2.2.2.2.2.2 (fun i hi => by
            have := hVB i hi hz
            by_cases ho : o ≤ 2
            · rw [if_pos ho, if_pos ho] at this
              obtain ⟨w, hw, hg⟩ := this
              exact ⟨w, by omega, hg⟩
            · rw [if_neg ho, if_neg ho] at this
              exact this) (fun ho i hi => by
            have := hVB i hi hz
            rw [if_pos ho, if_pos ho] at this
            exact this) d (nC K) 0 _ (am_ul l 48 85 u) (by omega) (RR_FW hFW5 hLV h.1) (by rw [ui_ne _ _ _ _ (by omega), ui_ne _ _ _ _ (by omega), ui_ne _ _ _ _ (by omega)]; exact g3.2.2.1.2.1.1) (RowAt_fr g3.2.2.1.2.1.2 (by rw [ui_nk _ _ _ _ (by omega), ui_nk _ _ _ _ (by omega), ui_nk _ _ _ _ (by omega)])) (by rw [ul_self, hu1, hu2]) (by rw [ui_self]; rfl)
          have hask : askS tp n K F = ansW o (nC K) (vsS K F r.1) := by
            unfold askS
            rw [hqs, hen, if_pos hz, a5]
            rfl
          have hE := ask_end h (hFW5.tr i2) (hLV.tr i4) (fa' := fltF r.2.2) (fp' := fltP r.2.2) (by rw [i3.1, ui_ne _ _ _ _ (by omega), ui_ne _ _ _ _ (by omega), ui_ne _ _ _ _ (by omega), hF4.2 0 1 (by omega) (by omega) (by omega) (by omega) (by omega) (by omega) (by omega) (by omega) (by omega)]; exact w1) (by rw [i3.2.1, ui_ne _ _ _ _ (by omega), ui_ne _ _ _ _ (by omega), ui_self]; exact hff.1) (by rw [i3.2.2, ui_ne _ _ _ _ (by omega), ui_self]; exact hff.2)
          rw [hzA, hen, hask]
          exact ⟨c5, l5, i1, hE⟩
        have e2 : (iv (o : Nat) < 2) = ((o : Int) < 2) := iv_lt (b := 2) (by omega) (by omega)
        rw [hgo2, q_258_60, if_pos (AS_0 g3)]
        by_cases ho : o < 2
        · rw [if_pos (by rw [e2]; omega)]
          refine hst (-1) ⟨-1, rfl, ?_⟩
          rcases (show o = 0 ∨ o = 1 by omega) with rfl | rfl <;> rfl
        · rw [if_neg (by rw [e2]; omega)]
          refine hst 0 ⟨0, rfl, ?_⟩
          rcases (show o = 2 ∨ o = 3 ∨ o = 4 ∨ o = 5 by omega) with rfl | rfl | rfl | rfl <;> rfl
      · have hen : (enZ tp n r).2 = flZ 1 r.2.1.1 r.2 := by
          unfold enZ
          rw [if_neg e]
        have hlen := AS_len b3
        obtain ⟨c5, k1, k2, k3⟩ := e152 (l := l) (x := x) (y := y) g3.1 (k := 1) (p := r.2.1.1) (by omega) hlen (d + 8)
        have k1 : E (d + 9) 152 [vr 48 0, vi 1, vi (iv (r.2.1.1 : Nat))] (c4, l, x, y) = _ := k1
        have hB : AB c5 tp n (flZ 1 r.2.1.1 r.2) := ⟨k2, flZ_is _ _ _⟩
        have hgo2 : X (d + 10) 258 48 [some (vr 48 0), some (vi (iv (o : Nat))), none] [] (c3, l, x, y) = X (d + 10) 258 48 [some (vr 48 0), some (vi (iv (o : Nat))), none] [] (c5, l, x, y) := by
          rw [q_258_48 (c := c5), if_neg (AB_bad hB), q_258_48, if_pos (AS_0 b3), g1]
          simp only [am_bi_v]
          rw [if_neg (show ¬ iv (btT tp n r.2.1.1) = -1 from fun q => by rw [show (-1 : Int32) = iv (-1) from rfl, iv_eq (by omega) (by omega)] at q; exact e (en.mpr q)), g2.2.2.2.2.1, k1]
          simp only [am_bv_v]
        rw [hgo2]
        exact bad c5 _ ((b2.tr (FK_FR g4)).tr (FK_FR k3)) hB (by rw [hzA, hen])
    · rw [if_neg hz] at b3
      have hen : (enZ tp n r).2 = r.2 := by
        unfold enZ
        dsimp only
        split
        · rfl
        · exact flZ_some b3.2
      exact bad c3 _ b2 b3 (by rw [hzA, hen])
  · rw [if_neg hp] at a4
    rw [if_neg (AB_bad a4), if_neg (AB_bad a4)]
    refine bad c1 _ a3 a4 ?_
    unfold zAsk qsZ
    dsimp only
    cases hl : lixT tp n 1 (nxtQ tp n 0 false) with
    | none => rfl
    | some p =>
      dsimp only
      rw [if_neg (fun q => hp ⟨p, hl, q⟩)]
end
