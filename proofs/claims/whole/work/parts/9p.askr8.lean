/-! the reference's ask: behind a part -/
section
variable {c : Nat → Nat → Nat → Int32} {l : Nat → Nat → Int64} {x y : Nat} {tp : Nat → Nat} {n : Nat} {z : Tz} {s : Ts} {S T C O : List Nat} {m b v : Nat}
theorem len_cons_lo (h : S.length + 1 ≤ 1600) : iv ((S.length + 1 : Nat) : Int) - 1 = iv (S.length : Nat) ∧ ¬ (iv (S.length : Nat) < 0 ∨ 1700 ≤ (iv (S.length : Nat)).toNatClampNeg) ∧ (iv (S.length : Nat)).toNatClampNeg = S.length := by
  have h0 : (iv (S.length : Nat) < 0) = ((S.length : Int) < 0) := iv_lt (b := 0) (by omega) (by omega)
  refine ⟨?_, ?_, ?_⟩
  · show iv ((S.length + 1 : Nat) : Int) - iv 1 = _
    rw [iv_sub, show ((S.length + 1 : Nat) : Int) - 1 = (S.length : Int) by omega]
  · rw [h0, iv_nat (by omega)]
    omega
  · rw [iv_nat (by omega), Int.toNat_natCast]
theorem len_lo (h : S.length ≤ 1600) : ¬ (iv (S.length : Nat) < 0 ∨ 1700 ≤ (iv (S.length : Nat)).toNatClampNeg) ∧ (iv (S.length : Nat)).toNatClampNeg = S.length ∧ iv (S.length : Nat) + 1 = iv ((S.length + 1 : Nat) : Int) := by
  have h0 : (iv (S.length : Nat) < 0) = ((S.length : Int) < 0) := iv_lt (b := 0) (by omega) (by omega)
  refine ⟨?_, ?_, ?_⟩
  · rw [h0, iv_nat (by omega)]
    omega
  · rw [iv_nat (by omega), Int.toNat_natCast]
  · show iv (S.length : Nat) + iv 1 = _
    rw [iv_add]
    rfl
/-- a sign, if it is here -/
theorem AS_take (h : AS c tp n z S C m b) {sg : Int} (hsg : 1 ≤ sg ∧ sg < 256 ∧ ¬ (97 ≤ sg ∧ sg ≤ 122) ∧ ¬ (48 ≤ sg ∧ sg ≤ 57)) (d : Nat) : ∃ c2 : Nat → Nat → Nat → Int32, E (d + 2) 175 [vr 48 0, vi (iv sg)] (c, l, x, y) = some (some (vi (iv (if sgnT tp n z.1 = sg then 1 else 0))), c2, l, x, y) ∧ (if sgnT tp n z.1 = sg then AS c2 tp n (avZ tp n z) S C m b ∧ c2 48 0 2 = iv ((z.1.1 : Int) + 1) ∧ z.1.1 < n ∧ (tp z.1.1 : Int) = sg else RL c2 tp n z.1 ∧ AS c2 tp n z S C m b) ∧ FR c c2 := by
  obtain ⟨h1, h2, h3, h4, h5⟩ := h
  rw [tz_eta z h2] at h1
  obtain ⟨c2, g1, g2, g3⟩ := e175 (l := l) (x := x) (y := y) h1 hsg d
  refine ⟨c2, g1, ?_, g3⟩
  by_cases e : sgnT tp n z.1 = sg
  · rw [if_pos e] at g2 ⊢
    obtain ⟨k1, k2, k3, k4⟩ := g2
    have h6 := avZ_lt (tp := tp) (n := n) (z := z) (by omega)
    refine ⟨⟨?_, h2, QS_FR g3 h3, by omega, h5⟩, k2, k3, k4⟩
    unfold avZ
    rw [h2]
    exact k1
  · rw [if_neg e] at g2 ⊢
    refine ⟨g2, ?_, h2, QS_FR g3 h3, h4, h5⟩
    rw [tz_eta z h2]
    exact RL_RZ g2
/-- operators that bind as much are told, one is put by -/
theorem e271_82 (d : Nat) {op : Nat} (hop : op < 100) (hT : ∀ v, T.head? = some v → v ≠ 3 ∧ v ≠ 4) : ∀ (O C : List Nat) (c : Nat → Nat → Nat → Int32), (∀ v ∈ O, v = 3 ∨ v = 4) → QS c (O ++ T) C m b → (O ++ T).length + C.length < 1600 → ∃ c2 : Nat → Nat → Nat → Int32, X (d + 3) 271 82 [some (vr 48 0), some (vi (iv (op : Nat)))] [] (c, l, x, y) = some (some (vi 1), c2, l, x, y) ∧ QS c2 (op :: T) (C ++ O) m b ∧ FK c c2 ∧ (∀ tp n z, RZ c tp n z → RZ c2 tp n z) := by
  intro O
  induction O with
  | nil =>
    intro C c hO g hl
    rw [List.nil_append] at g hl
    have h3 := e275 (l := l) (x := x) (y := y) g (a := 3) (by omega) (d + 1)
    have h4 := e275 (l := l) (x := x) (y := y) g (a := 4) (by omega) (d + 1)
    rw [if_neg (fun q => (hT 3 q).1 rfl)] at h3
    rw [if_neg (fun q => (hT 4 q).2 rfl)] at h4
    have h3 : E (d + 2) 275 [vr 48 0, vi 3] (c, l, x, y) = some (some (vi (iv 0)), c, l, x, y) := h3
    have h4 : E (d + 2) 275 [vr 48 0, vi 4] (c, l, x, y) = some (some (vi (iv 0)), c, l, x, y) := h4
    obtain ⟨k1, k2, k3⟩ := len_lo (S := T) (by omega)
    refine ⟨_, ?_, ?_, (FK.ui 109 T.length (iv (op : Nat)) (by omega)).tr (FK.ui 48 80 (iv ((T.length + 1 : Nat) : Int)) (by omega)), fun tp n z hz => ?_⟩
    · rw [q_271_82, h3]
      simp only [am_bi_v]
      rw [if_pos (show iv 0 = 0 from rfl), h4]
      simp only [am_bi_v]
      rw [if_pos (show iv 0 = 0 from rfl), g.1.1, if_neg k1, k2, k3]
    · rw [List.append_nil]
      exact QS_push g hop hl
    · exact RZ_q hz (fun j hj => by rw [ui_ne _ _ _ _ (by omega), ui_nk _ _ _ _ (by omega)]) (fun k hk => by rw [ui_nk _ _ _ _ (by omega), ui_nk _ _ _ _ (by omega)])
  | cons v O ih =>
    intro C c hO g hl
    rw [List.cons_append] at g hl
    rw [List.length_cons] at hl
    have h3 := e275 (l := l) (x := x) (y := y) g (a := 3) (by omega) (d + 1)
    have h4 := e275 (l := l) (x := x) (y := y) g (a := 4) (by omega) (d + 1)
    have h3 : E (d + 2) 275 [vr 48 0, vi 3] (c, l, x, y) = some (some (vi (iv (if (v :: (O ++ T)).head? = some 3 then 1 else 0))), c, l, x, y) := h3
    have h4 : E (d + 2) 275 [vr 48 0, vi 4] (c, l, x, y) = some (some (vi (iv (if (v :: (O ++ T)).head? = some 4 then 1 else 0))), c, l, x, y) := h4
    obtain ⟨c1, a1, a2, a3, a4⟩ := e270 (l := l) (x := x) (y := y) g d
    obtain ⟨c2, b1, b2, b3, b4⟩ := ih (C ++ [v]) c1 (fun u hu => hO u (List.mem_cons_of_mem _ hu)) a2 (by rw [show (C ++ [v]).length = C.length + 1 by rw [List.length_append]; rfl]; omega)
    refine ⟨c2, ?_, ?_, a3.tr b3, fun tp n z hz => b4 tp n z (a4 tp n z hz)⟩
    · rw [q_271_82, h3]
      simp only [am_bi_v]
      rcases hO v (List.mem_cons_self ..) with rfl | rfl
      · rw [if_pos (show (3 :: (O ++ T)).head? = some 3 from rfl), if_neg (show ¬ iv 1 = 0 by decide), a1]
        simp only [am_bv_v]
        exact b1
      · rw [if_neg (show ¬ (4 :: (O ++ T)).head? = some 3 from fun q => by cases q), if_pos (show iv 0 = 0 from rfl), h4]
        simp only [am_bi_v]
        rw [if_pos (show (4 :: (O ++ T)).head? = some 4 from rfl), if_neg (show ¬ iv 1 = 0 by decide), a1]
        simp only [am_bv_v]
        exact b1
    · rw [show C ++ (v :: O) = C ++ [v] ++ O by rw [List.append_assoc]; rfl]
      exact b2
theorem e271_128 (d : Nat) {op : Nat} (hop : op < 100) (hT : ∀ v, T.head? = some v → v ≠ 3 ∧ v ≠ 4 ∧ v ≠ 1 ∧ v ≠ 2) : ∀ (O C : List Nat) (c : Nat → Nat → Nat → Int32), (∀ v ∈ O, v = 3 ∨ v = 4 ∨ v = 1 ∨ v = 2) → QS c (O ++ T) C m b → (O ++ T).length + C.length < 1600 → ∃ c2 : Nat → Nat → Nat → Int32, X (d + 3) 271 128 [some (vr 48 0), some (vi (iv (op : Nat)))] [] (c, l, x, y) = some (some (vi 1), c2, l, x, y) ∧ QS c2 (op :: T) (C ++ O) m b ∧ FK c c2 ∧ (∀ tp n z, RZ c tp n z → RZ c2 tp n z) := by
  intro O
  induction O with
  | nil =>
    intro C c hO g hl
    rw [List.nil_append] at g hl
    have h3 := e275 (l := l) (x := x) (y := y) g (a := 3) (by omega) (d + 1)
    have h4 := e275 (l := l) (x := x) (y := y) g (a := 4) (by omega) (d + 1)
    have h1 := e275 (l := l) (x := x) (y := y) g (a := 1) (by omega) (d + 1)
    have h2 := e275 (l := l) (x := x) (y := y) g (a := 2) (by omega) (d + 1)
    rw [if_neg (fun q => (hT 3 q).1 rfl)] at h3
    rw [if_neg (fun q => (hT 4 q).2.1 rfl)] at h4
    rw [if_neg (fun q => (hT 1 q).2.2.1 rfl)] at h1
    rw [if_neg (fun q => (hT 2 q).2.2.2 rfl)] at h2
    have h3 : E (d + 2) 275 [vr 48 0, vi 3] (c, l, x, y) = some (some (vi (iv 0)), c, l, x, y) := h3
    have h4 : E (d + 2) 275 [vr 48 0, vi 4] (c, l, x, y) = some (some (vi (iv 0)), c, l, x, y) := h4
    have h1 : E (d + 2) 275 [vr 48 0, vi 1] (c, l, x, y) = some (some (vi (iv 0)), c, l, x, y) := h1
    have h2 : E (d + 2) 275 [vr 48 0, vi 2] (c, l, x, y) = some (some (vi (iv 0)), c, l, x, y) := h2
    obtain ⟨k1, k2, k3⟩ := len_lo (S := T) (by omega)
    refine ⟨_, ?_, ?_, (FK.ui 109 T.length (iv (op : Nat)) (by omega)).tr (FK.ui 48 80 (iv ((T.length + 1 : Nat) : Int)) (by omega)), fun tp n z hz => ?_⟩
    · rw [q_271_128, h3]
      simp only [am_bi_v]
      rw [if_pos (show iv 0 = 0 from rfl), h4]
      simp only [am_bi_v]
      rw [if_pos (show iv 0 = 0 from rfl), h1]
      simp only [am_bi_v]
      rw [if_pos (show iv 0 = 0 from rfl), h2]
      simp only [am_bi_v]
      rw [if_pos (show iv 0 = 0 from rfl), g.1.1, if_neg k1, k2, k3]
    · rw [List.append_nil]
      exact QS_push g hop hl
    · exact RZ_q hz (fun j hj => by rw [ui_ne _ _ _ _ (by omega), ui_nk _ _ _ _ (by omega)]) (fun k hk => by rw [ui_nk _ _ _ _ (by omega), ui_nk _ _ _ _ (by omega)])
  | cons v O ih =>
    intro C c hO g hl
    rw [List.cons_append] at g hl
    rw [List.length_cons] at hl
    have h3 := e275 (l := l) (x := x) (y := y) g (a := 3) (by omega) (d + 1)
    have h4 := e275 (l := l) (x := x) (y := y) g (a := 4) (by omega) (d + 1)
    have h1 := e275 (l := l) (x := x) (y := y) g (a := 1) (by omega) (d + 1)
    have h2 := e275 (l := l) (x := x) (y := y) g (a := 2) (by omega) (d + 1)
    have h3 : E (d + 2) 275 [vr 48 0, vi 3] (c, l, x, y) = some (some (vi (iv (if (v :: (O ++ T)).head? = some 3 then 1 else 0))), c, l, x, y) := h3
    have h4 : E (d + 2) 275 [vr 48 0, vi 4] (c, l, x, y) = some (some (vi (iv (if (v :: (O ++ T)).head? = some 4 then 1 else 0))), c, l, x, y) := h4
    have h1 : E (d + 2) 275 [vr 48 0, vi 1] (c, l, x, y) = some (some (vi (iv (if (v :: (O ++ T)).head? = some 1 then 1 else 0))), c, l, x, y) := h1
    have h2 : E (d + 2) 275 [vr 48 0, vi 2] (c, l, x, y) = some (some (vi (iv (if (v :: (O ++ T)).head? = some 2 then 1 else 0))), c, l, x, y) := h2
    obtain ⟨c1, a1, a2, a3, a4⟩ := e270 (l := l) (x := x) (y := y) g d
    obtain ⟨c2, b1, b2, b3, b4⟩ := ih (C ++ [v]) c1 (fun u hu => hO u (List.mem_cons_of_mem _ hu)) a2 (by rw [show (C ++ [v]).length = C.length + 1 by rw [List.length_append]; rfl]; omega)
    have q0 : iv 0 = 0 := rfl
    have q1 : ¬ iv 1 = 0 := by decide
    refine ⟨c2, ?_, ?_, a3.tr b3, fun tp n z hz => b4 tp n z (a4 tp n z hz)⟩
    · rw [q_271_128, h3]
      simp only [am_bi_v]
      rcases hO v (List.mem_cons_self ..) with rfl | rfl | rfl | rfl
      · rw [if_pos (show (3 :: (O ++ T)).head? = some 3 from rfl), if_neg q1, a1]
        simp only [am_bv_v]
        exact b1
      · rw [if_neg (show ¬ (4 :: (O ++ T)).head? = some 3 from fun q => by cases q), if_pos q0, h4]
        simp only [am_bi_v]
        rw [if_pos (show (4 :: (O ++ T)).head? = some 4 from rfl), if_neg q1, a1]
        simp only [am_bv_v]
        exact b1
      · rw [if_neg (show ¬ (1 :: (O ++ T)).head? = some 3 from fun q => by cases q), if_pos q0, h4]
        simp only [am_bi_v]
        rw [if_neg (show ¬ (1 :: (O ++ T)).head? = some 4 from fun q => by cases q), if_pos q0, h1]
        simp only [am_bi_v]
        rw [if_pos (show (1 :: (O ++ T)).head? = some 1 from rfl), if_neg q1, a1]
        simp only [am_bv_v]
        exact b1
      · rw [if_neg (show ¬ (2 :: (O ++ T)).head? = some 3 from fun q => by cases q), if_pos q0, h4]
        simp only [am_bi_v]
        rw [if_neg (show ¬ (2 :: (O ++ T)).head? = some 4 from fun q => by cases q), if_pos q0, h1]
        simp only [am_bi_v]
        rw [if_neg (show ¬ (2 :: (O ++ T)).head? = some 1 from fun q => by cases q), if_pos q0, h2]
        simp only [am_bi_v]
        rw [if_pos (show (2 :: (O ++ T)).head? = some 2 from rfl), if_neg q1, a1]
        simp only [am_bv_v]
        exact b1
    · rw [show C ++ (v :: O) = C ++ [v] ++ O by rw [List.append_assoc]; rfl]
      exact b2
/-- no bracket is closed -/
theorem g_61 (h : AS c tp n z S C m b) (hs : ¬ (sgnT tp n z.1 = 41 ∧ (inB b S = 20 ∨ inB b S = 23 ∨ inB b S = 24))) (hi : -1 ≤ inB b S ∧ inB b S < 100) (d : Nat) : ∃ c1 : Nat → Nat → Nat → Int32, X (d + 4) 271 0 [some (vr 48 0), none] [] (c, l, x, y) = X (d + 4) 271 61 [some (vr 48 0), none] [] (c1, l, x, y) ∧ AS c1 tp n z S C m b ∧ FR c c1 := by
  obtain ⟨c1, a1, a2, a3, a4⟩ := AS_look (l := l) (x := x) (y := y) h (d + 2)
  have hsi := sgnS_iff (tp := tp) (n := n) (s := z.1) (sg := 41) (by omega)
  have hbb := bt_bd (n := n) h.1.2.1.2 z.1.1
  have h272 := e272 (l := l) (x := x) (y := y) a3.2.2.1 (AS_b h) (d + 1)
  refine ⟨c1, ?_, a3, a4⟩
  rw [q_271_0, if_pos (AS_0 h), a1]
  simp only [am_bi_v]
  by_cases e : sgnT tp n z.1 = 41
  · have hi' : ¬ (inB b S = 20 ∨ inB b S = 23 ∨ inB b S = 24) := fun q => hs ⟨e, q⟩
    rw [hsi.mp e, if_pos (by rfl), h272]
    simp only [am_bi_v]
    rw [if_neg (show ¬ iv (inB b S) = 20 from fun q => by rw [show (20 : Int32) = iv 20 from rfl, iv_eq (by omega) (by omega)] at q; omega), h272]
    simp only [am_bi_v]
    rw [if_neg (show ¬ iv (inB b S) = 23 from fun q => by rw [show (23 : Int32) = iv 23 from rfl, iv_eq (by omega) (by omega)] at q; omega), h272]
    simp only [am_bi_v]
    rw [if_neg (show ¬ iv (inB b S) = 24 from fun q => by rw [show (24 : Int32) = iv 24 from rfl, iv_eq (by omega) (by omega)] at q; omega)]
  · rw [if_neg (show ¬ iv (btT tp n z.1.1) = 41 from fun q => by rw [show (41 : Int32) = iv 41 from rfl, iv_eq (by omega) (by omega)] at q; exact e (hsi.mpr q))]
/-- * or / -/
theorem g_mul {op : Nat} (h : AS c tp n z (O ++ T) C m b) (hO : ∀ v ∈ O, v = 3 ∨ v = 4) (hT : ∀ v, T.head? = some v → v ≠ 3 ∧ v ≠ 4) (hb : b ≤ T.length) (hs : mulO tp n z.1 = some op) (d : Nat) : ∃ c2 : Nat → Nat → Nat → Int32, X (d + 4) 271 61 [some (vr 48 0), none] [] (c, l, x, y) = some (some (vi 1), c2, l, x, y) ∧ AS c2 tp n (avZ tp n z) (op :: T) (C ++ O) m b ∧ FK c c2 := by
  obtain ⟨c1, a1, a2, a3⟩ := AS_take (l := l) (x := x) (y := y) h (sg := 42) (by omega) (d + 1)
  have hn := h.1.2.1.1
  have hl := h.2.2.2.1
  rw [List.length_append] at hl
  have fin : ∀ (c2 : Nat → Nat → Nat → Int32), AS c2 tp n (avZ tp n z) (O ++ T) C m b → c2 48 0 2 = iv ((z.1.1 : Int) + 1) → z.1.1 < n → op = (if (tp z.1.1 : Int) = 42 then 3 else 4) → FR c c2 → ∃ c3 : Nat → Nat → Nat → Int32, X (d + 4) 271 69 [some (vr 48 0), none] [] (c2, l, x, y) = some (some (vi 1), c3, l, x, y) ∧ AS c3 tp n (avZ tp n z) (op :: T) (C ++ O) m b ∧ FK c c3 := by
    intro c2 g1 g2 g3 g4 g5
    have hop : op < 100 := by rw [g4]; split <;> omega
    obtain ⟨c3, b1, b2, b3, b4⟩ := e271_82 (l := l) (x := x) (y := y) (d + 1) hop hT O C c2 hO g1.2.2.1 (by rw [List.length_append]; omega)
    have h6 := avZ_lt (tp := tp) (n := n) (z := z) (fun q => by unfold sgnT at q; rw [if_pos g3] at q; split at q <;> omega)
    have hcell := g1.1.1.2 z.1.1 (by omega)
    have hbyt := h.1.2.1.2 z.1.1
    have e1 : iv ((z.1.1 : Int) + 1) - 1 = iv (z.1.1 : Nat) := by
      show iv ((z.1.1 : Int) + 1) - iv 1 = _
      rw [iv_sub, show (z.1.1 : Int) + 1 - 1 = (z.1.1 : Int) by omega]
    have e2 : ¬ (iv (z.1.1 : Nat) < 0 ∨ 1600 ≤ (iv (z.1.1 : Nat)).toNatClampNeg) := by
      rw [show (iv (z.1.1 : Nat) < 0) = ((z.1.1 : Int) < 0) from iv_lt (b := 0) (by omega) (by omega), iv_nat (by omega)]
      omega
    refine ⟨c3, ?_, ⟨b4 tp n _ g1.1, g1.2.1, b2, ?_, by rw [List.length_cons]; omega⟩, (FK_FR g5).tr b3⟩
    · rw [q_271_69, g2, e1, if_neg e2, iv_nat (by omega), Int.toNat_natCast, hcell]
      by_cases e : (tp z.1.1 : Int) = 42
      · rw [if_pos (show iv (tp z.1.1 : Nat) = 42 by rw [e]; rfl)]
        rw [if_pos e] at g4
        rw [g4] at b1
        exact b1
      · rw [if_neg (show ¬ iv (tp z.1.1 : Nat) = 42 from fun q => by rw [show (42 : Int32) = iv 42 from rfl, iv_eq (by omega) (by omega)] at q; exact e q)]
        rw [if_neg e] at g4
        rw [g4] at b1
        exact b1
    · rw [List.length_cons, List.length_append]
      omega
  rw [q_271_61]
  have a1 : E (d + 3) 175 [vr 48 0, vi 42] (c, l, x, y) = _ := a1
  rw [a1]
  simp only [am_bi_v]
  unfold mulO at hs
  by_cases e : sgnT tp n z.1 = 42
  · rw [if_pos e] at hs a2 ⊢
    rw [if_neg (show ¬ iv 1 = 0 by decide)]
    obtain ⟨k1, k2, k3, k4⟩ := a2
    exact fin c1 k1 k2 k3 (by rw [if_pos k4]; exact (Option.some.inj hs).symm) a3
  · rw [if_neg e] at hs a2 ⊢
    rw [if_pos (show iv 0 = 0 from rfl)]
    by_cases e2 : sgnT tp n z.1 = 47
    · rw [if_pos e2] at hs
      obtain ⟨c2, b1, b2, b3⟩ := AS_take (l := l) (x := x) (y := y) a2.2 (sg := 47) (by omega) (d + 1)
      have b1 : E (d + 3) 175 [vr 48 0, vi 47] (c1, l, x, y) = _ := b1
      rw [if_pos e2] at b2
      rw [b1]
      simp only [am_bi_v]
      rw [if_pos e2, if_neg (show ¬ iv 1 = 0 by decide)]
      obtain ⟨k1, k2, k3, k4⟩ := b2
      exact fin c2 k1 k2 k3 (by rw [if_neg (by omega)]; exact (Option.some.inj hs).symm) (a3.tr b3)
    · rw [if_neg e2] at hs
      cases hs
/-- + or - -/
theorem g_add {op : Nat} (h : AS c tp n z (O ++ T) C m b) (hO : ∀ v ∈ O, v = 3 ∨ v = 4 ∨ v = 1 ∨ v = 2) (hT : ∀ v, T.head? = some v → v ≠ 3 ∧ v ≠ 4 ∧ v ≠ 1 ∧ v ≠ 2) (hb : b ≤ T.length) (hs : addO tp n z.1 = some op) (d : Nat) : ∃ c2 : Nat → Nat → Nat → Int32, X (d + 4) 271 61 [some (vr 48 0), none] [] (c, l, x, y) = some (some (vi 1), c2, l, x, y) ∧ AS c2 tp n (avZ tp n z) (op :: T) (C ++ O) m b ∧ FK c c2 := by
  have hn := h.1.2.1.1
  have hl := h.2.2.2.1
  rw [List.length_append] at hl
  have hsg : sgnT tp n z.1 = 43 ∨ sgnT tp n z.1 = 45 := by
    unfold addO at hs
    split at hs
    · omega
    · split at hs
      · omega
      · cases hs
  have fin : ∀ (c2 : Nat → Nat → Nat → Int32), AS c2 tp n (avZ tp n z) (O ++ T) C m b → c2 48 0 2 = iv ((z.1.1 : Int) + 1) → z.1.1 < n → op = (if (tp z.1.1 : Int) = 43 then 1 else 2) → FR c c2 → ∃ c3 : Nat → Nat → Nat → Int32, X (d + 4) 271 115 [some (vr 48 0), none] [] (c2, l, x, y) = some (some (vi 1), c3, l, x, y) ∧ AS c3 tp n (avZ tp n z) (op :: T) (C ++ O) m b ∧ FK c c3 := by
    intro c2 g1 g2 g3 g4 g5
    have hop : op < 100 := by rw [g4]; split <;> omega
    obtain ⟨c3, b1, b2, b3, b4⟩ := e271_128 (l := l) (x := x) (y := y) (d + 1) hop hT O C c2 hO g1.2.2.1 (by rw [List.length_append]; omega)
    have h6 := avZ_lt (tp := tp) (n := n) (z := z) (by omega)
    have hcell := g1.1.1.2 z.1.1 (by omega)
    have hbyt := h.1.2.1.2 z.1.1
    have e1 : iv ((z.1.1 : Int) + 1) - 1 = iv (z.1.1 : Nat) := by
      show iv ((z.1.1 : Int) + 1) - iv 1 = _
      rw [iv_sub, show (z.1.1 : Int) + 1 - 1 = (z.1.1 : Int) by omega]
    have e2 : ¬ (iv (z.1.1 : Nat) < 0 ∨ 1600 ≤ (iv (z.1.1 : Nat)).toNatClampNeg) := by
      rw [show (iv (z.1.1 : Nat) < 0) = ((z.1.1 : Int) < 0) from iv_lt (b := 0) (by omega) (by omega), iv_nat (by omega)]
      omega
    refine ⟨c3, ?_, ⟨b4 tp n _ g1.1, g1.2.1, b2, ?_, by rw [List.length_cons]; omega⟩, (FK_FR g5).tr b3⟩
    · rw [q_271_115, g2, e1, if_neg e2, iv_nat (by omega), Int.toNat_natCast, hcell]
      by_cases e : (tp z.1.1 : Int) = 43
      · rw [if_pos (show iv (tp z.1.1 : Nat) = 43 by rw [e]; rfl)]
        rw [if_pos e] at g4
        rw [g4] at b1
        exact b1
      · rw [if_neg (show ¬ iv (tp z.1.1 : Nat) = 43 from fun q => by rw [show (43 : Int32) = iv 43 from rfl, iv_eq (by omega) (by omega)] at q; exact e q)]
        rw [if_neg e] at g4
        rw [g4] at b1
        exact b1
    · rw [List.length_cons, List.length_append]
      omega
  obtain ⟨c1, a1, a2, a3⟩ := AS_take (l := l) (x := x) (y := y) h (sg := 42) (by omega) (d + 1)
  have a1 : E (d + 3) 175 [vr 48 0, vi 42] (c, l, x, y) = _ := a1
  rw [if_neg (by omega)] at a1 a2
  obtain ⟨c2, b1, b2, b3⟩ := AS_take (l := l) (x := x) (y := y) a2.2 (sg := 47) (by omega) (d + 1)
  have b1 : E (d + 3) 175 [vr 48 0, vi 47] (c1, l, x, y) = _ := b1
  rw [if_neg (by omega)] at b1 b2
  obtain ⟨c3, g1, g2, g3⟩ := AS_take (l := l) (x := x) (y := y) b2.2 (sg := 43) (by omega) (d + 1)
  have g1 : E (d + 3) 175 [vr 48 0, vi 43] (c2, l, x, y) = _ := g1
  have q0 : iv 0 = 0 := rfl
  have q1 : ¬ iv 1 = 0 := by decide
  rw [q_271_61, a1]
  simp only [am_bi_v]
  rw [if_pos q0, b1]
  simp only [am_bi_v]
  rw [if_pos q0, g1]
  simp only [am_bi_v]
  unfold addO at hs
  by_cases e : sgnT tp n z.1 = 43
  · rw [if_pos e] at hs g2 ⊢
    rw [if_neg q1]
    obtain ⟨k1, k2, k3, k4⟩ := g2
    exact fin c3 k1 k2 k3 (by rw [if_pos k4]; exact (Option.some.inj hs).symm) ((a3.tr b3).tr g3)
  · have e2 : sgnT tp n z.1 = 45 := by omega
    rw [if_neg e] at hs g2 ⊢
    rw [if_pos e2] at hs
    rw [if_pos q0]
    obtain ⟨c4, f1, f2, f3⟩ := AS_take (l := l) (x := x) (y := y) g2.2 (sg := 45) (by omega) (d + 1)
    have f1 : E (d + 3) 175 [vr 48 0, vi 45] (c3, l, x, y) = _ := f1
    rw [if_pos e2] at f1 f2
    rw [f1]
    simp only [am_bi_v]
    rw [if_neg q1]
    obtain ⟨k1, k2, k3, k4⟩ := f2
    exact fin c4 k1 k2 k3 (by rw [if_neg (by omega)]; exact (Option.some.inj hs).symm) (((a3.tr b3).tr g3).tr f3)
/-- no operator -/
theorem g_no4 (h : AS c tp n z S C m b) (hs : sgnT tp n z.1 ≠ 42 ∧ sgnT tp n z.1 ≠ 47 ∧ sgnT tp n z.1 ≠ 43 ∧ sgnT tp n z.1 ≠ 45) (hi : -1 ≤ inB b S ∧ inB b S < 100) (d : Nat) : ∃ c1 : Nat → Nat → Nat → Int32, X (d + 4) 271 61 [some (vr 48 0), none] [] (c, l, x, y) = (if inB b S = 21 ∨ inB b S = 22 then X (d + 4) 271 169 [some (vr 48 0), none] [] (c1, l, x, y) else if inB b S = -1 then some (some (vi 0), c1, l, x, y) else am_bv (E (d + 3) 152 [vr 48 0, vi 1, vi (iv (z.1.1 : Nat))] (c1, l, x, y)) (fun g => some (some (vi 0), g))) ∧ AS c1 tp n z S C m b ∧ FR c c1 := by
  obtain ⟨c1, a1, a2, a3⟩ := AS_take (l := l) (x := x) (y := y) h (sg := 42) (by omega) (d + 1)
  have a1 : E (d + 3) 175 [vr 48 0, vi 42] (c, l, x, y) = _ := a1
  rw [if_neg (by omega)] at a1 a2
  obtain ⟨c2, b1, b2, b3⟩ := AS_take (l := l) (x := x) (y := y) a2.2 (sg := 47) (by omega) (d + 1)
  have b1 : E (d + 3) 175 [vr 48 0, vi 47] (c1, l, x, y) = _ := b1
  rw [if_neg (by omega)] at b1 b2
  obtain ⟨c3, g1, g2, g3⟩ := AS_take (l := l) (x := x) (y := y) b2.2 (sg := 43) (by omega) (d + 1)
  have g1 : E (d + 3) 175 [vr 48 0, vi 43] (c2, l, x, y) = _ := g1
  rw [if_neg (by omega)] at g1 g2
  obtain ⟨c4, f1, f2, f3⟩ := AS_take (l := l) (x := x) (y := y) g2.2 (sg := 45) (by omega) (d + 1)
  have f1 : E (d + 3) 175 [vr 48 0, vi 45] (c3, l, x, y) = _ := f1
  rw [if_neg (by omega)] at f1 f2
  have q0 : iv 0 = 0 := rfl
  have h272 := e272 (l := l) (x := x) (y := y) f2.2.2.2.1 (AS_b h) (d + 1)
  have e21 : (iv (inB b S) = 21) = (inB b S = 21) := iv_eq (b := 21) (by omega) (by omega)
  have e22 : (iv (inB b S) = 22) = (inB b S = 22) := iv_eq (b := 22) (by omega) (by omega)
  have em : (iv (inB b S) = -1) = (inB b S = -1) := iv_eq (b := -1) (by omega) (by omega)
  refine ⟨c4, ?_, f2.2, ((a3.tr b3).tr g3).tr f3⟩
  rw [q_271_61, a1]
  simp only [am_bi_v]
  rw [if_pos q0, b1]
  simp only [am_bi_v]
  rw [if_pos q0, g1]
  simp only [am_bi_v]
  rw [if_pos q0, f1]
  simp only [am_bi_v]
  rw [if_pos q0, h272]
  simp only [am_bi_v, e21]
  by_cases h21 : inB b S = 21
  · rw [if_pos h21, if_pos (Or.inl h21)]
  rw [if_neg h21, h272]
  simp only [am_bi_v, e22]
  by_cases h22 : inB b S = 22
  · rw [if_pos h22, if_pos (Or.inr h22)]
  rw [if_neg h22, if_neg (show ¬ (inB b S = 21 ∨ inB b S = 22) by omega), h272]
  simp only [am_bi_v, em]
  by_cases hm : inB b S = -1
  · rw [if_pos hm, if_pos hm]
  rw [if_neg hm, if_neg hm, if_pos (AS_0 f2.2), f2.1.2.2.2.2.1]
end
