/-! the reference's ask: from CASE to CASE; the question's word -/
def FU (c c2 : Nat → Nat → Nat → Int32) : Prop := (∀ k, k ≠ 48 → c2 k = c k) ∧ ∀ i s, s ≠ 86 → c2 48 i s = c 48 i s
def LU (l l2 : Nat → Nat → Int64) : Prop := (∀ k, k ≠ 48 → l2 k = l k) ∧ ∀ j, j ≠ 85 → l2 48 j = l 48 j
section
variable {c : Nat → Nat → Nat → Int32} {l : Nat → Nat → Int64} {x y : Nat} {tp : Nat → Nat} {n : Nat} {z : Tz} {S C : List Nat} {m b : Nat} {v : Nat → Int}
theorem FU.ui (v : Int32) : FU c (am_ui c 48 0 86 v) := ⟨fun k h1 => ui_nk _ _ _ _ h1, fun i s a1 => ui_ne _ _ _ _ (by omega)⟩
theorem LU.refl (l : Nat → Nat → Int64) : LU l l := ⟨fun _ _ => rfl, fun _ _ => rfl⟩
theorem LU.ul (w : Int64) : LU l (am_ul l 48 85 w) := ⟨fun k2 h1 => funext fun j2 => ul_ne l 48 85 w (by omega), fun j2 h1 => ul_ne l 48 85 w (by omega)⟩
theorem ul_self (l : Nat → Nat → Int64) (k j : Nat) (w : Int64) : am_ul l k j w k j = w := by
  unfold am_ul
  rw [if_pos ⟨rfl, rfl⟩]
theorem e287_40a {u w : Int} {d : Nat} (hl : l 48 85 = jv u) : ∀ o : Nat, o ≤ 2 → ∃ (c2 : Nat → Nat → Nat → Int32), X (d + 1) 287 40 [some (vr 48 0), some (vi (iv (o : Nat))), some (vl (jv w)), none, none, none] [] (c, l, x, y) = some (none, c2, l, x, y) ∧ c2 48 0 86 = iv 0 ∧ FU c c2 := by
  intro o ho
  have h3 : ¬ iv (o : Nat) = 3 := fun q => by rw [show (3 : Int32) = iv 3 from rfl, iv_eq (by omega) (by omega)] at q; omega
  have h4 : ¬ 3 < iv (o : Nat) := fun q => by rw [show (3 : Int32) = iv 3 from rfl, iv_lt (by omega) (by omega)] at q; omega
  exact ⟨am_ui c 48 0 86 0, by rw [q_287_40, if_neg h3, q_287_49, if_neg h4], ui_self .., FU.ui _⟩
theorem e287 {o i : Nat} (ho : o ≤ 5) (hi : i < 8) (hv : ∀ i, -1000000 ≤ v i ∧ v i ≤ 1000000) (h01 : o ≤ 2 → ∀ i, v i = 0 ∨ v i = 1) (hl : l 48 85 = jv (ansW o i v)) (h86 : c 48 0 86 = iv (if i = 0 then 1 else 0)) (d : Nat) : ∃ (c2 : Nat → Nat → Nat → Int32) (l2 : Nat → Nat → Int64), E (d + 1) 287 [vr 48 0, vi (iv (o : Nat)), vl (jv (v i)), vi (iv (i : Nat))] (c, l, x, y) = some (none, c2, l2, x, y) ∧ l2 48 85 = jv (ansW o (i + 1) v) ∧ c2 48 0 86 = iv 0 ∧ FU c c2 ∧ LU l l2 := by
  have hvi := hv i
  have hto := toW_bd hv i
  have hmo := moW_bd hv i
  have hle := leW_bd hv i
  have hfs := fsW_bd (v := v) i
  have e1 : (lg_cmp (jv (v i)) 1 = 0) = (v i = 1) := cmp_eq (b := 1) (by omega) (by omega)
  have hi64 : (iv (i : Nat)).toInt64 = jv (i : Int) := jv_of (by omega)
  have F86 : FU c (am_ui c 48 0 86 0) := FU.ui _
  have L85 : ∀ w, LU l (am_ul l 48 85 w) := fun w => LU.ul w
  rw [q_287]
  rcases (show o = 0 ∨ o = 1 ∨ o = 2 ∨ o = 3 ∨ o = 4 ∨ o = 5 by omega) with rfl | rfl | rfl | rfl | rfl | rfl
  · -- first
    have hl : l 48 85 = jv (fsW v i) := hl
    have hM1 : (-1 : Int64) = jv (-1) := by rw [show (1 : Int64) = jv 1 from rfl, jv_neg]
    have e2 : (lg_cmp (l 48 85) (jv (-1)) = 0) = (fsW v i = -1) := by rw [hl]; exact cmp_eq (b := -1) (by omega) (by omega)
    have e3 : ansW 0 (i + 1) v = if v i = 1 then (if fsW v i = -1 then (i : Int) else fsW v i) else fsW v i := rfl
    rw [hM1]
    simp only [e1, e2]
    rw [e3, if_pos (show iv ((0 : Nat) : Int) < 3 by decide), hi64]
    by_cases q : v i = 1
    · rw [if_pos q, if_pos q, if_pos (show iv ((0 : Nat) : Int) = 0 from rfl)]
      by_cases q2 : fsW v i = -1
      · rw [if_pos q2, if_pos q2, if_neg (show ¬ iv ((0 : Nat) : Int) = 2 by decide)]
        obtain ⟨c2, a1, a2, a3⟩ := e287_40a (c := c) (l := am_ul l 48 85 (jv (i : Int))) (x := x) (y := y) (u := i) (w := v i) (d := d) (ul_self ..) 0 (by omega)
        exact ⟨c2, _, a1, ul_self .., a2, a3, L85 _⟩
      · rw [if_neg q2, if_neg q2, q_287_20, if_neg (show ¬ iv ((0 : Nat) : Int) = 1 by decide), if_neg (show ¬ iv ((0 : Nat) : Int) = 2 by decide)]
        obtain ⟨c2, a1, a2, a3⟩ := e287_40a (c := c) (x := x) (y := y) (w := v i) (d := d) hl 0 (by omega)
        exact ⟨c2, _, a1, hl, a2, a3, LU.refl l⟩
    · rw [if_neg q, if_neg q, q_287_9, if_pos (show iv ((0 : Nat) : Int) = 0 from rfl), q_287_20, if_neg (show ¬ iv ((0 : Nat) : Int) = 1 by decide), if_neg (show ¬ iv ((0 : Nat) : Int) = 2 by decide)]
      obtain ⟨c2, a1, a2, a3⟩ := e287_40a (c := c) (x := x) (y := y) (w := v i) (d := d) hl 0 (by omega)
      exact ⟨c2, _, a1, hl, a2, a3, LU.refl l⟩
  · -- last
    have hl : l 48 85 = jv (lsW v i) := hl
    have e3 : ansW 1 (i + 1) v = if v i = 1 then (i : Int) else lsW v i := rfl
    simp only [e1]
    rw [e3, if_pos (show iv ((1 : Nat) : Int) < 3 by decide)]
    by_cases q : v i = 1
    · rw [if_pos q, if_pos q, if_neg (show ¬ iv ((1 : Nat) : Int) = 0 by decide), q_287_20, if_pos (show iv ((1 : Nat) : Int) = 1 from rfl), if_neg (show ¬ (1 : Int32) = 0 by decide), if_neg (show ¬ iv ((1 : Nat) : Int) = 2 by decide), hi64]
      obtain ⟨c2, a1, a2, a3⟩ := e287_40a (c := c) (l := am_ul l 48 85 (jv (i : Int))) (x := x) (y := y) (u := i) (w := v i) (d := d) (ul_self ..) 1 (by omega)
      exact ⟨c2, _, a1, ul_self .., a2, a3, L85 _⟩
    · rw [if_neg q, if_neg q, q_287_9, if_neg (show ¬ iv ((1 : Nat) : Int) = 0 by decide), q_287_20, if_pos (show iv ((1 : Nat) : Int) = 1 from rfl), if_pos (show (0 : Int32) = 0 from rfl), if_neg (show ¬ iv ((1 : Nat) : Int) = 2 by decide)]
      obtain ⟨c2, a1, a2, a3⟩ := e287_40a (c := c) (x := x) (y := y) (w := v i) (d := d) hl 1 (by omega)
      exact ⟨c2, _, a1, hl, a2, a3, LU.refl l⟩
  · -- often
    have hl : l 48 85 = jv (ofW v i) := hl
    have e3 : ansW 2 (i + 1) v = if v i = 1 then ofW v i + 1 else ofW v i := rfl
    simp only [e1]
    rw [e3, if_pos (show iv ((2 : Nat) : Int) < 3 by decide)]
    by_cases q : v i = 1
    · have e4 : l 48 85 + 1 = jv (ofW v i + 1) := by
        rw [hl]
        show jv (ofW v i) + jv 1 = _
        rw [jv_add]
      rw [if_pos q, if_pos q, if_neg (show ¬ iv ((2 : Nat) : Int) = 0 by decide), q_287_20, if_neg (show ¬ iv ((2 : Nat) : Int) = 1 by decide), if_pos (show iv ((2 : Nat) : Int) = 2 from rfl), if_neg (show ¬ (1 : Int32) = 0 by decide), e4]
      obtain ⟨c2, a1, a2, a3⟩ := e287_40a (c := c) (l := am_ul l 48 85 (jv (ofW v i + 1))) (x := x) (y := y) (w := v i) (d := d) (ul_self ..) 2 (by omega)
      exact ⟨c2, _, a1, ul_self .., a2, a3, L85 _⟩
    · rw [if_neg q, if_neg q, q_287_9, if_neg (show ¬ iv ((2 : Nat) : Int) = 0 by decide), q_287_20, if_neg (show ¬ iv ((2 : Nat) : Int) = 1 by decide), if_pos (show iv ((2 : Nat) : Int) = 2 from rfl), if_pos (show (0 : Int32) = 0 from rfl)]
      obtain ⟨c2, a1, a2, a3⟩ := e287_40a (c := c) (x := x) (y := y) (w := v i) (d := d) hl 2 (by omega)
      exact ⟨c2, _, a1, hl, a2, a3, LU.refl l⟩
  · -- total
    have hl : l 48 85 = jv (toW v i) := hl
    have e3 : ansW 3 (i + 1) v = toW v i + v i := rfl
    rw [e3, if_neg (show ¬ iv ((3 : Nat) : Int) < 3 by decide), q_287_9, if_neg (show ¬ iv ((3 : Nat) : Int) = 0 by decide), q_287_20, if_neg (show ¬ iv ((3 : Nat) : Int) = 1 by decide), if_neg (show ¬ iv ((3 : Nat) : Int) = 2 by decide), q_287_40, if_pos (show iv ((3 : Nat) : Int) = 3 from rfl), q_287_49, if_neg (show ¬ 3 < iv ((3 : Nat) : Int) by decide), hl, jv_add]
    exact ⟨_, _, rfl, ul_self .., ui_self .., F86, L85 _⟩
  · -- most
    have hl : l 48 85 = jv (moW v i) := hl
    have e3 : ansW 4 (i + 1) v = if i = 0 then v 0 else if moW v i < v i then v i else moW v i := rfl
    rw [e3, if_neg (show ¬ iv ((4 : Nat) : Int) < 3 by decide), q_287_9, if_neg (show ¬ iv ((4 : Nat) : Int) = 0 by decide), q_287_20, if_neg (show ¬ iv ((4 : Nat) : Int) = 1 by decide), if_neg (show ¬ iv ((4 : Nat) : Int) = 2 by decide), q_287_40, if_neg (show ¬ iv ((4 : Nat) : Int) = 3 by decide), q_287_49, if_pos (show 3 < iv ((4 : Nat) : Int) by decide), h86]
    by_cases q : i = 0
    · rw [if_pos q, if_neg (show ¬ iv 1 = 0 by decide)]
      refine ⟨_, _, rfl, ?_, ui_self .., F86, L85 _⟩
      rw [ul_self, if_pos q, q]
    · have e5 : (0 < lg_cmp (jv (v i)) (l 48 85)) = (moW v i < v i) := by rw [hl]; exact cmp_gt (by omega) (by omega)
      rw [if_neg q, if_pos (show iv 0 = 0 from rfl), if_pos (show iv ((4 : Nat) : Int) = 4 from rfl), if_neg q]
      simp only [e5]
      by_cases q2 : moW v i < v i
      · rw [if_pos q2, if_pos q2]
        exact ⟨_, _, rfl, ul_self .., ui_self .., F86, L85 _⟩
      · rw [if_neg q2, if_neg q2]
        exact ⟨_, _, rfl, hl, ui_self .., F86, LU.refl l⟩
  · -- least
    have hl : l 48 85 = jv (leW v i) := hl
    have e3 : ansW 5 (i + 1) v = if i = 0 then v 0 else if v i < leW v i then v i else leW v i := rfl
    rw [e3, if_neg (show ¬ iv ((5 : Nat) : Int) < 3 by decide), q_287_9, if_neg (show ¬ iv ((5 : Nat) : Int) = 0 by decide), q_287_20, if_neg (show ¬ iv ((5 : Nat) : Int) = 1 by decide), if_neg (show ¬ iv ((5 : Nat) : Int) = 2 by decide), q_287_40, if_neg (show ¬ iv ((5 : Nat) : Int) = 3 by decide), q_287_49, if_pos (show 3 < iv ((5 : Nat) : Int) by decide), h86]
    by_cases q : i = 0
    · rw [if_pos q, if_neg (show ¬ iv 1 = 0 by decide)]
      refine ⟨_, _, rfl, ?_, ui_self .., F86, L85 _⟩
      rw [ul_self, if_pos q, q]
    · have e5 : (lg_cmp (jv (v i)) (l 48 85) < 0) = (v i < leW v i) := by rw [hl]; exact cmp_lt (by omega) (by omega)
      rw [if_neg q, if_pos (show iv 0 = 0 from rfl), if_neg (show ¬ iv ((5 : Nat) : Int) = 4 by decide), if_neg q]
      simp only [e5]
      by_cases q2 : v i < leW v i
      · rw [if_pos q2, if_pos q2]
        exact ⟨_, _, rfl, ul_self .., ui_self .., F86, L85 _⟩
      · rw [if_neg q2, if_neg q2]
        exact ⟨_, _, rfl, hl, ui_self .., F86, LU.refl l⟩
/-- the question's first word -/
theorem e259 (h : AS c tp n z S C m b) (d : Nat) : ∃ (c2 : Nat → Nat → Nat → Int32) (o : Nat), E (d + 5) 259 [vr 48 0] (c, l, x, y) = some (some (vi (iv (o : Nat))), c2, l, x, y) ∧ o < 6 ∧ FK c c2 ∧ if ∃ p, lixT tp n 1 z.1 = some p ∧ p < 6 then lixT tp n 1 z.1 = some o ∧ AS c2 tp n (avZ tp n z) S C m b else AB c2 tp n (flZ 1 z.1.1 z) := by
  have q0 : iv 0 = 0 := rfl
  have q1 : ¬ iv 1 = 0 := by decide
  obtain ⟨c1, a1, a2, a3⟩ := AS_tw (l := l) (x := x) (y := y) h (o := 0) (kd := 90) (W := [102, 105, 114, 115, 116]) (by decide) rfl (d + 1)
  rw [q_259, a1]
  simp only [am_bi_v]
  by_cases e0 : lixT tp n 1 z.1 = some 0
  · rw [if_pos e0] at a2
    rw [if_pos e0, if_neg q1, q_259_36, if_neg (by decide)]
    refine ⟨c1, 0, rfl, by omega, FK_FR a3, ?_⟩
    rw [if_pos ⟨0, e0, by omega⟩]
    exact ⟨e0, a2⟩
  rw [if_neg e0] at a2
  obtain ⟨c2, b1, b2, b3⟩ := AS_tw (l := l) (x := x) (y := y) a2.2 (o := 1) (kd := 91) (W := [108, 97, 115, 116]) (by decide) rfl (d + 1)
  rw [if_neg e0, if_pos q0, b1]
  simp only [am_bi_v]
  by_cases e1 : lixT tp n 1 z.1 = some 1
  · rw [if_pos e1] at b2
    rw [if_pos e1, if_neg q1, q_259_36, if_neg (by decide)]
    refine ⟨c2, 1, rfl, by omega, (FK_FR a3).tr (FK_FR b3), ?_⟩
    rw [if_pos ⟨1, e1, by omega⟩]
    exact ⟨e1, b2⟩
  rw [if_neg e1] at b2
  obtain ⟨c3, f1, f2, f3⟩ := AS_tw (l := l) (x := x) (y := y) b2.2 (o := 2) (kd := 92) (W := [111, 102, 116, 101, 110]) (by decide) rfl (d + 1)
  rw [if_neg e1, if_pos q0, f1]
  simp only [am_bi_v]
  by_cases e2 : lixT tp n 1 z.1 = some 2
  · rw [if_pos e2] at f2
    rw [if_pos e2, if_neg q1, q_259_36, if_neg (by decide)]
    refine ⟨c3, 2, rfl, by omega, ((FK_FR a3).tr (FK_FR b3)).tr (FK_FR f3), ?_⟩
    rw [if_pos ⟨2, e2, by omega⟩]
    exact ⟨e2, f2⟩
  rw [if_neg e2] at f2
  obtain ⟨c4, g1, g2, g3⟩ := AS_tw (l := l) (x := x) (y := y) f2.2 (o := 3) (kd := 93) (W := [116, 111, 116, 97, 108]) (by decide) rfl (d + 1)
  rw [if_neg e2, if_pos q0, g1]
  simp only [am_bi_v]
  by_cases e3 : lixT tp n 1 z.1 = some 3
  · rw [if_pos e3] at g2
    rw [if_pos e3, if_neg q1, q_259_36, if_neg (by decide)]
    refine ⟨c4, 3, rfl, by omega, (((FK_FR a3).tr (FK_FR b3)).tr (FK_FR f3)).tr (FK_FR g3), ?_⟩
    rw [if_pos ⟨3, e3, by omega⟩]
    exact ⟨e3, g2⟩
  rw [if_neg e3] at g2
  obtain ⟨c5, i1, i2, i3⟩ := AS_tw (l := l) (x := x) (y := y) g2.2 (o := 4) (kd := 94) (W := [109, 111, 115, 116]) (by decide) rfl (d + 1)
  rw [if_neg e3, if_pos q0, i1]
  simp only [am_bi_v]
  have F5 := (((((FK_FR a3).tr (FK_FR b3)).tr (FK_FR f3)).tr (FK_FR g3)).tr (FK_FR i3))
  by_cases e4 : lixT tp n 1 z.1 = some 4
  · rw [if_pos e4] at i2
    rw [if_pos e4, if_neg q1, q_259_36, if_neg (by decide)]
    refine ⟨c5, 4, rfl, by omega, F5, ?_⟩
    rw [if_pos ⟨4, e4, by omega⟩]
    exact ⟨e4, i2⟩
  rw [if_neg e4] at i2
  obtain ⟨c6, j1, j2, j3⟩ := e165 (l := l) (x := x) (y := y) i2.2.1 (t := 1) (own := 5) (kd := 95) (W := [108, 101, 97, 115, 116]) (by decide) (by decide) rfl d
  rw [if_neg e4, if_pos q0, q_259_36, if_pos (by rfl), j1]
  simp only [am_bv_v]
  refine ⟨c6, 5, rfl, by omega, F5.tr (FK_FR j3), ?_⟩
  unfold tqZ at j2
  rw [if_neg (show ¬ z.2.isSome = true by rw [h.2.1]; decide)] at j2
  by_cases e5 : lixT tp n 1 z.1 = some 5
  · rw [if_pos e5] at j2
    rw [if_pos ⟨5, e5, by omega⟩]
    exact ⟨e5, AS_word i2.2 j3 (lix_sgn e5) j2⟩
  · rw [if_neg e5] at j2
    rw [if_neg (fun q => by
      obtain ⟨p, hp, hp6⟩ := q
      rcases (show p = 0 ∨ p = 1 ∨ p = 2 ∨ p = 3 ∨ p = 4 ∨ p = 5 by omega) with rfl | rfl | rfl | rfl | rfl | rfl
      · exact e0 hp
      · exact e1 hp
      · exact e2 hp
      · exact e3 hp
      · exact e4 hp
      · exact e5 hp)]
    exact ⟨j2, flZ_is _ _ _⟩
end
