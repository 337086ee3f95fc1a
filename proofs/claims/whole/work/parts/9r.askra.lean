/-! the reference's ask: ahead of a part -/
section
variable {c : Nat → Nat → Nat → Int32} {l : Nat → Nat → Int64} {x y : Nat} {tp : Nat → Nat} {n : Nat} {z : Tz} {s : Ts} {S T C O : List Nat} {m b v : Nat}
theorem whN_of {o : Nat} (h : 10 ≤ o ∧ o ≤ 15) : whN (some o) = (o : Int) - 10 := by
  unfold whN
  dsimp only
  rw [if_pos h]
theorem whN_no {o : Nat} (h : ¬ (10 ≤ o ∧ o ≤ 15)) : whN (some o) = -1 := by
  unfold whN
  dsimp only
  rw [if_neg h]
theorem bt_word (h : sgnT tp n s = 97) {a : Int} (ha : a < 97) : btT tp n s.1 ≠ a := by
  have := (sgn97_iff (tp := tp) (n := n) (s := s)).mp h
  omega
theorem AS_word {c1 : Nat → Nat → Nat → Int32} (h : AS c tp n z S C m b) (hF : FR c c1) (h97 : sgnT tp n z.1 = 97) (h1 : RZ c1 tp n (avZ tp n z)) : AS c1 tp n (avZ tp n z) S C m b := by
  have h6 := avZ_lt (tp := tp) (n := n) (z := z) (by omega)
  exact ⟨h1, h.2.1, QS_FR hF h.2.2.1, by have := h.2.2.2.1; omega, h.2.2.2.2⟩
/-- at, has -/
theorem p_of_f {o : Nat} (h : AS c tp n z S C 0 b) (ho : o = 14 ∨ o = 15) (hs : lixT tp n 1 z.1 = some o) (d : Nat) : ∃ c2 : Nat → Nat → Nat → Int32, X (d + 6) 265 2 [some (vr 48 0), some (vi 1), none, none, none, none] [] (c, l, x, y) = some (none, c2, l, x, y) ∧ AF c2 tp n (flZ 4 z.1.1 z) ∧ FK c c2 := by
  obtain ⟨c1, a1, a2, a3, a4⟩ := AS_look (l := l) (x := x) (y := y) h (d + 4)
  have h266 := e266 (l := l) (x := x) (y := y) a2 (a := 4) (b := 6) (by omega) (by omega) (d + 1)
  have h266 : E (d + 5) 266 [vr 48 0, vi 4, vi 6] (c1, l, x, y) = _ := h266
  have h97 := lix_sgn hs
  have hbb := bt_bd (n := n) h.1.2.1.2 z.1.1
  have hne : ¬ iv (btT tp n z.1.1) = 40 := fun q => bt_word h97 (a := 40) (by omega) (by rw [show (40 : Int32) = iv 40 from rfl, iv_eq (by omega) (by omega)] at q; exact q)
  have t1 := tk_154 (l := l) (x := x) (y := y) a2 (o := 16) (kd := 100) (W := [109, 105, 110]) (by decide) rfl (d + 3)
  have t2 := tk_154 (l := l) (x := x) (y := y) a2 (o := 17) (kd := 101) (W := [109, 97, 120]) (by decide) rfl (d + 3)
  rw [hs, if_neg (fun q => by have := Option.some.inj q; omega)] at t1 t2
  rw [hs, whN_of (by omega), if_pos (by omega)] at h266
  have hn := RZ_le h.1 h.2.1
  have hn2 := h.1.2.1.1
  obtain ⟨c2, k1, k2, k3⟩ := e261_0 (l := l) (x := x) (y := y) a3.1 h.2.1 a3.2.2.1 (p := z.1.1) (by omega) (((60 : Int32) + iv ((o : Int) - 10)) - 4) (d + 3)
  have hF := AS_AF a3 k2 (flZ_is _ _ _) (k3.2 0 78 (by omega) (by omega) (by omega) (by omega) (by omega))
  obtain ⟨c3, b1, b2, b3⟩ := e268 (l := l) (x := x) (y := y) k2 (k := o - 10) (by omega) d
  have htq : tqZ tp n 1 (10 + (o - 10)) (flZ 4 z.1.1 z) = flZ 4 z.1.1 z := by
    unfold tqZ
    rw [if_pos (flZ_is _ _ _)]
  rw [htq] at b2
  have hF2 : AF c3 tp n (flZ 4 z.1.1 z) := by
    refine ⟨b2, flZ_is _ _ _, ?_⟩
    obtain ⟨-, -, k, u1, u2⟩ := hF
    exact ⟨k, by rw [b3.2 0 78 (by omega) (by omega) (by omega) (by omega) (by omega)]; exact u1, u2⟩
  have hcast : ((o - 10 : Nat) : Int) = (o : Int) - 10 := by omega
  rw [hcast] at b1
  refine ⟨c3, ?_, hF2, ((FK_FR a4).tr (FK_FR k3)).tr (FK_FR b3)⟩
  rw [q_265_2, if_neg (show ¬ (1 : Int32) = 0 by decide), if_pos (AS_0 h), a1]
  simp only [am_bi_v]
  rw [h266]
  simp only [am_bi_v]
  rw [if_neg hne, t1]
  simp only [am_bi_v]
  rw [if_pos (show iv 0 = 0 from rfl), t2]
  simp only [am_bi_v]
  rw [if_pos (show iv 0 = 0 from rfl), if_neg (show ¬ iv ((o : Int) - 10) = -1 from fun q => by rw [show (-1 : Int32) = iv (-1) from rfl, iv_eq (by omega) (by omega)] at q; omega), a2.2.2.2.2.1, k1]
  simp only [am_bv_v]
  rw [b1]
  simp only [am_bv_v]
  exact p_bad hF2 d
theorem p_of_s {o k : Nat} (hk : k < 6) (h : AS c tp n z S C (k + 1) b) (ho : o = 14 ∨ o = 15) (hs : lixT tp n 1 z.1 = some o) (d : Nat) : ∃ c2 : Nat → Nat → Nat → Int32, X (d + 6) 265 2 [some (vr 48 0), some (vi 1), none, none, none, none] [] (c, l, x, y) = X (d + 6) 265 2 [some (vr 48 0), some (vi 1), none, none, none, none] [] (c2, l, x, y) ∧ AS c2 tp n (avZ tp n z) ((46 + o) :: S) C k b ∧ FK c c2 := by
  obtain ⟨c1, a1, a2, a3, a4⟩ := AS_look (l := l) (x := x) (y := y) h (d + 4)
  have h266 := e266 (l := l) (x := x) (y := y) a2 (a := 4) (b := 6) (by omega) (by omega) (d + 1)
  have h266 : E (d + 5) 266 [vr 48 0, vi 4, vi 6] (c1, l, x, y) = _ := h266
  have h97 := lix_sgn hs
  have hbb := bt_bd (n := n) h.1.2.1.2 z.1.1
  have hne : ¬ iv (btT tp n z.1.1) = 40 := fun q => bt_word h97 (a := 40) (by omega) (by rw [show (40 : Int32) = iv 40 from rfl, iv_eq (by omega) (by omega)] at q; exact q)
  have t1 := tk_154 (l := l) (x := x) (y := y) a2 (o := 16) (kd := 100) (W := [109, 105, 110]) (by decide) rfl (d + 3)
  have t2 := tk_154 (l := l) (x := x) (y := y) a2 (o := 17) (kd := 101) (W := [109, 97, 120]) (by decide) rfl (d + 3)
  rw [hs, if_neg (fun q => by have := Option.some.inj q; omega)] at t1 t2
  rw [hs, whN_of (by omega), if_pos (by omega)] at h266
  have hlt := sgn_lt (tp := tp) (n := n) (s := z.1) (by omega)
  have hn2 := h.1.2.1.1
  have hl := h.2.2.2.1
  obtain ⟨c2, k1, k2, k3, k4, k5⟩ := e261_s (l := l) (x := x) (y := y) (v := 46 + o) hk a3.1 h.2.1 a3.2.2.1 (by omega) (by omega) (c1 48 0 2) (d + 4)
  have hv : ((60 : Int32) + iv ((o : Int) - 10)) - 4 = iv ((46 + o : Nat) : Int) := by
    show (iv 60 + iv ((o : Int) - 10)) - iv 4 = _
    rw [iv_add, iv_sub, show (60 : Int) + ((o : Int) - 10) - 4 = ((46 + o : Nat) : Int) by omega]
  obtain ⟨c3, b1, b2, b3⟩ := e268 (l := l) (x := x) (y := y) (k5 tp n _ a3.1) (k := o - 10) (by omega) d
  have htq : tqZ tp n 1 (10 + (o - 10)) z = avZ tp n z := by
    unfold tqZ
    rw [if_neg (show ¬ z.2.isSome = true by rw [h.2.1]; decide), if_pos (by rw [hs]; congr 1; omega)]
  rw [htq] at b2
  have h6 := avZ_lt (tp := tp) (n := n) (z := z) (by omega)
  have hcast : ((o - 10 : Nat) : Int) = (o : Int) - 10 := by omega
  rw [hcast] at b1
  refine ⟨c3, ?_, ⟨b2, h.2.1, QS_FR b3 k2, ?_, ?_⟩, ((FK_FR a4).tr k3).tr (FK_FR b3)⟩
  · rw [q_265_2, if_neg (show ¬ (1 : Int32) = 0 by decide), if_pos (AS_0 h), a1]
    simp only [am_bi_v]
    rw [h266]
    simp only [am_bi_v]
    rw [if_neg hne, t1]
    simp only [am_bi_v]
    rw [if_pos (show iv 0 = 0 from rfl), t2]
    simp only [am_bi_v]
    rw [if_pos (show iv 0 = 0 from rfl), if_neg (show ¬ iv ((o : Int) - 10) = -1 from fun q => by rw [show (-1 : Int32) = iv (-1) from rfl, iv_eq (by omega) (by omega)] at q; omega), hv, k1]
    simp only [am_bv_v]
    rw [b1]
    simp only [am_bv_v]
  · rw [List.length_cons]
    omega
  · rw [List.length_cons]
    have := h.2.2.2.2
    omega
/-- min, max: the word -/
theorem p_min_w {o : Nat} (h : AS c tp n z S C m b) (ho : o = 16 ∨ o = 17) (hs : lixT tp n 1 z.1 = some o) (d : Nat) : ∃ c2 : Nat → Nat → Nat → Int32, X (d + 6) 265 2 [some (vr 48 0), some (vi 1), none, none, none, none] [] (c, l, x, y) = X (d + 6) 265 51 [some (vr 48 0), some (vi 1), none, none, some (vi (iv (17 - (o : Int)))), none] [] (c2, l, x, y) ∧ AS c2 tp n (avZ tp n z) S C m b ∧ FR c c2 := by
  obtain ⟨c1, a1, a2, a3, a4⟩ := AS_look (l := l) (x := x) (y := y) h (d + 4)
  have h266 := e266 (l := l) (x := x) (y := y) a2 (a := 4) (b := 6) (by omega) (by omega) (d + 1)
  have h266 : E (d + 5) 266 [vr 48 0, vi 4, vi 6] (c1, l, x, y) = _ := h266
  have h97 := lix_sgn hs
  have hbb := bt_bd (n := n) h.1.2.1.2 z.1.1
  have hne : ¬ iv (btT tp n z.1.1) = 40 := fun q => bt_word h97 (a := 40) (by omega) (by rw [show (40 : Int32) = iv 40 from rfl, iv_eq (by omega) (by omega)] at q; exact q)
  have t1 := tk_154 (l := l) (x := x) (y := y) a2 (o := 16) (kd := 100) (W := [109, 105, 110]) (by decide) rfl (d + 3)
  have t2 := tk_154 (l := l) (x := x) (y := y) a2 (o := 17) (kd := 101) (W := [109, 97, 120]) (by decide) rfl (d + 3)
  have q0 : iv 0 = 0 := rfl
  have q1 : ¬ iv 1 = 0 := by decide
  have hgo : X (d + 6) 265 2 [some (vr 48 0), some (vi 1), none, none, none, none] [] (c, l, x, y) = X (d + 6) 265 40 [some (vr 48 0), some (vi 1), none, none, none, none] [] (c1, l, x, y) := by
    rw [q_265_2, if_neg (show ¬ (1 : Int32) = 0 by decide), if_pos (AS_0 h), a1]
    simp only [am_bi_v]
    rw [h266]
    simp only [am_bi_v]
    rw [if_neg hne, t1]
    simp only [am_bi_v]
    rcases ho with rfl | rfl
    · rw [if_pos hs, if_neg q1]
    · rw [if_neg (show ¬ lixT tp n 1 z.1 = some 16 from fun q => by rw [hs] at q; cases q), if_pos q0, t2]
      simp only [am_bi_v]
      rw [if_pos hs, if_neg q1]
  have hl := her_lix (tp := tp) (n := n) (s := z.1) (t := 1) (o := 16) (W := [109, 105, 110]) (by decide) rfl
  obtain ⟨c2, b1, b2, b3⟩ := e153 (l := l) (x := x) (y := y) (RL_RZ a2) (kd := 100) (W := [109, 105, 110]) (by decide) (d + 2)
  rw [hgo, q_265_40, b1]
  simp only [am_bi_v]
  rcases ho with rfl | rfl
  · have e := hl.mpr hs
    rw [e, if_pos rfl] at b2
    rw [e, if_pos rfl, if_neg q1]
    refine ⟨c2, rfl, AS_word a3 b3 h97 ?_, a4.tr b3⟩
    unfold avZ
    rw [h.2.1]
    exact b2
  · have e : ¬ herB tp n z.1 [109, 105, 110] = true := fun q => by rw [hl.mp q] at hs; cases hs
    rw [if_neg e] at b2
    rw [if_neg e, if_pos q0]
    obtain ⟨c3, g1, g2, g3⟩ := e165 (l := l) (x := x) (y := y) (RL_RZ b2) (t := 1) (own := 17) (kd := 101) (W := [109, 97, 120]) (by decide) (by decide) rfl (d + 1)
    rw [g1]
    simp only [am_bv_v]
    have htq : tqZ tp n 1 17 (z.1, none) = (nxtT tp n z.1, none) := by
      unfold tqZ
      rw [if_neg (show ¬ (none : Option (Nat × Nat)).isSome = true by decide), if_pos hs]
      rfl
    rw [htq] at g2
    refine ⟨c3, rfl, AS_word a3 (b3.tr g3) h97 ?_, (a4.tr b3).tr g3⟩
    unfold avZ
    rw [h.2.1]
    exact g2
/-- min, max: the bracket -/
theorem p_min_b {r : Int} (hr : 0 ≤ r ∧ r ≤ 1) (h : AS c tp n z S C m b) (hs : sgnT tp n z.1 ≠ 40) (d : Nat) : ∃ c2 : Nat → Nat → Nat → Int32, X (d + 6) 265 51 [some (vr 48 0), some (vi 1), none, none, some (vi (iv r)), none] [] (c, l, x, y) = some (none, c2, l, x, y) ∧ AF c2 tp n (flZ 1 z.1.1 z) ∧ FK c c2 := by
  obtain ⟨c1, a1, a2, a3, a4⟩ := AS_look (l := l) (x := x) (y := y) h (d + 4)
  have hsi := sgnS_iff (tp := tp) (n := n) (s := z.1) (sg := 40) (by omega)
  have hbb := bt_bd (n := n) h.1.2.1.2 z.1.1
  have hne : ¬ iv (btT tp n z.1.1) = 40 := fun q => hs (hsi.mpr (by rw [show (40 : Int32) = iv 40 from rfl, iv_eq (by omega) (by omega)] at q; exact q))
  obtain ⟨c2, b1, b2, b3⟩ := e174 (l := l) (x := x) (y := y) a3.1 (sg := 40) (by omega) (d + 2)
  have b1 : E (d + 5) 174 [vr 48 0, vi 40] (c1, l, x, y) = _ := b1
  have htk : tkZ tp n 40 z = flZ 1 z.1.1 z := by
    unfold tkZ
    rw [if_neg (fun q => hs q.2)]
  rw [htk] at b2
  have hF := AS_AF a3 b2 (flZ_is _ _ _) (b3.2 0 78 (by omega) (by omega) (by omega) (by omega) (by omega))
  refine ⟨c2, ?_, hF, (FK_FR a4).tr (FK_FR b3)⟩
  rw [q_265_51, a1]
  simp only [am_bi_v]
  rw [if_neg hne, b1]
  simp only [am_bv_v]
  exact p_bad hF d
theorem p_min_f {r : Int} (hr : 0 ≤ r ∧ r ≤ 1) (h : AS c tp n z S C 0 b) (hs : sgnT tp n z.1 = 40) (d : Nat) : ∃ c2 : Nat → Nat → Nat → Int32, X (d + 6) 265 51 [some (vr 48 0), some (vi 1), none, none, some (vi (iv r)), none] [] (c, l, x, y) = some (none, c2, l, x, y) ∧ AF c2 tp n (flZ 4 z.1.1 z) ∧ FK c c2 := by
  obtain ⟨c1, a1, a2, a3, a4⟩ := AS_look (l := l) (x := x) (y := y) h (d + 4)
  have hbt := (sgnS_iff (tp := tp) (n := n) (s := z.1) (sg := 40) (by omega)).mp hs
  have hn := RZ_le h.1 h.2.1
  have hn2 := h.1.2.1.1
  have hat := a2.2.2.2.2.1
  have hnm : ¬ c1 48 0 2 = -1 := by
    rw [hat]
    intro q
    rw [show (-1 : Int32) = iv (-1) from rfl, iv_eq (by omega) (by omega)] at q
    omega
  have key : ∀ v : Int32, ∃ c2 : Nat → Nat → Nat → Int32, am_bv (E (d + 5) 261 [vr 48 0, vi v, vi (c1 48 0 2)] (c1, l, x, y)) (fun g4 => am_bv (E (d + 5) 174 [vr 48 0, vi 40] g4) (fun g5 => X (d + 6) 265 2 [some (vr 48 0), some (vi 1), none, none, none, none] [] g5)) = some (none, c2, l, x, y) ∧ AF c2 tp n (flZ 4 z.1.1 z) ∧ FK c c2 := by
    intro v
    obtain ⟨c2, k1, k2, k3⟩ := e261_0 (l := l) (x := x) (y := y) a3.1 h.2.1 a3.2.2.1 (p := z.1.1) (by omega) v (d + 3)
    have hF := AS_AF a3 k2 (flZ_is _ _ _) (k3.2 0 78 (by omega) (by omega) (by omega) (by omega) (by omega))
    obtain ⟨c3, b1, b2, b3⟩ := e174 (l := l) (x := x) (y := y) k2 (sg := 40) (by omega) (d + 2)
    have b1 : E (d + 5) 174 [vr 48 0, vi 40] (c2, l, x, y) = _ := b1
    rw [tkZ_f (flZ_is _ _ _)] at b2
    have hF2 : AF c3 tp n (flZ 4 z.1.1 z) := by
      refine ⟨b2, flZ_is _ _ _, ?_⟩
      obtain ⟨-, -, k, u1, u2⟩ := hF
      exact ⟨k, by rw [b3.2 0 78 (by omega) (by omega) (by omega) (by omega) (by omega)]; exact u1, u2⟩
    refine ⟨c3, ?_, hF2, ((FK_FR a4).tr (FK_FR k3)).tr (FK_FR b3)⟩
    rw [hat, k1]
    simp only [am_bv_v]
    rw [b1]
    simp only [am_bv_v]
    exact p_bad hF2 d
  rw [q_265_51, a1, hbt]
  simp only [am_bi_v]
  rw [if_pos (by rfl), if_neg hnm]
  by_cases e : iv r = 0
  · rw [if_pos e]
    exact key 22
  · rw [if_neg e]
    exact key 21
theorem p_min_s {r : Int} {k : Nat} (hr : 0 ≤ r ∧ r ≤ 1) (hk : k < 6) (h : AS c tp n z S C (k + 1) b) (hs : sgnT tp n z.1 = 40) (d : Nat) : ∃ c2 : Nat → Nat → Nat → Int32, X (d + 6) 265 51 [some (vr 48 0), some (vi 1), none, none, some (vi (iv r)), none] [] (c, l, x, y) = X (d + 6) 265 2 [some (vr 48 0), some (vi 1), none, none, none, none] [] (c2, l, x, y) ∧ AS c2 tp n (avZ tp n z) ((if r = 0 then 22 else 21) :: S) C k b ∧ FK c c2 := by
  obtain ⟨c1, a1, a2, a3, a4⟩ := AS_look (l := l) (x := x) (y := y) h (d + 4)
  have hbt := (sgnS_iff (tp := tp) (n := n) (s := z.1) (sg := 40) (by omega)).mp hs
  have hlt := sgn_lt (tp := tp) (n := n) (s := z.1) (by omega)
  have hn2 := h.1.2.1.1
  have hl := h.2.2.2.1
  have hat := a2.2.2.2.2.1
  have h6 := avZ_lt (tp := tp) (n := n) (z := z) (by omega)
  have hnm : ¬ c1 48 0 2 = -1 := by
    rw [hat]
    intro q
    rw [show (-1 : Int32) = iv (-1) from rfl, iv_eq (by omega) (by omega)] at q
    omega
  have key : ∀ v : Nat, v < 100 → ∃ c2 : Nat → Nat → Nat → Int32, am_bv (E (d + 5) 261 [vr 48 0, vi (iv (v : Nat)), vi (c1 48 0 2)] (c1, l, x, y)) (fun g4 => am_bv (E (d + 5) 174 [vr 48 0, vi 40] g4) (fun g5 => X (d + 6) 265 2 [some (vr 48 0), some (vi 1), none, none, none, none] [] g5)) = X (d + 6) 265 2 [some (vr 48 0), some (vi 1), none, none, none, none] [] (c2, l, x, y) ∧ AS c2 tp n (avZ tp n z) (v :: S) C k b ∧ FK c c2 := by
    intro v hv
    obtain ⟨c2, k1, k2, k3, k4, k5⟩ := e261_s (l := l) (x := x) (y := y) (v := v) hk a3.1 h.2.1 a3.2.2.1 hv (by omega) (c1 48 0 2) (d + 4)
    obtain ⟨c3, b1, b2, b3⟩ := e174 (l := l) (x := x) (y := y) (k5 tp n _ a3.1) (sg := 40) (by omega) (d + 2)
    have b1 : E (d + 5) 174 [vr 48 0, vi 40] (c2, l, x, y) = _ := b1
    have htk : tkZ tp n 40 z = avZ tp n z := by
      unfold tkZ
      rw [if_pos ⟨h.2.1, hs⟩]
    rw [htk] at b2
    refine ⟨c3, ?_, ⟨b2, h.2.1, QS_FR b3 k2, ?_, ?_⟩, ((FK_FR a4).tr k3).tr (FK_FR b3)⟩
    · rw [k1]
      simp only [am_bv_v]
      rw [b1]
      simp only [am_bv_v]
    · rw [List.length_cons]
      omega
    · rw [List.length_cons]
      have := h.2.2.2.2
      omega
  rw [q_265_51, a1, hbt]
  simp only [am_bi_v]
  rw [if_pos (by rfl), if_neg hnm]
  have e0 : (iv r = 0) = (r = 0) := iv_eq (b := 0) (by omega) (by omega)
  by_cases e : r = 0
  · rw [if_pos (e0.mpr e), if_pos e]
    exact key 22 (by omega)
  · rw [if_neg (fun q => e (e0.mp q)), if_neg e]
    exact key 21 (by omega)
/-- a part by itself -/
theorem p_last (h : AS c tp n z S C m b) (hs : sgnT tp n z.1 ≠ 40) (hw : ∀ o, lixT tp n 1 z.1 = some o → ¬ (14 ≤ o ∧ o ≤ 17)) (d : Nat) : ∃ c1 : Nat → Nat → Nat → Int32, X (d + 6) 265 2 [some (vr 48 0), some (vi 1), none, none, none, none] [] (c, l, x, y) = X (d + 6) 265 94 [some (vr 48 0), none, none, none, none, none] [] (c1, l, x, y) ∧ RL c1 tp n z.1 ∧ AS c1 tp n z S C m b ∧ FR c c1 := by
  obtain ⟨c1, a1, a2, a3, a4⟩ := AS_look (l := l) (x := x) (y := y) h (d + 4)
  have h266 := e266 (l := l) (x := x) (y := y) a2 (a := 4) (b := 6) (by omega) (by omega) (d + 1)
  have h266 : E (d + 5) 266 [vr 48 0, vi 4, vi 6] (c1, l, x, y) = _ := h266
  have hsi := sgnS_iff (tp := tp) (n := n) (s := z.1) (sg := 40) (by omega)
  have hbb := bt_bd (n := n) h.1.2.1.2 z.1.1
  have hne : ¬ iv (btT tp n z.1.1) = 40 := fun q => hs (hsi.mpr (by rw [show (40 : Int32) = iv 40 from rfl, iv_eq (by omega) (by omega)] at q; exact q))
  have t1 := tk_154 (l := l) (x := x) (y := y) a2 (o := 16) (kd := 100) (W := [109, 105, 110]) (by decide) rfl (d + 3)
  have t2 := tk_154 (l := l) (x := x) (y := y) a2 (o := 17) (kd := 101) (W := [109, 97, 120]) (by decide) rfl (d + 3)
  rw [if_neg (fun q => hw 16 q (by omega))] at t1
  rw [if_neg (fun q => hw 17 q (by omega))] at t2
  have hwh : ¬ ((4 : Nat) : Int) ≤ whN (lixT tp n 1 z.1) := by
    cases ho : lixT tp n 1 z.1 with
    | none => show ¬ ((4 : Nat) : Int) ≤ -1; omega
    | some o =>
      have := hw o ho
      unfold whN
      dsimp only
      split <;> omega
  rw [if_neg (fun q => hwh q.1)] at h266
  have q0 : iv 0 = 0 := rfl
  refine ⟨c1, ?_, a2, a3, a4⟩
  rw [q_265_2, if_neg (show ¬ (1 : Int32) = 0 by decide), if_pos (AS_0 h), a1]
  simp only [am_bi_v]
  rw [h266]
  simp only [am_bi_v]
  rw [if_neg hne, t1]
  simp only [am_bi_v]
  rw [if_pos q0, t2]
  simp only [am_bi_v]
  rw [if_pos q0, if_pos (show iv (-1) = -1 from rfl), q_265_2, if_pos (show (0 : Int32) = 0 from rfl)]
/-- a code is told, what waits ends -/
theorem p_tell (h : AS c tp n z S C m b) (hl : S.length + C.length + 1 ≤ z.1.1) {v : Nat} (hv : v < 20000) (d : Nat) : ∃ c2 : Nat → Nat → Nat → Int32, am_bv (E (d + 5) 263 [vr 48 0, vi (iv (v : Nat))] (c, l, x, y)) (fun g => am_bv (E (d + 5) 269 [vr 48 0] g) (fun g2 => some (none, g2))) = some (none, c2, l, x, y) ∧ AS c2 tp n z (d60 b S).2 (C ++ [v] ++ (d60 b S).1) (m + (d60 b S).1.length) b ∧ FK c c2 := by
  have hn := RZ_le h.1 h.2.1
  have hn2 := h.1.2.1.1
  have h263 := e263 (c := c) (l := l) (x := x) (y := y) (k := C.length) (by omega) h.2.2.1.2.1.1 (iv (v : Nat)) (d + 4)
  have p2 := QS_tell h.2.2.1 hv (by omega)
  have pz2 : RZ (am_ui (am_ui c 108 0 C.length (iv (v : Nat))) 48 0 78 (iv ((C.length + 1 : Nat) : Int))) tp n z := RZ_q h.1 (fun j hj => by rw [ui_ne _ _ _ _ (by omega), ui_nk _ _ _ _ (by omega)]) (fun k hk => by rw [ui_nk _ _ _ _ (by omega), ui_nk _ _ _ _ (by omega)])
  obtain ⟨c4, k1, k2, k3, k4⟩ := e269 (l := l) (x := x) (y := y) (AS_b h) (d + 2) S (C ++ [v]) m _ _ pz2 h.2.1 p2
  have hd := d60_len b S
  have hdb := d60_b b S h.2.2.2.2
  rw [h263]
  simp only [am_bv_v]
  rw [q_269, k1]
  refine ⟨c4, rfl, ⟨k2, h.2.1, k3, ?_, hdb⟩, ((FK.ui _ _ _ (by omega)).tr (FK.ui _ _ _ (by omega))).tr k4⟩
  rw [List.length_append, List.length_append, List.length_singleton]
  omega
/-- number, words, ruling, fair -/
theorem p_simple {o : Nat} (h : AS c tp n z S C m b) (ho : 10 ≤ o ∧ o ≤ 13) (hs : lixT tp n 1 z.1 = some o) (d : Nat) : ∃ c2 : Nat → Nat → Nat → Int32, X (d + 6) 265 2 [some (vr 48 0), some (vi 1), none, none, none, none] [] (c, l, x, y) = some (none, c2, l, x, y) ∧ AS c2 tp n (avZ tp n z) (d60 b S).2 (C ++ [30 + o] ++ (d60 b S).1) (m + (d60 b S).1.length) b ∧ FK c c2 := by
  have h97 := lix_sgn hs
  obtain ⟨c1, a1, a2, a3, a4⟩ := p_last (l := l) (x := x) (y := y) h (by omega) (fun p hp => by rw [hs] at hp; have := Option.some.inj hp; omega) d
  have h266 := e266 (l := l) (x := x) (y := y) a2 (a := 0) (b := 4) (by omega) (by omega) (d + 1)
  have h266 : E (d + 5) 266 [vr 48 0, vi 0, vi 4] (c1, l, x, y) = _ := h266
  rw [hs, whN_of (by omega), if_pos (by omega)] at h266
  have hnm : ¬ iv ((o : Int) - 10) = -1 := fun q => by rw [show (-1 : Int32) = iv (-1) from rfl, iv_eq (by omega) (by omega)] at q; omega
  obtain ⟨c2, b1, b2, b3⟩ := e268 (l := l) (x := x) (y := y) a3.1 (k := o - 10) (by omega) d
  have htq : tqZ tp n 1 (10 + (o - 10)) z = avZ tp n z := by
    unfold tqZ
    rw [if_neg (show ¬ z.2.isSome = true by rw [h.2.1]; decide), if_pos (by rw [hs]; congr 1; omega)]
  rw [htq] at b2
  have hcast : ((o - 10 : Nat) : Int) = (o : Int) - 10 := by omega
  rw [hcast] at b1
  have h6 := avZ_lt (tp := tp) (n := n) (z := z) (by omega)
  have hl := h.2.2.2.1
  obtain ⟨c3, g1, g2, g3⟩ := p_tell (l := l) (x := x) (y := y) (AS_word a3 b3 h97 b2) (by omega) (v := 30 + o) (by omega) d
  have hv : (40 : Int32) + iv ((o : Int) - 10) = iv ((30 + o : Nat) : Int) := by
    show iv 40 + iv ((o : Int) - 10) = _
    rw [iv_add, show (40 : Int) + ((o : Int) - 10) = ((30 + o : Nat) : Int) by omega]
  refine ⟨c3, ?_, g2, ((FK_FR a4).tr (FK_FR b3)).tr g3⟩
  rw [a1, q_265_94, if_pos (AS_0 a3), h266]
  simp only [am_bi_v]
  rw [if_neg hnm, b1]
  simp only [am_bv_v]
  rw [if_neg hnm, hv]
  exact g1
/-- a number, or nothing that a part may begin with -/
theorem p_num (h : AS c tp n z S C m b) (hs : sgnT tp n z.1 ≠ 40) (hw : ∀ o, lixT tp n 1 z.1 = some o → ¬ (10 ≤ o ∧ o ≤ 17)) (d : Nat) : ∃ c2 : Nat → Nat → Nat → Int32, X (d + 6) 265 2 [some (vr 48 0), some (vi 1), none, none, none, none] [] (c, l, x, y) = some (none, c2, l, x, y) ∧ FK c c2 ∧ match (tnZ tp n 9999 z).1 with
    | some a => AS c2 tp n (tnZ tp n 9999 z).2 (d60 b S).2 (C ++ [1000 + a] ++ (d60 b S).1) (m + (d60 b S).1.length) b
    | none => AF c2 tp n (tnZ tp n 9999 z).2 := by
  obtain ⟨c1, a1, a2, a3, a4⟩ := p_last (l := l) (x := x) (y := y) h hs (fun p hp q => hw p hp (by omega)) d
  have h266 := e266 (l := l) (x := x) (y := y) a2 (a := 0) (b := 4) (by omega) (by omega) (d + 1)
  have h266 : E (d + 5) 266 [vr 48 0, vi 0, vi 4] (c1, l, x, y) = _ := h266
  have hwh : ¬ (((0 : Nat) : Int) ≤ whN (lixT tp n 1 z.1)) := by
    cases ho : lixT tp n 1 z.1 with
    | none => show ¬ ((0 : Nat) : Int) ≤ -1; omega
    | some o =>
      have := hw o ho
      unfold whN
      dsimp only
      split <;> omega
  rw [if_neg (fun q => hwh q.1)] at h266
  obtain ⟨c2, v, b1, b2, b3, b4⟩ := e169 (l := l) (x := x) (y := y) a3.1 (most := 9999) (by omega) (d + 1)
  have b1 : E (d + 5) 169 [vr 48 0, vi 0, vi 9999] (c1, l, x, y) = _ := b1
  have hgo : X (d + 6) 265 2 [some (vr 48 0), some (vi 1), none, none, none, none] [] (c, l, x, y) = am_bv (E (d + 5) 263 [vr 48 0, vi (1000 + v)] (c2, l, x, y)) (fun g => am_bv (E (d + 5) 269 [vr 48 0] g) (fun g2 => some (none, g2))) := by
    rw [a1, q_265_94, if_pos (AS_0 a3), h266]
    simp only [am_bi_v]
    rw [if_pos (show iv (-1) = -1 from rfl), if_pos (show iv (-1) = -1 from rfl), b1]
    simp only [am_bi_v]
  rw [hgo]
  have hl := h.2.2.2.1
  cases ho : (tnZ tp n 9999 z).1 with
  | some a =>
    dsimp only
    have hv := b4 a ho
    have hz : sgnT tp n z.1 = 48 ∧ (tnZ tp n 9999 z).2 = avZ tp n z ∧ a ≤ 9999 := by
      unfold tnZ at ho ⊢
      by_cases w1 : z.2.isSome = true
      · rw [if_pos w1] at ho; cases ho
      rw [if_neg w1] at ho ⊢
      by_cases w2 : sgnT tp n z.1 ≠ 48
      · rw [if_pos w2] at ho; cases ho
      rw [if_neg w2] at ho ⊢
      by_cases w3 : 4 < lenT tp n z.1.1
      · rw [if_pos w3] at ho; cases ho
      rw [if_neg w3] at ho ⊢
      by_cases w4 : 9999 < valT tp n z.1.1
      · rw [if_pos w4] at ho; cases ho
      rw [if_neg w4] at ho ⊢
      have := Option.some.inj ho
      refine ⟨Classical.byContradiction w2, rfl, by omega⟩
    obtain ⟨h48, hav, ha⟩ := hz
    rw [hav] at b3 ⊢
    have h6 := avZ_lt (tp := tp) (n := n) (z := z) (by omega)
    have hv2 : (1000 : Int32) + v = iv ((1000 + a : Nat) : Int) := by
      rw [hv]
      show iv 1000 + iv (a : Int) = _
      rw [iv_add, show (1000 : Int) + (a : Int) = ((1000 + a : Nat) : Int) by omega]
    have hA : AS c2 tp n (avZ tp n z) S C m b := ⟨b3, h.2.1, QS_FR b2 a3.2.2.1, by omega, h.2.2.2.2⟩
    obtain ⟨c3, g1, g2, g3⟩ := p_tell (l := l) (x := x) (y := y) hA (by omega) (v := 1000 + a) (by omega) d
    rw [hv2]
    exact ⟨c3, g1, ((FK_FR a4).tr (FK_FR b2)).tr g3, g2⟩
  | none =>
    dsimp only
    have hf : (tnZ tp n 9999 z).2.2.isSome = true := by
      unfold tnZ at ho ⊢
      by_cases w1 : z.2.isSome = true
      · rw [if_pos w1]; exact w1
      rw [if_neg w1] at ho ⊢
      by_cases w2 : sgnT tp n z.1 ≠ 48
      · rw [if_pos w2]; rfl
      rw [if_neg w2] at ho ⊢
      by_cases w3 : 4 < lenT tp n z.1.1
      · rw [if_pos w3]; rfl
      rw [if_neg w3] at ho ⊢
      by_cases w4 : 9999 < valT tp n z.1.1
      · rw [if_pos w4]; rfl
      rw [if_neg w4] at ho
      cases ho
    have hl5 := h.2.2.1.2.2.2.2.1
    have h78 : c2 48 0 78 = iv (C.length : Nat) := by
      rw [b2.2 0 78 (by omega) (by omega) (by omega) (by omega) (by omega)]
      exact a3.2.2.1.2.1.1
    have h263 := e263 (c := c2) (l := l) (x := x) (y := y) (k := C.length) (by omega) h78 (1000 + v) (d + 4)
    have pz2 : RZ (am_ui (am_ui c2 108 0 C.length (1000 + v)) 48 0 78 (iv ((C.length + 1 : Nat) : Int))) tp n (tnZ tp n 9999 z).2 := RZ_q b3 (fun j hj => by rw [ui_ne _ _ _ _ (by omega), ui_nk _ _ _ _ (by omega)]) (fun k hk => by rw [ui_nk _ _ _ _ (by omega), ui_nk _ _ _ _ (by omega)])
    have hF : AF (am_ui (am_ui c2 108 0 C.length (1000 + v)) 48 0 78 (iv ((C.length + 1 : Nat) : Int))) tp n (tnZ tp n 9999 z).2 := ⟨pz2, hf, C.length + 1, ui_self _ _ _ _, by omega⟩
    refine ⟨_, ?_, ((((FK_FR a4).tr (FK_FR b2)).tr (FK.ui 108 C.length (1000 + v) (by omega))).tr (FK.ui 48 78 (iv ((C.length + 1 : Nat) : Int)) (by omega))), hF⟩
    rw [h263]
    simp only [am_bv_v]
    rw [q_269, q_269_0, if_neg (AF_bad hF)]
    simp only [am_bv_v]
end
