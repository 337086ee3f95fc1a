/-! the reference's ask: behind a part, ended -/
section
variable {c : Nat → Nat → Nat → Int32} {l : Nat → Nat → Int64} {x y : Nat} {tp : Nat → Nat} {n : Nat} {z : Tz} {s : Ts} {S T C O : List Nat} {m b v : Nat}
theorem QS_top (g : QS c (v :: S) C m b) {w : Nat} (hw : w < 100) : QS (am_ui c 109 0 S.length (iv (w : Nat))) (w :: S) C m b := by
  obtain ⟨g1, g2, g3, g4, g5, g6, g7⟩ := g
  refine ⟨⟨?_, ui_self _ _ _ _, ?_⟩, ⟨?_, RowAt_fr g2.2 (ui_nk _ _ _ _ (by omega))⟩, ?_, ?_, g5, ?_, g7⟩
  · rw [ui_nk _ _ _ _ (by omega)]; exact g1.1
  · exact StA_fr S g1.2.2 (fun j hj => ui_ne _ _ _ _ (by omega))
  · rw [ui_nk _ _ _ _ (by omega)]; exact g2.1
  · rw [ui_nk _ _ _ _ (by omega)]; exact g3
  · rw [ui_nk _ _ _ _ (by omega)]; exact g4
  · intro u hu
    rcases List.mem_cons.mp hu with q | q
    · rw [q]; exact hw
    · exact g6 u (List.mem_cons_of_mem _ q)
theorem AS_AF {c2 : Nat → Nat → Nat → Int32} (h : AS c tp n z S C m b) {z2 : Tz} (h1 : RZ c2 tp n z2) (h2 : z2.2.isSome = true) (h3 : c2 48 0 78 = c 48 0 78) : AF c2 tp n z2 := by
  refine ⟨h1, h2, C.length, ?_, ?_⟩
  · rw [h3]; exact h.2.2.1.2.1.1
  · have := h.2.2.1.2.2.2.2.1
    omega
theorem AF_bad (h : AF c tp n z) : ¬ c 48 0 5 = 0 := by
  intro q
  have q : c 48 0 5 = iv 0 := q
  rw [RZ_flt h.1] at q
  have := h.2.1
  rw [q] at this
  cases this
theorem flZ_is (k p : Nat) (z : Tz) : (flZ k p z).2.isSome = true := rfl
/-- , -/
theorem g_comma {br : Nat} (h : AS c tp n z (O ++ br :: S) C m b) (hO : ∀ v ∈ O, v < 20) (hbr : br = 21 ∨ br = 22) (hb : b ≤ S.length) (d : Nat) : ∃ c2 : Nat → Nat → Nat → Int32, FK c c2 ∧ if sgnT tp n z.1 = 44 then X (d + 4) 271 169 [some (vr 48 0), none] [] (c, l, x, y) = some (some (vi 1), c2, l, x, y) ∧ AS c2 tp n (avZ tp n z) ((br + 2) :: S) (C ++ O) m b else X (d + 4) 271 169 [some (vr 48 0), none] [] (c, l, x, y) = some (some (vi 0), c2, l, x, y) ∧ AF c2 tp n (flZ 1 z.1.1 z) := by
  obtain ⟨c1, a1, a2, a3⟩ := e174 (l := l) (x := x) (y := y) h.1 (sg := 44) (by omega) d
  have a1 : E (d + 3) 174 [vr 48 0, vi 44] (c, l, x, y) = _ := a1
  have hl := h.2.2.2.1
  have hl5 := h.2.2.1.2.2.2.2.1
  rw [List.length_append, List.length_cons] at hl hl5
  rw [q_271_169, a1]
  simp only [am_bv_v]
  unfold tkZ at a2
  by_cases e : sgnT tp n z.1 = 44
  · rw [if_pos ⟨h.2.1, e⟩] at a2
    have h0 : c1 48 0 5 = 0 := (RZ_flt a2).mpr h.2.1
    obtain ⟨c2, b1, b2, b3, b4⟩ := e274 (l := l) (x := x) (y := y) (AS_b h) d (O ++ br :: S) C c1 (QS_FR a3 h.2.2.1)
    rw [drB_br O S hO (by omega) hb] at b2
    dsimp only at b2
    have h80 : c2 48 0 80 = iv ((S.length + 1 : Nat) : Int) := b2.1.1
    have h109 : c2 109 0 S.length = iv (br : Nat) := b2.1.2.1
    obtain ⟨k1, k2, k3⟩ := len_cons_lo (S := S) (by omega)
    have h2 : iv (br : Nat) + 2 = iv ((br + 2 : Nat) : Int) := by
      show iv (br : Nat) + iv 2 = _
      rw [iv_add]
      rfl
    have h6 := avZ_lt (tp := tp) (n := n) (z := z) (by omega)
    refine ⟨_, ((FK_FR a3).tr b3).tr (FK.ui 109 S.length (iv ((br + 2 : Nat) : Int)) (by omega)), ?_⟩
    rw [if_pos e]
    refine ⟨?_, ?_, h.2.1, QS_top b2 (by omega), ?_, ?_⟩
    · rw [if_pos h0, q_274, b1]
      simp only [am_bv_v]
      rw [h80, k1, if_neg k2, if_neg k2, k3, h109, h2]
    · exact RZ_q (b4 tp n _ a2) (fun j hj => by rw [ui_nk _ _ _ _ (by omega)]) (fun k hk => by rw [ui_nk _ _ _ _ (by omega)])
    · rw [List.length_cons, List.length_append]
      omega
    · rw [List.length_cons]
      omega
  · rw [if_neg (fun q => e q.2)] at a2
    have hF := AS_AF h a2 (flZ_is _ _ _) (a3.2 0 78 (by omega) (by omega) (by omega) (by omega) (by omega))
    refine ⟨c1, FK_FR a3, ?_⟩
    rw [if_neg e, if_neg (AF_bad hF)]
    exact ⟨rfl, hF⟩
/-- a fault here -/
theorem g_err (h : AS c tp n z S C m b) (d : Nat) : ∃ c2 : Nat → Nat → Nat → Int32, am_bv (E (d + 3) 152 [vr 48 0, vi 1, vi (iv (z.1.1 : Nat))] (c, l, x, y)) (fun g => some (some (vi 0), g)) = some (some (vi 0), c2, l, x, y) ∧ AF c2 tp n (flZ 1 z.1.1 z) ∧ FK c c2 := by
  have hn := RZ_le h.1 h.2.1
  have hn2 := h.1.2.1.1
  obtain ⟨c2, k1, k2, k3⟩ := e152 (l := l) (x := x) (y := y) h.1 (k := 1) (p := z.1.1) (by omega) (by omega) (d + 2)
  have k1 : E (d + 3) 152 [vr 48 0, vi 1, vi (iv (z.1.1 : Nat))] (c, l, x, y) = _ := k1
  refine ⟨c2, ?_, AS_AF h k2 (flZ_is _ _ _) (k3.2 0 78 (by omega) (by omega) (by omega) (by omega) (by omega)), FK_FR k3⟩
  rw [k1]
  rfl
theorem RL_at (h : RZ c tp n (s, none)) (h2 : c 48 0 2 = iv (s.1 : Nat)) : RL c tp n s := by
  have hle : s.1 ≤ n := RZ_le h rfl
  obtain ⟨h1, h3, h4, h5, q, e, h6, h7, h8, h9, h10, h11⟩ := h
  have hq : q = s.1 := by
    have h2 : c 48 0 2 = iv ((s.1 : Nat) : Int) := h2
    rw [h6, iv_eq (by omega) (by omega)] at h2
    omega
  subst hq
  exact ⟨h1, h3, h4, h5, h6, e, h7, h8, h9, h10, h11⟩
theorem p_bad (h : AF c tp n z) (d : Nat) : X (d + 6) 265 2 [some (vr 48 0), some (vi 1), none, none, none, none] [] (c, l, x, y) = some (none, c, l, x, y) := by
  rw [q_265_2, if_neg (show ¬ (1 : Int32) = 0 by decide), if_neg (AF_bad h), q_265_94, if_neg (AF_bad h)]
theorem AF_ui (h : AF c tp n z) (v : Int32) : AF (am_ui c 48 0 2 v) tp n z := by
  obtain ⟨⟨h1, h2, h3, h4⟩, h5, k, h6, h7⟩ := h
  refine ⟨⟨?_, h2, CH_fr h3 (fun k hk => ui_nk _ _ _ _ (by omega)), ?_⟩, h5, k, ?_, h7⟩
  · exact ⟨by rw [ui_ne _ _ _ _ (by omega)]; exact h1.1, fun i hi => by rw [ui_nk _ _ _ _ (by omega)]; exact h1.2 i hi⟩
  · cases hz : z.2 with
    | none => rw [hz] at h5; cases h5
    | some f =>
      rw [hz] at h4
      exact ⟨⟨by rw [ui_ne _ _ _ _ (by omega)]; exact h4.1.1, by rw [ui_ne _ _ _ _ (by omega)]; exact h4.1.2⟩, h4.2⟩
  · rw [ui_ne _ _ _ _ (by omega)]; exact h6
/-- ( -/
theorem p_paren_f (h : AS c tp n z S C 0 b) (hs : sgnT tp n z.1 = 40) (d : Nat) : ∃ c2 : Nat → Nat → Nat → Int32, X (d + 6) 265 2 [some (vr 48 0), some (vi 1), none, none, none, none] [] (c, l, x, y) = some (none, c2, l, x, y) ∧ AF c2 tp n (flZ 4 z.1.1 z) ∧ FK c c2 := by
  obtain ⟨c1, a1, a2, a3, a4⟩ := AS_look (l := l) (x := x) (y := y) h (d + 4)
  have h266 := e266 (l := l) (x := x) (y := y) a2 (a := 4) (b := 6) (by omega) (by omega) (d + 1)
  have h266 : E (d + 5) 266 [vr 48 0, vi 4, vi 6] (c1, l, x, y) = _ := h266
  have hbt := (sgnS_iff (tp := tp) (n := n) (s := z.1) (sg := 40) (by omega)).mp hs
  have hn := RZ_le h.1 h.2.1
  have hn2 := h.1.2.1.1
  obtain ⟨c2, k1, k2, k3⟩ := e261_0 (l := l) (x := x) (y := y) a3.1 h.2.1 a3.2.2.1 (p := z.1.1) (by omega) 20 (d + 3)
  have hF := AS_AF a3 k2 (flZ_is _ _ _) (k3.2 0 78 (by omega) (by omega) (by omega) (by omega) (by omega))
  have hF2 := AF_ui hF (c2 48 0 2 + 1)
  refine ⟨_, ?_, hF2, ((FK_FR a4).tr (FK_FR k3)).tr (FK.ui _ _ _ (by omega))⟩
  rw [q_265_2, if_neg (show ¬ (1 : Int32) = 0 by decide), if_pos (AS_0 h), a1, hbt]
  simp only [am_bi_v]
  rw [h266]
  simp only [am_bi_v]
  rw [if_pos (by rfl), a2.2.2.2.2.1, k1]
  simp only [am_bv_v]
  exact p_bad hF2 d
theorem p_paren_s {k : Nat} (hk : k < 6) (h : AS c tp n z S C (k + 1) b) (hs : sgnT tp n z.1 = 40) (d : Nat) : ∃ c2 : Nat → Nat → Nat → Int32, X (d + 6) 265 2 [some (vr 48 0), some (vi 1), none, none, none, none] [] (c, l, x, y) = X (d + 6) 265 2 [some (vr 48 0), some (vi 1), none, none, none, none] [] (c2, l, x, y) ∧ AS c2 tp n (avZ tp n z) (20 :: S) C k b ∧ FK c c2 := by
  obtain ⟨c1, a1, a2, a3, a4⟩ := AS_look (l := l) (x := x) (y := y) h (d + 4)
  have h266 := e266 (l := l) (x := x) (y := y) a2 (a := 4) (b := 6) (by omega) (by omega) (d + 1)
  have h266 : E (d + 5) 266 [vr 48 0, vi 4, vi 6] (c1, l, x, y) = _ := h266
  have hbt := (sgnS_iff (tp := tp) (n := n) (s := z.1) (sg := 40) (by omega)).mp hs
  have hlt := sgn_lt (tp := tp) (n := n) (s := z.1) (by omega)
  have hn2 := h.1.2.1.1
  have hl := h.2.2.2.1
  obtain ⟨c2, k1, k2, k3, k4, k5⟩ := e261_s (l := l) (x := x) (y := y) (v := 20) hk a3.1 h.2.1 a3.2.2.1 (by omega) (by omega) (c1 48 0 2) (d + 4)
  have k1 : E (d + 5) 261 [vr 48 0, vi 20, vi (c1 48 0 2)] (c1, l, x, y) = _ := k1
  have r2 := k5 tp n _ a3.1
  have hRL : RL c2 tp n z.1 := by
    rw [tz_eta z h.2.1] at r2
    exact RL_at r2 (by rw [k4]; exact a2.2.2.2.2.1)
  have hA : AS c2 tp n z (20 :: S) C k b → AS (am_ui c2 48 0 2 (c2 48 0 2 + 1)) tp n (avZ tp n z) (20 :: S) C k b := fun q => AS_sign hRL q (sg := 40) (by omega) hs
  have h6 := avZ_lt (tp := tp) (n := n) (z := z) (by omega)
  refine ⟨_, ?_, ?_, ((FK_FR a4).tr k3).tr (FK.ui 48 2 (c2 48 0 2 + 1) (by omega))⟩
  · rw [q_265_2, if_neg (show ¬ (1 : Int32) = 0 by decide), if_pos (AS_0 h), a1, hbt]
    simp only [am_bi_v]
    rw [h266]
    simp only [am_bi_v]
    rw [if_pos (by rfl), k1]
    simp only [am_bv_v]
  · refine ⟨?_, h.2.1, QS_FR (FR.ui _ _ (by omega)) k2, ?_, ?_⟩
    · have := RL_sign hRL (sg := 40) (by omega) hs
      unfold avZ
      rw [h.2.1]
      exact this
    · rw [List.length_cons]
      omega
    · rw [List.length_cons]
      have := h.2.2.2.2
      omega
end
