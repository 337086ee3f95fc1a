/-! the reference's ask: tests, behind a fact -/
section
variable {c c2 : Nat → Nat → Nat → Int32} {l : Nat → Nat → Int64} {x y : Nat} {tp : Nat → Nat} {n : Nat} {z : Tz} {s : Ts} {S T C O : List Nat} {m b v d : Nat}
theorem StA_at : ∀ (A : List Nat) (v : Nat) (B : List Nat), StA c (A ++ v :: B) → c 109 0 B.length = iv (v : Nat)
  | [], v, B, h => h.1
  | a :: A, v, B, h => StA_at A v B h.2
theorem e278_2 (h80 : c 48 0 80 = iv (S.length : Nat)) (hS : StA c S) (hl : S.length ≤ 1600) (hv : ∀ v ∈ S, v < 100) (d : Nat) : ∀ (k : Nat) (A B : List Nat), A.length = k → S = A ++ B → ¬ 25 ∈ B → X (d + 1) 278 2 [some (vr 48 0), some (vi (iv (B.length : Nat)))] [] (c, l, x, y) = some (some (vi (iv (if 25 ∈ S then 1 else 0))), c, l, x, y) := by
  intro k
  induction k with
  | zero =>
    intro A B hA hAB hB
    have hA0 : A = [] := List.eq_nil_of_length_eq_zero hA
    rw [hA0, List.nil_append] at hAB
    rw [q_278_2, h80, hAB, if_neg (by rw [iv_lt (by rw [← hAB]; omega) (by rw [← hAB]; omega)]; omega), if_neg hB]
    rfl
  | succ k ih =>
    intro A B hA hAB hB
    rcases List.eq_nil_or_concat A with e | ⟨A', v, e⟩
    · rw [e] at hA
      cases hA
    · rw [List.concat_eq_append] at e
      have hA' : A'.length = k := by rw [e, List.length_append, List.length_singleton] at hA; omega
      have hS2 : S = A' ++ v :: B := by rw [hAB, e, List.append_assoc]; rfl
      have hlen : S.length = A'.length + (B.length + 1) := by rw [hS2, List.length_append, List.length_cons]
      have hcell := StA_at A' v B (by rw [← hS2]; exact hS)
      have hv1 := hv v (by rw [hS2]; exact List.mem_append_right _ (List.mem_cons_self ..))
      obtain ⟨k1, k2, k3⟩ := len_lo (S := B) (by omega)
      have e25 : (iv (v : Nat) = 25) = ((v : Int) = 25) := iv_eq (b := 25) (by omega) (by omega)
      rw [q_278_2, h80, if_pos (by rw [iv_lt (by omega) (by omega)]; omega), if_neg k1, k2, hcell, k3]
      by_cases e5 : v = 25
      · rw [if_pos (by rw [e5]; rfl), if_pos (by rw [hS2, e5]; exact List.mem_append_right _ (List.mem_cons_self ..))]
        rfl
      · rw [if_neg (fun q => e5 (by rw [e25] at q; omega))]
        exact ih A' (v :: B) hA' hS2 (fun q => by
          rcases List.mem_cons.mp q with q | q
          · exact e5 q.symm
          · exact hB q)
theorem e278 (g : QS c S C m b) (d : Nat) : E (d + 1) 278 [vr 48 0] (c, l, x, y) = some (some (vi (iv (if 25 ∈ S then 1 else 0))), c, l, x, y) := by
  rw [q_278]
  exact e278_2 (l := l) (x := x) (y := y) g.1.1 g.1.2 (by have := g.2.2.2.2.1; omega) g.2.2.2.2.2.1 d S.length S [] rfl (List.append_nil S).symm (fun q => by cases q)
/-- down to [ -/
theorem e277_16 (hz : z.2 = none) (d : Nat) : ∀ (O C : List Nat) (c : Nat → Nat → Nat → Int32), (∀ v ∈ O, v = 10 ∨ v = 11) → RZ c tp n z → QS c (O ++ 25 :: S) C m b → ∃ c2 : Nat → Nat → Nat → Int32, X (d + 4) 277 16 [some (vr 48 0)] [] (c, l, x, y) = X (d + 4) 277 0 [some (vr 48 0)] [] (c2, l, x, y) ∧ RZ c2 tp n z ∧ QS c2 (dN S).2 (C ++ O ++ (dN S).1) (m + 1 + (dN S).1.length) b ∧ FK c c2 := by
  intro O
  induction O with
  | nil =>
    intro C c hO h g
    rw [List.nil_append] at g
    have h1 := e275 (l := l) (x := x) (y := y) g (a := 25) (by omega) (d + 2)
    have h1 : E (d + 3) 275 [vr 48 0, vi 25] (c, l, x, y) = _ := h1
    have h80 : c 48 0 80 = iv ((S.length + 1 : Nat) : Int) := g.1.1
    have h81 : c 48 0 81 = iv (6 - (m : Int)) := g.2.2.1
    have hl := g.2.2.2.2.1
    rw [List.length_cons] at hl
    obtain ⟨k1, k2, k3⟩ := len_cons_lo (S := S) (by omega)
    have hcl : c 48 0 81 - 1 = iv (6 - ((m + 1 : Nat) : Int)) := by
      rw [h81]
      show iv (6 - (m : Int)) - iv 1 = _
      rw [iv_sub, show 6 - (m : Int) - 1 = 6 - ((m + 1 : Nat) : Int) by omega]
    obtain ⟨c2, a1, a2, a3, a4⟩ := e276 (l := l) (x := x) (y := y) hz d S C (m + 1) _ (RZ_82 (RZ_82 h (j := 80) (by omega) (iv (S.length : Nat))) (j := 81) (by omega) (iv (6 - ((m + 1 : Nat) : Int)))) (QS_cl (QS_pop g))
    refine ⟨c2, ?_, a2, ?_, ((FK.ui _ _ _ (by omega)).tr (FK.ui _ _ _ (by omega))).tr a4⟩
    · rw [q_277_16, h1]
      simp only [am_bi_v]
      rw [if_pos (show (25 :: S).head? = some 25 from rfl), if_neg (show ¬ iv 1 = 0 by decide), hcl, h80, k1, q_276, a1]
      simp only [am_bv_v]
    · rw [List.append_nil]
      exact a3
  | cons v O ih =>
    intro C c hO h g
    rw [List.cons_append] at g
    have hv := hO v (List.mem_cons_self ..)
    have h1 := e275 (l := l) (x := x) (y := y) g (a := 25) (by omega) (d + 2)
    have h1 : E (d + 3) 275 [vr 48 0, vi 25] (c, l, x, y) = _ := h1
    obtain ⟨c1, a1, a2, a3, a4⟩ := e270 (l := l) (x := x) (y := y) g (d + 1)
    obtain ⟨c2, b1, b2, b3, b4⟩ := ih (C ++ [v]) c1 (fun w hw => hO w (List.mem_cons_of_mem _ hw)) (a4 tp n z h) a2
    refine ⟨c2, ?_, b2, ?_, a3.tr b4⟩
    · rw [q_277_16, h1]
      simp only [am_bi_v]
      rw [if_neg (show ¬ (v :: (O ++ 25 :: S)).head? = some 25 from fun q => by have := Option.some.inj q; omega), if_pos (show iv 0 = 0 from rfl), a1]
      simp only [am_bv_v]
      exact b1
    · rw [show C ++ (v :: O) = C ++ [v] ++ O by rw [List.append_assoc]; rfl]
      exact b3
/-- ] -/
theorem h_close (h : AS c tp n z (O ++ 25 :: S) C m 0) (hO : ∀ v ∈ O, v = 10 ∨ v = 11) (hs : sgnT tp n z.1 = 93) (d : Nat) : ∃ c2 : Nat → Nat → Nat → Int32, X (d + 4) 277 0 [some (vr 48 0)] [] (c, l, x, y) = X (d + 4) 277 0 [some (vr 48 0)] [] (c2, l, x, y) ∧ AS c2 tp n (avZ tp n z) (dN S).2 (C ++ O ++ (dN S).1) (m + 1 + (dN S).1.length) 0 ∧ FK c c2 := by
  obtain ⟨c1, a1, a2, a3, a4⟩ := AS_look (l := l) (x := x) (y := y) h (d + 2)
  have hbt := (sgnS_iff (tp := tp) (n := n) (s := z.1) (sg := 93) (by omega)).mp hs
  have h278 := e278 (l := l) (x := x) (y := y) a3.2.2.1 (d + 2)
  rw [if_pos (List.mem_append_right _ (List.mem_cons_self ..))] at h278
  have s2 := AS_sign a2 a3 (sg := 93) (by omega) hs
  obtain ⟨c3, b1, b2, b3, b4⟩ := e277_16 (l := l) (x := x) (y := y) (tp := tp) (n := n) (z := avZ tp n z) h.2.1 d O C _ hO s2.1 s2.2.2.1
  have hd := dN_len S
  have hl := s2.2.2.2.1
  refine ⟨c3, ?_, ⟨b2, h.2.1, b3, ?_, Nat.zero_le _⟩, ((FK_FR a4).tr (FK.ui _ _ _ (by omega))).tr b4⟩
  · rw [q_277_0, if_pos (AS_0 h), a1, hbt]
    simp only [am_bi_v]
    rw [if_pos (by rfl), h278]
    simp only [am_bi_v]
    rw [if_neg (show ¬ iv 1 = 0 by decide)]
    exact b1
  · simp only [List.length_append, List.length_cons] at hl ⊢
    omega
theorem h_38 (h : AS c tp n z S C m b) (hs : ¬ (sgnT tp n z.1 = 93 ∧ 25 ∈ S)) (d : Nat) : ∃ c1 : Nat → Nat → Nat → Int32, X (d + 4) 277 0 [some (vr 48 0)] [] (c, l, x, y) = X (d + 4) 277 38 [some (vr 48 0)] [] (c1, l, x, y) ∧ AS c1 tp n z S C m b ∧ FR c c1 := by
  obtain ⟨c1, a1, a2, a3, a4⟩ := AS_look (l := l) (x := x) (y := y) h (d + 2)
  have hsi := sgnS_iff (tp := tp) (n := n) (s := z.1) (sg := 93) (by omega)
  have hbb := bt_bd (n := n) h.1.2.1.2 z.1.1
  have h278 := e278 (l := l) (x := x) (y := y) a3.2.2.1 (d + 2)
  refine ⟨c1, ?_, a3, a4⟩
  rw [q_277_0, if_pos (AS_0 h), a1]
  simp only [am_bi_v]
  by_cases e : sgnT tp n z.1 = 93
  · rw [if_neg (fun q => hs ⟨e, q⟩)] at h278
    rw [hsi.mp e, if_pos (by rfl), h278]
    simp only [am_bi_v]
    rw [if_pos (show iv 0 = 0 from rfl)]
  · rw [if_neg (show ¬ iv (btT tp n z.1.1) = 93 from fun q => by rw [show (93 : Int32) = iv 93 from rfl, iv_eq (by omega) (by omega)] at q; exact e (hsi.mpr q))]
theorem e277_43 (d : Nat) (hT : ∀ v, T.head? = some v → v ≠ 10) : ∀ (O C : List Nat) (c : Nat → Nat → Nat → Int32), (∀ v ∈ O, v = 10) → QS c (O ++ T) C m b → (O ++ T).length + C.length < 1600 → ∃ c2 : Nat → Nat → Nat → Int32, X (d + 3) 277 43 [some (vr 48 0)] [] (c, l, x, y) = some (some (vi 1), c2, l, x, y) ∧ QS c2 (10 :: T) (C ++ O) m b ∧ FK c c2 ∧ (∀ tp n z, RZ c tp n z → RZ c2 tp n z) := by
  intro O
  induction O with
  | nil =>
    intro C c hO g hl
    rw [List.nil_append] at g hl
    have h3 := e275 (l := l) (x := x) (y := y) g (a := 10) (by omega) (d + 1)
    rw [if_neg (fun q => hT 10 q rfl)] at h3
    have h3 : E (d + 2) 275 [vr 48 0, vi 10] (c, l, x, y) = some (some (vi (iv 0)), c, l, x, y) := h3
    obtain ⟨k1, k2, k3⟩ := len_lo (S := T) (by omega)
    refine ⟨_, ?_, ?_, (FK.ui 109 T.length (iv (10 : Nat)) (by omega)).tr (FK.ui 48 80 (iv ((T.length + 1 : Nat) : Int)) (by omega)), fun tp n z hz => ?_⟩
    · rw [q_277_43, h3]
      simp only [am_bi_v]
      rw [if_pos (show iv 0 = 0 from rfl), g.1.1, if_neg k1, k2, k3]
      rfl
    · rw [List.append_nil]
      exact QS_push g (by omega) hl
    · exact RZ_q hz (fun j hj => by rw [ui_ne _ _ _ _ (by omega), ui_nk _ _ _ _ (by omega)]) (fun k hk => by rw [ui_nk _ _ _ _ (by omega), ui_nk _ _ _ _ (by omega)])
  | cons v O ih =>
    intro C c hO g hl
    rw [List.cons_append] at g hl
    rw [List.length_cons] at hl
    have h3 := e275 (l := l) (x := x) (y := y) g (a := 10) (by omega) (d + 1)
    have h3 : E (d + 2) 275 [vr 48 0, vi 10] (c, l, x, y) = some (some (vi (iv (if (v :: (O ++ T)).head? = some 10 then 1 else 0))), c, l, x, y) := h3
    obtain ⟨c1, a1, a2, a3, a4⟩ := e270 (l := l) (x := x) (y := y) g d
    obtain ⟨c2, b1, b2, b3, b4⟩ := ih (C ++ [v]) c1 (fun u hu => hO u (List.mem_cons_of_mem _ hu)) a2 (by rw [show (C ++ [v]).length = C.length + 1 by rw [List.length_append]; rfl]; omega)
    refine ⟨c2, ?_, ?_, a3.tr b3, fun tp n z hz => b4 tp n z (a4 tp n z hz)⟩
    · rw [q_277_43, h3]
      simp only [am_bi_v]
      rw [if_pos (show (v :: (O ++ T)).head? = some 10 by rw [hO v (List.mem_cons_self ..)]; rfl), if_neg (show ¬ iv 1 = 0 by decide), a1]
      simp only [am_bv_v]
      exact b1
    · rw [show C ++ (v :: O) = C ++ [v] ++ O by rw [List.append_assoc]; rfl]
      exact b2
theorem e277_69 (d : Nat) (hT : ∀ v, T.head? = some v → v ≠ 10 ∧ v ≠ 11) : ∀ (O C : List Nat) (c : Nat → Nat → Nat → Int32), (∀ v ∈ O, v = 10 ∨ v = 11) → QS c (O ++ T) C m b → (O ++ T).length + C.length < 1600 → ∃ c2 : Nat → Nat → Nat → Int32, X (d + 3) 277 69 [some (vr 48 0)] [] (c, l, x, y) = some (some (vi 1), c2, l, x, y) ∧ QS c2 (11 :: T) (C ++ O) m b ∧ FK c c2 ∧ (∀ tp n z, RZ c tp n z → RZ c2 tp n z) := by
  intro O
  induction O with
  | nil =>
    intro C c hO g hl
    rw [List.nil_append] at g hl
    have h3 := e275 (l := l) (x := x) (y := y) g (a := 10) (by omega) (d + 1)
    have h4 := e275 (l := l) (x := x) (y := y) g (a := 11) (by omega) (d + 1)
    rw [if_neg (fun q => (hT 10 q).1 rfl)] at h3
    rw [if_neg (fun q => (hT 11 q).2 rfl)] at h4
    have h3 : E (d + 2) 275 [vr 48 0, vi 10] (c, l, x, y) = some (some (vi (iv 0)), c, l, x, y) := h3
    have h4 : E (d + 2) 275 [vr 48 0, vi 11] (c, l, x, y) = some (some (vi (iv 0)), c, l, x, y) := h4
    obtain ⟨k1, k2, k3⟩ := len_lo (S := T) (by omega)
    refine ⟨_, ?_, ?_, (FK.ui 109 T.length (iv (11 : Nat)) (by omega)).tr (FK.ui 48 80 (iv ((T.length + 1 : Nat) : Int)) (by omega)), fun tp n z hz => ?_⟩
    · rw [q_277_69, h3]
      simp only [am_bi_v]
      rw [if_pos (show iv 0 = 0 from rfl), h4]
      simp only [am_bi_v]
      rw [if_pos (show iv 0 = 0 from rfl), g.1.1, if_neg k1, k2, k3]
      rfl
    · rw [List.append_nil]
      exact QS_push g (by omega) hl
    · exact RZ_q hz (fun j hj => by rw [ui_ne _ _ _ _ (by omega), ui_nk _ _ _ _ (by omega)]) (fun k hk => by rw [ui_nk _ _ _ _ (by omega), ui_nk _ _ _ _ (by omega)])
  | cons v O ih =>
    intro C c hO g hl
    rw [List.cons_append] at g hl
    rw [List.length_cons] at hl
    have h3 := e275 (l := l) (x := x) (y := y) g (a := 10) (by omega) (d + 1)
    have h4 := e275 (l := l) (x := x) (y := y) g (a := 11) (by omega) (d + 1)
    have h3 : E (d + 2) 275 [vr 48 0, vi 10] (c, l, x, y) = some (some (vi (iv (if (v :: (O ++ T)).head? = some 10 then 1 else 0))), c, l, x, y) := h3
    have h4 : E (d + 2) 275 [vr 48 0, vi 11] (c, l, x, y) = some (some (vi (iv (if (v :: (O ++ T)).head? = some 11 then 1 else 0))), c, l, x, y) := h4
    obtain ⟨c1, a1, a2, a3, a4⟩ := e270 (l := l) (x := x) (y := y) g d
    obtain ⟨c2, b1, b2, b3, b4⟩ := ih (C ++ [v]) c1 (fun u hu => hO u (List.mem_cons_of_mem _ hu)) a2 (by rw [show (C ++ [v]).length = C.length + 1 by rw [List.length_append]; rfl]; omega)
    refine ⟨c2, ?_, ?_, a3.tr b3, fun tp n z hz => b4 tp n z (a4 tp n z hz)⟩
    · rw [q_277_69, h3]
      simp only [am_bi_v]
      rcases hO v (List.mem_cons_self ..) with rfl | rfl
      · rw [if_pos (show (10 :: (O ++ T)).head? = some 10 from rfl), if_neg (show ¬ iv 1 = 0 by decide), a1]
        simp only [am_bv_v]
        exact b1
      · rw [if_neg (show ¬ (11 :: (O ++ T)).head? = some 10 from fun q => by cases q), if_pos (show iv 0 = 0 from rfl), h4]
        simp only [am_bi_v]
        rw [if_pos (show (11 :: (O ++ T)).head? = some 11 from rfl), if_neg (show ¬ iv 1 = 0 by decide), a1]
        simp only [am_bv_v]
        exact b1
    · rw [show C ++ (v :: O) = C ++ [v] ++ O by rw [List.append_assoc]; rfl]
      exact b2
/-- a word of the question, if it is here -/
theorem AS_tw (h : AS c tp n z S C m b) {o kd : Nat} {W : List Nat} (hw : (kd, W) ∈ chs) (hW : (WL 1)[o]? = some W) (d : Nat) : ∃ c2 : Nat → Nat → Nat → Int32, E (d + 3) 153 [vr 48 0, vr kd 0] (c, l, x, y) = some (some (vi (iv (if lixT tp n 1 z.1 = some o then 1 else 0))), c2, l, x, y) ∧ (if lixT tp n 1 z.1 = some o then AS c2 tp n (avZ tp n z) S C m b else RL c2 tp n z.1 ∧ AS c2 tp n z S C m b) ∧ FR c c2 := by
  have hz0 : RZ c tp n (z.1, none) := by
    have := h.1
    rw [tz_eta z h.2.1] at this
    exact this
  have hl := her_lix (tp := tp) (n := n) (s := z.1) (t := 1) (o := o) (W := W) (by decide) hW
  obtain ⟨c2, g1, g2, g3⟩ := e153 (l := l) (x := x) (y := y) hz0 hw d
  refine ⟨c2, ?_, ?_, g3⟩
  · by_cases e : lixT tp n 1 z.1 = some o
    · rw [if_pos e, g1, if_pos (hl.mpr e)]
    · rw [if_neg e, g1, if_neg (fun q => e (hl.mp q))]
  · by_cases e : lixT tp n 1 z.1 = some o
    · rw [if_pos (hl.mpr e)] at g2
      rw [if_pos e]
      exact AS_word h g3 (lix_sgn e) (by unfold avZ; rw [h.2.1]; exact g2)
    · rw [if_neg (fun q => e (hl.mp q))] at g2
      rw [if_neg e]
      exact ⟨g2, by rw [tz_eta z h.2.1]; exact RL_RZ g2, h.2.1, QS_FR g3 h.2.2.1, h.2.2.2.1, h.2.2.2.2⟩
/-- and -/
theorem h_and (h : AS c tp n z (O ++ T) C m 0) (hO : ∀ v ∈ O, v = 10) (hT : ∀ v, T.head? = some v → v ≠ 10) (hs : lixT tp n 1 z.1 = some 7) (d : Nat) : ∃ c2 : Nat → Nat → Nat → Int32, X (d + 4) 277 38 [some (vr 48 0)] [] (c, l, x, y) = some (some (vi 1), c2, l, x, y) ∧ AS c2 tp n (avZ tp n z) (10 :: T) (C ++ O) m 0 ∧ FK c c2 := by
  obtain ⟨c1, a1, a2, a3⟩ := AS_tw (l := l) (x := x) (y := y) h (o := 7) (kd := 97) (W := [97, 110, 100]) (by decide) rfl d
  rw [if_pos hs] at a1 a2
  have h97 := lix_sgn hs
  have hlt := avZ_lt (tp := tp) (n := n) (z := z) (by omega)
  have hl := h.2.2.2.1
  have hlen := AS_len a2
  obtain ⟨c2, b1, b2, b3, b4⟩ := e277_43 (l := l) (x := x) (y := y) (d + 1) hT O C c1 hO a2.2.2.1 (by omega)
  refine ⟨c2, ?_, ⟨b4 tp n _ a2.1, h.2.1, b2, ?_, Nat.zero_le _⟩, (FK_FR a3).tr b3⟩
  · rw [q_277_38, a1]
    simp only [am_bi_v]
    rw [if_neg (show ¬ iv 1 = 0 by decide)]
    exact b1
  · simp only [List.length_append, List.length_cons] at hl ⊢
    omega
/-- or -/
theorem h_or (h : AS c tp n z (O ++ T) C m 0) (hO : ∀ v ∈ O, v = 10 ∨ v = 11) (hT : ∀ v, T.head? = some v → v ≠ 10 ∧ v ≠ 11) (hs : lixT tp n 1 z.1 = some 6) (d : Nat) : ∃ c2 : Nat → Nat → Nat → Int32, X (d + 4) 277 38 [some (vr 48 0)] [] (c, l, x, y) = some (some (vi 1), c2, l, x, y) ∧ AS c2 tp n (avZ tp n z) (11 :: T) (C ++ O) m 0 ∧ FK c c2 := by
  obtain ⟨c0, f1, f2, f3⟩ := AS_tw (l := l) (x := x) (y := y) h (o := 7) (kd := 97) (W := [97, 110, 100]) (by decide) rfl d
  rw [if_neg (fun q => by rw [hs] at q; cases q)] at f1 f2
  obtain ⟨c1, a1, a2, a3⟩ := AS_tw (l := l) (x := x) (y := y) f2.2 (o := 6) (kd := 98) (W := [111, 114]) (by decide) rfl d
  rw [if_pos hs] at a1 a2
  have h97 := lix_sgn hs
  have hlt := avZ_lt (tp := tp) (n := n) (z := z) (by omega)
  have hl := h.2.2.2.1
  have hlen := AS_len a2
  obtain ⟨c2, b1, b2, b3, b4⟩ := e277_69 (l := l) (x := x) (y := y) (d + 1) hT O C c1 hO a2.2.2.1 (by omega)
  refine ⟨c2, ?_, ⟨b4 tp n _ a2.1, h.2.1, b2, ?_, Nat.zero_le _⟩, ((FK_FR f3).tr (FK_FR a3)).tr b3⟩
  · rw [q_277_38, f1]
    simp only [am_bi_v]
    rw [if_pos (show iv 0 = 0 from rfl), a1]
    simp only [am_bi_v]
    rw [if_neg (show ¬ iv 1 = 0 by decide)]
    exact b1
  · simp only [List.length_append, List.length_cons] at hl ⊢
    omega
/-- neither -/
theorem h_no (h : AS c tp n z S C m 0) (hs : lixT tp n 1 z.1 ≠ some 7 ∧ lixT tp n 1 z.1 ≠ some 6) (d : Nat) : ∃ c2 : Nat → Nat → Nat → Int32, X (d + 4) 277 38 [some (vr 48 0)] [] (c, l, x, y) = some (some (vi 0), c2, l, x, y) ∧ FK c c2 ∧ if 25 ∈ S then AB c2 tp n (flZ 1 z.1.1 z) else AS c2 tp n z S C m 0 := by
  obtain ⟨c0, f1, f2, f3⟩ := AS_tw (l := l) (x := x) (y := y) h (o := 7) (kd := 97) (W := [97, 110, 100]) (by decide) rfl d
  rw [if_neg hs.1] at f1 f2
  obtain ⟨c1, a1, a2, a3⟩ := AS_tw (l := l) (x := x) (y := y) f2.2 (o := 6) (kd := 98) (W := [111, 114]) (by decide) rfl d
  rw [if_neg hs.2] at a1 a2
  have h278 := e278 (l := l) (x := x) (y := y) a2.2.2.2.1 (d + 2)
  have hgo : X (d + 4) 277 38 [some (vr 48 0)] [] (c, l, x, y) = (if 25 ∈ S then am_bv (E (d + 3) 152 [vr 48 0, vi 1, vi (iv (z.1.1 : Nat))] (c1, l, x, y)) (fun g7 => some (some (vi 0), g7)) else some (some (vi 0), c1, l, x, y)) := by
    rw [q_277_38, f1]
    simp only [am_bi_v]
    rw [if_pos (show iv 0 = 0 from rfl), a1]
    simp only [am_bi_v]
    rw [if_pos (show iv 0 = 0 from rfl), if_pos (AS_0 a2.2), h278]
    simp only [am_bi_v]
    by_cases e : 25 ∈ S
    · rw [if_pos e, if_pos e, if_neg (show ¬ iv 1 = 0 by decide), a2.1.2.2.2.2.1]
    · rw [if_neg e, if_neg e, if_pos (show iv 0 = 0 from rfl)]
  rw [hgo]
  by_cases e : 25 ∈ S
  · obtain ⟨c2, k1, k2, k3⟩ := e152 (l := l) (x := x) (y := y) a2.2.1 (k := 1) (p := z.1.1) (by omega) (AS_len h) (d + 2)
    have k1 : E (d + 3) 152 [vr 48 0, vi 1, vi (iv (z.1.1 : Nat))] (c1, l, x, y) = _ := k1
    refine ⟨c2, ?_, ((FK_FR f3).tr (FK_FR a3)).tr (FK_FR k3), ?_⟩
    · rw [if_pos e, k1]
      rfl
    · rw [if_pos e]
      exact ⟨k2, flZ_is _ _ _⟩
  · refine ⟨c1, by rw [if_neg e], (FK_FR f3).tr (FK_FR a3), ?_⟩
    rw [if_neg e]
    exact a2.2
end
