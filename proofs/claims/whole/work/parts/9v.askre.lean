/-! the reference's ask: tests, machine -/
def dN : List Nat → List Nat × List Nat
  | [] => ([], [])
  | v :: S => if v = 12 then (v :: (dN S).1, (dN S).2) else ([], v :: S)
noncomputable def tF (d : Nat) (l : Nat → Nat → Int64) (x y : Nat) (c : Nat → Nat → Nat → Int32) : Option mr := X (d + 9) 260 55 [some (vr 48 0), none, none] [] (c, l, x, y)
noncomputable def tA (d : Nat) (l : Nat → Nat → Int64) (x y : Nat) (c : Nat → Nat → Nat → Int32) : Option mr := X (d + 9) 260 2 [some (vr 48 0), some (vi 1), none] [] (c, l, x, y)
noncomputable def tG (d : Nat) (l : Nat → Nat → Int64) (x y : Nat) (c : Nat → Nat → Nat → Int32) : Option mr := am_bi (X (d + 8) 277 0 [some (vr 48 0)] [] (c, l, x, y)) (fun r9 g8 => if r9 = 0 then X (d + 9) 260 2 [some (vr 48 0), some (vi 0), none] [] g8 else X (d + 9) 260 2 [some (vr 48 0), some (vi 1), none] [] g8)
section
variable {c c2 : Nat → Nat → Nat → Int32} {l : Nat → Nat → Int64} {x y : Nat} {tp : Nat → Nat} {n : Nat} {z : Tz} {s : Ts} {S T C O : List Nat} {m b v d : Nat}
theorem dN_app : ∀ S : List Nat, (dN S).1 ++ (dN S).2 = S
  | [] => rfl
  | v :: S => by
    unfold dN
    split
    · show v :: ((dN S).1 ++ (dN S).2) = v :: S
      rw [dN_app S]
    · rfl
theorem dN_len (S : List Nat) : (dN S).1.length + (dN S).2.length = S.length := by
  rw [← List.length_append, dN_app]
theorem dN_no : ∀ {S : List Nat}, (∀ v, S.head? = some v → v ≠ 12) → dN S = ([], S)
  | [], _ => rfl
  | v :: S, h => by
    unfold dN
    rw [if_neg (h v rfl)]
theorem dN_mem {w : Nat} (h : w ∈ (dN S).2) : w ∈ S := by
  rw [← dN_app S]
  exact List.mem_append_right _ h
theorem t_0 : X (d + 9) 260 2 [some (vr 48 0), some (vi 0), none] [] (c, l, x, y) = tF d l x y c := by
  rw [q_260_2, if_pos (show (0 : Int32) = 0 from rfl)]
  rfl
theorem tA_bad (h : AB c tp n z) : tA d l x y c = tF d l x y c := by
  unfold tA tF
  rw [q_260_2, if_neg (show ¬ (1 : Int32) = 0 by decide), if_neg (AB_bad h)]
theorem tG_1 (h : X (d + 8) 277 0 [some (vr 48 0)] [] (c, l, x, y) = some (some (vi 1), c2, l, x, y)) : tG d l x y c = tA d l x y c2 := by
  unfold tG
  rw [h]
  simp only [am_bi_v]
  rw [if_neg (show ¬ (1 : Int32) = 0 by decide)]
  rfl
theorem tG_0 (h : X (d + 8) 277 0 [some (vr 48 0)] [] (c, l, x, y) = some (some (vi 0), c2, l, x, y)) : tG d l x y c = tF d l x y c2 := by
  unfold tG
  rw [h]
  simp only [am_bi_v]
  rw [if_pos trivial, t_0]
theorem tG_G (h : X (d + 8) 277 0 [some (vr 48 0)] [] (c, l, x, y) = X (d + 8) 277 0 [some (vr 48 0)] [] (c2, l, x, y)) : tG d l x y c = tG d l x y c2 := by
  unfold tG
  rw [h]
theorem AB_ui (h : AB c tp n z) (v : Int32) : AB (am_ui c 48 0 2 v) tp n z := by
  obtain ⟨⟨h1, h2, h3, h4⟩, h5⟩ := h
  refine ⟨⟨?_, h2, CH_fr h3 (fun k hk => ui_nk _ _ _ _ (by omega)), ?_⟩, h5⟩
  · exact ⟨by rw [ui_ne _ _ _ _ (by omega)]; exact h1.1, fun i hi => by rw [ui_nk _ _ _ _ (by omega)]; exact h1.2 i hi⟩
  · cases hz : z.2 with
    | none => rw [hz] at h5; cases h5
    | some f =>
      rw [hz] at h4
      exact ⟨⟨by rw [ui_ne _ _ _ _ (by omega)]; exact h4.1.1, by rw [ui_ne _ _ _ _ (by omega)]; exact h4.1.2⟩, h4.2⟩
/-- [ -/
theorem t_sq_f (h : AS c tp n z S C 0 b) (hs : sgnT tp n z.1 = 91) (d : Nat) : ∃ c2 : Nat → Nat → Nat → Int32, tA d l x y c = tF d l x y c2 ∧ AB c2 tp n (flZ 4 z.1.1 z) ∧ FK c c2 := by
  obtain ⟨c1, a1, a2, a3, a4⟩ := AS_look (l := l) (x := x) (y := y) h (d + 7)
  have hbt := (sgnS_iff (tp := tp) (n := n) (s := z.1) (sg := 91) (by omega)).mp hs
  obtain ⟨c2, k1, k2, k3⟩ := e261_0 (l := l) (x := x) (y := y) a3.1 h.2.1 a3.2.2.1 (p := z.1.1) (AS_len h) 25 (d + 6)
  have hB := AB_ui (⟨k2, flZ_is _ _ _⟩ : AB c2 tp n (flZ 4 z.1.1 z)) (c2 48 0 2 + 1)
  refine ⟨_, ?_, hB, ((FK_FR a4).tr (FK_FR k3)).tr (FK.ui _ _ _ (by omega))⟩
  unfold tA
  rw [q_260_2, if_neg (show ¬ (1 : Int32) = 0 by decide), if_pos (AS_0 h), a1, hbt]
  simp only [am_bi_v]
  rw [if_pos (by rfl), a2.2.2.2.2.1, k1]
  simp only [am_bv_v]
  exact tA_bad hB
theorem t_sq_s {k : Nat} (hk : k < 6) (h : AS c tp n z S C (k + 1) b) (hs : sgnT tp n z.1 = 91) (d : Nat) : ∃ c2 : Nat → Nat → Nat → Int32, tA d l x y c = tA d l x y c2 ∧ AS c2 tp n (avZ tp n z) (25 :: S) C k b ∧ FK c c2 := by
  obtain ⟨c1, a1, a2, a3, a4⟩ := AS_look (l := l) (x := x) (y := y) h (d + 7)
  have hbt := (sgnS_iff (tp := tp) (n := n) (s := z.1) (sg := 91) (by omega)).mp hs
  have hlt := sgn_lt (tp := tp) (n := n) (s := z.1) (by omega)
  have hn2 := h.1.2.1.1
  have hl := h.2.2.2.1
  obtain ⟨c2, k1, k2, k3, k4, k5⟩ := e261_s (l := l) (x := x) (y := y) (v := 25) hk a3.1 h.2.1 a3.2.2.1 (by omega) (by omega) (c1 48 0 2) (d + 7)
  have k1 : E (d + 8) 261 [vr 48 0, vi 25, vi (c1 48 0 2)] (c1, l, x, y) = _ := k1
  have r2 := k5 tp n _ a3.1
  have hRL : RL c2 tp n z.1 := by
    rw [tz_eta z h.2.1] at r2
    exact RL_at r2 (by rw [k4]; exact a2.2.2.2.2.1)
  have h6 := avZ_lt (tp := tp) (n := n) (z := z) (by omega)
  refine ⟨_, ?_, ?_, ((FK_FR a4).tr k3).tr (FK.ui 48 2 (c2 48 0 2 + 1) (by omega))⟩
  · unfold tA
    rw [q_260_2, if_neg (show ¬ (1 : Int32) = 0 by decide), if_pos (AS_0 h), a1, hbt]
    simp only [am_bi_v]
    rw [if_pos (by rfl), k1]
    simp only [am_bv_v]
  · refine ⟨?_, h.2.1, QS_FR (FR.ui _ _ (by omega)) k2, ?_, ?_⟩
    · have := RL_sign hRL (sg := 91) (by omega) hs
      unfold avZ
      rw [h.2.1]
      exact this
    · rw [List.length_cons]
      omega
    · rw [List.length_cons]
      have := h.2.2.2.2
      omega
/-- not -/
theorem t_not_f (h : AS c tp n z S C 0 b) (hs : lixT tp n 1 z.1 = some 8) (d : Nat) : ∃ c2 : Nat → Nat → Nat → Int32, tA d l x y c = tF d l x y c2 ∧ AB c2 tp n (flZ 4 z.1.1 z) ∧ FK c c2 := by
  obtain ⟨c1, a1, a2, a3, a4⟩ := AS_look (l := l) (x := x) (y := y) h (d + 7)
  have h97 := lix_sgn hs
  have hbb := bt_bd (n := n) h.1.2.1.2 z.1.1
  have hne : ¬ iv (btT tp n z.1.1) = 91 := fun q => bt_word h97 (a := 91) (by omega) (by rw [show (91 : Int32) = iv 91 from rfl, iv_eq (by omega) (by omega)] at q; exact q)
  have t1 := tk_154 (l := l) (x := x) (y := y) a2 (o := 8) (kd := 96) (W := [110, 111, 116]) (by decide) rfl (d + 6)
  rw [if_pos hs] at t1
  obtain ⟨c2, k1, k2, k3⟩ := e261_0 (l := l) (x := x) (y := y) a3.1 h.2.1 a3.2.2.1 (p := z.1.1) (AS_len h) 12 (d + 6)
  obtain ⟨c3, b1, b2, b3⟩ := e165 (l := l) (x := x) (y := y) k2 (t := 1) (own := 8) (kd := 96) (W := [110, 111, 116]) (by decide) (by decide) rfl (d + 4)
  have htq : tqZ tp n 1 8 (flZ 4 z.1.1 z) = flZ 4 z.1.1 z := by
    unfold tqZ
    rw [if_pos (flZ_is _ _ _)]
  rw [htq] at b2
  refine ⟨c3, ?_, ⟨b2, flZ_is _ _ _⟩, ((FK_FR a4).tr (FK_FR k3)).tr (FK_FR b3)⟩
  unfold tA
  rw [q_260_2, if_neg (show ¬ (1 : Int32) = 0 by decide), if_pos (AS_0 h), a1]
  simp only [am_bi_v]
  rw [if_neg hne, t1]
  simp only [am_bi_v]
  rw [if_neg (show ¬ iv 1 = 0 by decide), a2.2.2.2.2.1, k1]
  simp only [am_bv_v]
  rw [b1]
  simp only [am_bv_v]
  exact tA_bad ⟨b2, flZ_is _ _ _⟩
theorem t_not_s {k : Nat} (hk : k < 6) (h : AS c tp n z S C (k + 1) b) (hs : lixT tp n 1 z.1 = some 8) (d : Nat) : ∃ c2 : Nat → Nat → Nat → Int32, tA d l x y c = tA d l x y c2 ∧ AS c2 tp n (avZ tp n z) (12 :: S) C k b ∧ FK c c2 := by
  obtain ⟨c1, a1, a2, a3, a4⟩ := AS_look (l := l) (x := x) (y := y) h (d + 7)
  have h97 := lix_sgn hs
  have hbb := bt_bd (n := n) h.1.2.1.2 z.1.1
  have hne : ¬ iv (btT tp n z.1.1) = 91 := fun q => bt_word h97 (a := 91) (by omega) (by rw [show (91 : Int32) = iv 91 from rfl, iv_eq (by omega) (by omega)] at q; exact q)
  have t1 := tk_154 (l := l) (x := x) (y := y) a2 (o := 8) (kd := 96) (W := [110, 111, 116]) (by decide) rfl (d + 6)
  rw [if_pos hs] at t1
  have hlt := sgn_lt (tp := tp) (n := n) (s := z.1) (by omega)
  have hn2 := h.1.2.1.1
  have hl := h.2.2.2.1
  obtain ⟨c2, k1, k2, k3, k4, k5⟩ := e261_s (l := l) (x := x) (y := y) (v := 12) hk a3.1 h.2.1 a3.2.2.1 (by omega) (by omega) (c1 48 0 2) (d + 7)
  have k1 : E (d + 8) 261 [vr 48 0, vi 12, vi (c1 48 0 2)] (c1, l, x, y) = _ := k1
  obtain ⟨c3, b1, b2, b3⟩ := e165 (l := l) (x := x) (y := y) (k5 tp n _ a3.1) (t := 1) (own := 8) (kd := 96) (W := [110, 111, 116]) (by decide) (by decide) rfl (d + 4)
  have htq : tqZ tp n 1 8 z = avZ tp n z := by
    unfold tqZ
    rw [if_neg (show ¬ z.2.isSome = true by rw [h.2.1]; decide), if_pos hs]
  rw [htq] at b2
  have h6 := avZ_lt (tp := tp) (n := n) (z := z) (by omega)
  refine ⟨c3, ?_, ⟨b2, h.2.1, QS_FR b3 k2, ?_, ?_⟩, ((FK_FR a4).tr k3).tr (FK_FR b3)⟩
  · unfold tA
    rw [q_260_2, if_neg (show ¬ (1 : Int32) = 0 by decide), if_pos (AS_0 h), a1]
    simp only [am_bi_v]
    rw [if_neg hne, t1]
    simp only [am_bi_v]
    rw [if_neg (show ¬ iv 1 = 0 by decide), k1]
    simp only [am_bv_v]
    rw [b1]
    simp only [am_bv_v]
  · rw [List.length_cons]
    omega
  · rw [List.length_cons]
    have := h.2.2.2.2
    omega
/-- nots end with their fact -/
theorem e276 (hz : z.2 = none) (d : Nat) : ∀ (S C : List Nat) (m : Nat) (c : Nat → Nat → Nat → Int32), RZ c tp n z → QS c S C m b → ∃ c2 : Nat → Nat → Nat → Int32, X (d + 3) 276 0 [some (vr 48 0)] [] (c, l, x, y) = some (none, c2, l, x, y) ∧ RZ c2 tp n z ∧ QS c2 (dN S).2 (C ++ (dN S).1) (m + (dN S).1.length) b ∧ FK c c2 := by
  intro S
  induction S with
  | nil =>
    intro C m c h g
    have h0 : c 48 0 5 = 0 := (RZ_flt h).mpr hz
    have h1 := e275 (l := l) (x := x) (y := y) g (a := 12) (by omega) (d + 1)
    have h1 : E (d + 2) 275 [vr 48 0, vi 12] (c, l, x, y) = _ := h1
    refine ⟨c, ?_, h, ?_, FK.refl c⟩
    · rw [q_276_0, if_pos h0, h1]
      simp only [am_bi_v]
      rw [if_neg (show ¬ ([] : List Nat).head? = some 12 from fun q => by cases q), if_pos (show iv 0 = 0 from rfl)]
    · show QS c [] (C ++ []) (m + 0) b
      rw [List.append_nil]
      exact g
  | cons v S ih =>
    intro C m c h g
    have h0 : c 48 0 5 = 0 := (RZ_flt h).mpr hz
    have h1 := e275 (l := l) (x := x) (y := y) g (a := 12) (by omega) (d + 1)
    have h1 : E (d + 2) 275 [vr 48 0, vi 12] (c, l, x, y) = _ := h1
    have h81 : c 48 0 81 = iv (6 - (m : Int)) := g.2.2.1
    have hcl : c 48 0 81 - 1 = iv (6 - ((m + 1 : Nat) : Int)) := by
      rw [h81]
      show iv (6 - (m : Int)) - iv 1 = _
      rw [iv_sub, show 6 - (m : Int) - 1 = 6 - ((m + 1 : Nat) : Int) by omega]
    rw [q_276_0, if_pos h0, h1]
    simp only [am_bi_v]
    unfold dN
    by_cases e : v = 12
    · rw [if_pos (show (v :: S).head? = some 12 by rw [e]; rfl), if_neg (show ¬ iv 1 = 0 by decide), if_pos e, hcl]
      obtain ⟨c2, a1, a2, a3, a4⟩ := e270 (l := l) (x := x) (y := y) (QS_cl g) d
      obtain ⟨c3, b1, b2, b3, b4⟩ := ih (C ++ [v]) (m + 1) c2 (a4 tp n z (RZ_82 h (by omega) _)) a2
      rw [a1]
      refine ⟨c3, b1, b2, ?_, ((FK.ui _ _ _ (by omega)).tr a3).tr b4⟩
      show QS c3 (dN S).2 (C ++ (v :: (dN S).1)) (m + ((dN S).1.length + 1)) b
      rw [show C ++ (v :: (dN S).1) = C ++ [v] ++ (dN S).1 by rw [List.append_assoc]; rfl, show m + ((dN S).1.length + 1) = m + 1 + (dN S).1.length by omega]
      exact b3
    · rw [if_neg (show ¬ (v :: S).head? = some 12 from fun q => e (Option.some.inj q)), if_pos (show iv 0 = 0 from rfl), if_neg e]
      refine ⟨c, rfl, h, ?_, FK.refl c⟩
      show QS c (v :: S) (C ++ []) (m + 0) b
      rw [List.append_nil]
      exact g
/-- a fact by itself -/
theorem t_fact (hm : m ≤ 6) (h : AS c tp n z S C m 0) (hT : ∀ v, S.head? = some v → ¬ v ∈ [3, 4, 1, 2] ∧ v < 60) (hs : sgnT tp n z.1 ≠ 91) (h8 : lixT tp n 1 z.1 ≠ some 8) (d : Nat) : ∃ c2 : Nat → Nat → Nat → Int32, FK c c2 ∧ if (faZ tp n (partZ tp n m) z).2.2 = none then tA d l x y c = tG d l x y c2 ∧ AS c2 tp n (faZ tp n (partZ tp n m) z).2 (dN S).2 (C ++ (faZ tp n (partZ tp n m) z).1 ++ (dN S).1) (m + (dN S).1.length) 0 else tA d l x y c = tF d l x y c2 ∧ AB c2 tp n (faZ tp n (partZ tp n m) z).2 := by
  obtain ⟨c1, a1, a2, a3, a4⟩ := AS_look (l := l) (x := x) (y := y) h (d + 7)
  have hsi := sgnS_iff (tp := tp) (n := n) (s := z.1) (sg := 91) (by omega)
  have hbb := bt_bd (n := n) h.1.2.1.2 z.1.1
  have hne : ¬ iv (btT tp n z.1.1) = 91 := fun q => hs (hsi.mpr (by rw [show (91 : Int32) = iv 91 from rfl, iv_eq (by omega) (by omega)] at q; exact q))
  have t1 := tk_154 (l := l) (x := x) (y := y) a2 (o := 8) (kd := 96) (W := [110, 111, 116]) (by decide) rfl (d + 6)
  rw [if_neg h8] at t1
  obtain ⟨c2, b1, b2, b3⟩ := e262 (l := l) (x := x) (y := y) hm a3 hT d
  have hgo : tA d l x y c = am_bv (E (d + 8) 276 [vr 48 0] (c2, l, x, y)) (fun g7 => if (g7.1 48 0 5) = 0 then (am_bi (E (d + 8) 277 [vr 48 0] g7) (fun r9 g8 => if r9 = 0 then X (d + 9) 260 2 [some (vr 48 0), some (vi 0), none] [] g8 else X (d + 9) 260 2 [some (vr 48 0), some (vi 1), none] [] g8)) else X (d + 9) 260 2 [some (vr 48 0), some (vi 0), none] [] g7) := by
    unfold tA
    rw [q_260_2, if_neg (show ¬ (1 : Int32) = 0 by decide), if_pos (AS_0 h), a1]
    simp only [am_bi_v]
    rw [if_neg hne, t1]
    simp only [am_bi_v]
    rw [if_pos (show iv 0 = 0 from rfl), b1]
    simp only [am_bv_v]
  rw [hgo]
  generalize hr : faZ tp n (partZ tp n m) z = r at b3 ⊢
  by_cases hz : r.2.2 = none
  · rw [if_pos hz] at b3
    obtain ⟨c3, f1, f2, f3, f4⟩ := e276 (l := l) (x := x) (y := y) hz (d + 5) S (C ++ r.1) m c2 b3.1 b3.2.2.1
    have hd := dN_len S
    have hl := b3.2.2.2.1
    have hA : AS c3 tp n r.2 (dN S).2 (C ++ r.1 ++ (dN S).1) (m + (dN S).1.length) 0 := ⟨f2, hz, f3, by simp only [List.length_append] at hl ⊢; omega, Nat.zero_le _⟩
    refine ⟨c3, ((FK_FR a4).tr b2).tr f4, ?_⟩
    rw [if_pos hz, q_276, f1]
    simp only [am_bv_v]
    refine ⟨?_, hA⟩
    rw [if_pos (AS_0 hA), q_277]
    rfl
  · rw [if_neg hz] at b3
    refine ⟨c2, (FK_FR a4).tr b2, ?_⟩
    rw [if_neg hz, q_276, q_276_0, if_neg (AB_bad b3)]
    simp only [am_bv_v]
    refine ⟨?_, b3⟩
    rw [if_neg (AB_bad b3), t_0]
end
