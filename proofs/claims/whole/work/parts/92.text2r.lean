/-! the reference: text() to its end -/
section
variable {c : Nat → Nat → Nat → Int32} {l : Nat → Nat → Int64} {x y : Nat} {tp : Nat → Nat} {n : Nat} {z : Tz} {s : Ts} {K : Ct} {F : Nat} {row : List (Nat × Nat)} {fa fp : Int} {rf : Nat → Int32} {sd : Int} {oc : List Nat}
theorem sgnE_iff : sgnT tp n s = -1 ↔ btT tp n s.1 = -1 := by
  unfold sgnT btT
  by_cases h : s.1 < n
  · rw [if_pos h, if_pos h]
    constructor
    · intro q
      split at q <;> omega
    · intro q
      omega
  · rw [if_neg h, if_neg h]
/-- the reading ends with a fault -/
theorem tx_bad {f : Nat × Nat} (h : RZ c tp n (s, some f)) (d : Nat) : X (d + 8) 149 44 [some (vr 48 0), none] [] (c, l, x, y) = some (some (vi (-1)), am_ui (am_ui (am_ui c 48 0 7 (iv (f.1 : Nat))) 48 0 8 (iv (f.2 : Nat))) 50 0 1 (c 50 0 1 + 1), l, x, y) := by
  have h4 : (c 48 0 5 = iv (f.1 : Nat) ∧ c 48 0 6 = iv (f.2 : Nat)) ∧ (1 ≤ f.1 ∧ f.1 ≤ 5) ∧ f.2 ≤ 1600 := h.2.2.2
  have hne : ¬ c 48 0 5 = 0 := RZ_bad h
  rw [q_149_44, if_neg hne, if_neg hne, h4.1.1]
  rw [h4.1.2]
/-- it ends well -/
theorem tx_end {cnt : Nat} (h : RL c tp n s) (hd : RD c l K) (hK : VK K) (h37 : c 48 0 37 = iv (cnt : Nat)) (d : Nat) : ∃ (c2 : Nat → Nat → Nat → Int32) (l2 : Nat → Nat → Int64), (if c 48 0 5 = 0 then am_bv (E (d + 7) 176 [vr 48 0] (am_ui (am_ui c 48 0 7 (c 48 0 5)) 48 0 8 (c 48 0 6), l, x, y)) (fun g3 => some (some (vi (g3.1 48 0 37)), g3)) else some (some (vi (-1)), am_ui (am_ui (am_ui c 48 0 7 (c 48 0 5)) 48 0 8 (c 48 0 6)) 50 0 1 (c 50 0 1 + 1), l, x, y)) = some (some (vi (iv (cnt : Nat))), c2, l2, x, y) ∧ RR c2 l2 K (2 ^ nL K - 1) ∧ (c2 48 0 42 = iv 0 ∧ c2 48 0 7 = iv 0 ∧ c2 48 0 8 = iv (-1)) ∧ KX c l c2 l2 ∧ c2 48 0 1 = c 48 0 1 ∧ c2 50 = c 50 := by
  obtain ⟨h5, h6⟩ := h.2.2.2.1
  have hd2 : RD (am_ui (am_ui c 48 0 7 (c 48 0 5)) 48 0 8 (c 48 0 6)) l K := by
    unfold RD at hd ⊢
    have hk : ∀ k, k ≠ 48 → am_ui (am_ui c 48 0 7 (c 48 0 5)) 48 0 8 (c 48 0 6) k = c k := fun k hk => by rw [ui_nk _ _ _ _ hk, ui_nk _ _ _ _ hk]
    rw [hk 68 (by omega), hk 70 (by omega), hk 72 (by omega), hk 73 (by omega), hk 74 (by omega), hk 75 (by omega), hk 76 (by omega)]
    exact hd
  obtain ⟨c2, l2, g1, g2, g3, g4, g5, g6⟩ := m176 (x := x) (y := y) hd2 hK (d + 5)
  rw [if_pos (show c 48 0 5 = 0 from h5), g1]
  simp only [am_bv_v]
  have e37 : c2 48 0 37 = iv (cnt : Nat) := by rw [g4 0 37 (by omega) (by omega) (by omega), ui_ne _ _ _ _ (by omega), ui_ne _ _ _ _ (by omega)]; exact h37
  refine ⟨c2, l2, by rw [e37], g2, ⟨g3, ?_, ?_⟩, ?_, ?_, ?_⟩
  · rw [g4 0 7 (by omega) (by omega) (by omega), ui_ne _ _ _ _ (by omega), ui_self]; exact h5
  · rw [g4 0 8 (by omega) (by omega) (by omega), ui_self]; exact h6
  · refine ⟨fun k i j hk => ?_, g6⟩
    unfold nTx at hk
    by_cases e : k = 48
    · subst e
      rw [g4 i j (by omega) (by omega) (by omega), ui_ne _ _ _ _ (by omega), ui_ne _ _ _ _ (by omega)]
    · rw [g5 k e (by omega) (by omega) (by omega), ui_nk _ _ _ _ e, ui_nk _ _ _ _ e]
  · rw [g4 0 1 (by omega) (by omega) (by omega), ui_ne _ _ _ _ (by omega), ui_ne _ _ _ _ (by omega)]
  · rw [g5 50 (by omega) (by omega) (by omega) (by omega), ui_nk _ _ _ _ (by omega), ui_nk _ _ _ _ (by omega)]
theorem FT_1 {c2 : Nat → Nat → Nat → Int32} {l2 : Nat → Nat → Int64} (h : FT c l c2 l2) : c2 48 0 1 = c 48 0 1 ∧ c2 50 = c 50 := ⟨h.1 48 0 1 (by unfold nDr; omega) (by omega), by funext i j; exact h.1 50 i j (by unfold nDr; omega) (by omega)⟩
/-- all of its statements -/
theorem tx_loop (d : Nat) : ∀ (m cnt : Nat) (K : Ct) (s : Ts) (c : Nat → Nat → Nat → Int32) (l : Nat → Nat → Int64), cnt + m = 70 → RZ c tp n (s, none) → RD c l K → VK K → c 48 0 37 = iv (cnt : Nat) → ((∀ q, (rdZ tp n m cnt K (s, none)).1 = some q → ∃ (c2 : Nat → Nat → Nat → Int32) (l2 : Nat → Nat → Int64), X (d + 8) 149 44 [some (vr 48 0), none] [] (c, l, x, y) = some (some (vi (iv (q : Nat))), c2, l2, x, y) ∧ RR c2 l2 (rdZ tp n m cnt K (s, none)).2.1 (2 ^ nL (rdZ tp n m cnt K (s, none)).2.1 - 1) ∧ (c2 48 0 42 = iv 0 ∧ c2 48 0 7 = iv 0 ∧ c2 48 0 8 = iv (-1)) ∧ KX c l c2 l2 ∧ c2 48 0 1 = c 48 0 1 ∧ c2 50 = c 50) ∧ ((rdZ tp n m cnt K (s, none)).1 = none → ∃ (c2 : Nat → Nat → Nat → Int32) (l2 : Nat → Nat → Int64) (f : Nat × Nat), (rdZ tp n m cnt K (s, none)).2.2.2 = some f ∧ X (d + 8) 149 44 [some (vr 48 0), none] [] (c, l, x, y) = some (some (vi (-1)), am_ui (am_ui (am_ui c2 48 0 7 (iv (f.1 : Nat))) 48 0 8 (iv (f.2 : Nat))) 50 0 1 (c2 50 0 1 + 1), l2, x, y) ∧ FT c l c2 l2)) := by
  intro m
  induction m with
  | zero =>
    intro cnt K s c l hm h hd hK h37
    have h0 : c 48 0 5 = 0 := by
      have hf := RZ_flt h
      exact hf.mpr rfl
    obtain ⟨c1, g1, g2, g3⟩ := e150 (l := l) (x := x) (y := y) h (d + 6)
    have hbt := bt_bd (n := n) h.2.1.2 s.1
    have hd1 := RD_FR g3 hd
    have h371 : c1 48 0 37 = iv (cnt : Nat) := by rw [FR_37 g3]; exact h37
    rw [q_149_44, if_pos h0, g1]
    simp only [am_bi_v]
    unfold rdZ
    dsimp only
    by_cases e : btT tp n s.1 = -1
    · rw [if_pos (sgnE_iff.mpr e), if_pos (show iv (btT tp n s.1) = -1 by rw [e]; rfl)]
      refine ⟨fun q hq => ?_, fun q => (by cases q)⟩
      cases hq
      obtain ⟨c2, l2, k1, k2, k3, k4, k5, k6⟩ := tx_end (x := x) (y := y) g2 hd1 hK h371 d
      have f1 := FT_1 (FT_FS (FS_FR g3 l))
      exact ⟨c2, l2, k1, k2, k3, (KX_FT (FT_FS (FS_FR g3 l))).tr k4, k5.trans f1.1, k6.trans f1.2⟩
    · rw [if_neg (fun q => e (sgnE_iff.mp q)), if_neg (show ¬ iv (btT tp n s.1) = -1 by show ¬ iv (btT tp n s.1) = iv (-1); rw [iv_eq (by omega) (by omega)]; exact e)]
      refine ⟨fun q hq => (by cases hq), fun _ => ?_⟩
      obtain ⟨c2, l2, k1, k2, k3⟩ := m151 (x := x) (y := y) g2 hd1 hK (cnt := cnt) (by omega) h371 d
      rw [if_pos (by omega), flZ_none rfl] at k3
      rw [k1]
      simp only [am_bv_v]
      exact ⟨c2, l2, (5, s.1), rfl, tx_bad k3 d, (FT_FS (FS_FR g3 l)).tr k2⟩
  | succ m ih =>
    intro cnt K s c l hm h hd hK h37
    have h0 : c 48 0 5 = 0 := by
      have hf := RZ_flt h
      exact hf.mpr rfl
    obtain ⟨c1, g1, g2, g3⟩ := e150 (l := l) (x := x) (y := y) h (d + 6)
    have hbt := bt_bd (n := n) h.2.1.2 s.1
    have hd1 := RD_FR g3 hd
    have h371 : c1 48 0 37 = iv (cnt : Nat) := by rw [FR_37 g3]; exact h37
    rw [q_149_44, if_pos h0, g1]
    simp only [am_bi_v]
    unfold rdZ
    dsimp only
    by_cases e : btT tp n s.1 = -1
    · rw [if_pos (sgnE_iff.mpr e), if_pos (show iv (btT tp n s.1) = -1 by rw [e]; rfl)]
      refine ⟨fun q hq => ?_, fun q => (by cases q)⟩
      cases hq
      obtain ⟨c2, l2, k1, k2, k3, k4, k5, k6⟩ := tx_end (x := x) (y := y) g2 hd1 hK h371 d
      have f1 := FT_1 (FT_FS (FS_FR g3 l))
      exact ⟨c2, l2, k1, k2, k3, (KX_FT (FT_FS (FS_FR g3 l))).tr k4, k5.trans f1.1, k6.trans f1.2⟩
    · rw [if_neg (fun q => e (sgnE_iff.mp q)), if_neg (show ¬ iv (btT tp n s.1) = -1 by show ¬ iv (btT tp n s.1) = iv (-1); rw [iv_eq (by omega) (by omega)]; exact e)]
      obtain ⟨c2, l2, k1, k2, k3⟩ := m151 (x := x) (y := y) g2 hd1 hK (cnt := cnt) (by omega) h371 d
      rw [if_neg (by omega)] at k3
      obtain ⟨k3, k4, k5⟩ := k3
      rw [k1]
      simp only [am_bv_v]
      by_cases e2 : (stZ tp n K (s, none)).2.2 = none
      · rw [if_pos e2]
        have ez := tz_eta _ e2
        have hK2 : VK (stZ tp n K (s, none)).1 := rsZ_VK hK
        have hd2 := k4 e2
        rw [ez] at k3 ⊢
        obtain ⟨i1, i2⟩ := ih (cnt + 1) (stZ tp n K (s, none)).1 (stZ tp n K (s, none)).2.1 c2 l2 (by omega) k3 hd2 hK2 k5
        have f0 : FT c l c2 l2 := (FT_FS (FS_FR g3 l)).tr k2
        have f1 := FT_1 f0
        refine ⟨fun q hq => ?_, fun q => ?_⟩
        · obtain ⟨c3, l3, j1, j2, j3, j4, j5, j6⟩ := i1 q hq
          exact ⟨c3, l3, j1, j2, j3, (KX_FT f0).tr j4, j5.trans f1.1, j6.trans f1.2⟩
        · obtain ⟨c3, l3, f, j1, j2, j3⟩ := i2 q
          exact ⟨c3, l3, f, j1, j2, f0.tr j3⟩
      · rw [if_neg e2]
        refine ⟨fun q hq => (by cases hq), fun _ => ?_⟩
        obtain ⟨f, hf⟩ := Option.ne_none_iff_exists'.mp e2
        have ez := tz_eta _ hf
        rw [ez] at k3
        exact ⟨c2, l2, f, hf, tx_bad k3 d, (FT_FS (FS_FR g3 l)).tr k2⟩
end
