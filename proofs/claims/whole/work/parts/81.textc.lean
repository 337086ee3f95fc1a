/-! the class's text() -/
def fltF (o : Option (Nat × Nat)) : Int := match o with
  | none => 0
  | some f => (f.1 : Int)
def fltP (o : Option (Nat × Nat)) : Int := match o with
  | none => -1
  | some f => (f.2 : Int)
section
variable {c : Nat → Nat → Nat → Int32} {l : Nat → Nat → Int64} {x y : Nat} {K : Ct} {F : Nat} {row : List (Nat × Nat)} {tp : Nat → Nat} {n : Nat} {fa fp : Int} {rf : Nat → Int32} {sd : Int} {oc : List Nat}
theorem rdZ_none : ∀ (m cnt : Nat) (K : Ct) (z : Tz), (rdZ tp n m cnt K z).1 = none → (rdZ tp n m cnt K z).2.2.2 ≠ none
  | 0, cnt, K, z, h => by
    unfold rdZ at h ⊢
    split at h
    · cases h
    · rename_i e
      rw [if_neg e]
      exact flZ_ns _ _ _
  | m + 1, cnt, K, z, h => by
    unfold rdZ at h ⊢
    split at h
    · cases h
    · rename_i e
      rw [if_neg e]
      split at h
      · rename_i e2
        rw [if_pos e2]
        exact rdZ_none m (cnt + 1) _ _ h
      · rename_i e2
        rw [if_neg e2]
        exact e2
theorem rdZ_cnt : ∀ (m cnt : Nat) (K : Ct) (z : Tz) (q : Nat), (rdZ tp n m cnt K z).1 = some q → q ≤ cnt + m
  | 0, cnt, K, z, q, h => by
    unfold rdZ at h
    split at h
    · cases h; exact Nat.le_refl _
    · cases h
  | m + 1, cnt, K, z, q, h => by
    unfold rdZ at h
    split at h
    · cases h; exact Nat.le_add_right _ _
    · split at h
      · have := rdZ_cnt m (cnt + 1) _ _ q h
        omega
      · cases h
theorem FTf_eq {z : Tz} (h : CZ c tp n z) : c 1 0 5 = iv (fltF z.2) ∧ c 1 0 6 = iv (fltP z.2) := by
  have h4 := h.2.2.2
  cases hz : z.2 with
  | none => rw [hz] at h4; exact h4
  | some f => rw [hz] at h4; exact h4.1
theorem AC_FD {c2 : Nat → Nat → Nat → Int32} {z : Tz} (h : AC c x y K F row tp n fa fp rf sd oc) (hf : FD c c2 x) (hz : CZ c2 tp n z) : AC c2 x y K F row tp n (fltF z.2) (fltP z.2) rf sd oc := by
  obtain ⟨h1, h2, h3, h4, h5, h6, h7⟩ := h
  have fk : ∀ k, 19 < k → c2 k = c k := fun k hk => hf.1 k (by omega) (by omega)
  refine ⟨⟨FD_CR hf h1.2.1 h1.1, h1.2.1, h1.2.2.1, ?_, ?_⟩, h2, ⟨?_, RowAt_fr h3.2.1 (fk 24 (by omega)), RowAt_fr h3.2.2 (fk 25 (by omega))⟩, ⟨?_, RowAt_fr h4.2 (fk 26 (by omega))⟩, ⟨hz.1.1, (FTf_eq hz).1, (FTf_eq hz).2, hz.1.2⟩, ?_, ?_⟩
  · rw [fk 20 (by omega)]; exact h1.2.2.2.1
  · rw [fk 21 (by omega), fk 22 (by omega)]; exact h1.2.2.2.2
  · rw [fk 23 (by omega)]; exact h3.1
  · rw [fk 23 (by omega)]; exact h4.1
  · rw [fk 46 (by omega)]; exact h6
  · rw [fk 34 (by omega)]; exact h7
theorem k103_no (h : AC c x y K F row tp n fa fp rf sd oc) (hv : VS K F row tp n fa fp sd oc) (ho : (txtZ tp n).1 = none) (d : Nat) : ∃ c2 : Nat → Nat → Nat → Int32, E (d + 7) 103 [vr 0 0] (c, l, x, y) = some (some (vi (iv (-1))), c2, l, x, y) ∧ AC c2 x y K F row tp 0 (fltF (txtZ tp n).2.2.2) (fltP (txtZ tp n).2.2.2) (updR rf 1) sd oc ∧ KC c c2 := by
  obtain ⟨c1, g1, g2, g3, g4, -⟩ := k24 (l := l) h.2.1 (⟨h.2.2.2.2.1.1, h.2.2.2.2.1.2.2.2⟩ : TC c tp n) hv.2.2.2.1.1 hv.2.2.2.1.2 d
  have a1 := AC_FD h g4 g2
  obtain ⟨a2, b2⟩ := ac_n0 a1
  obtain ⟨a3, b3⟩ := ac_ref a2 (k := 1) (by decide)
  refine ⟨_, ?_, a3, ?_⟩
  · rw [q_103, g1, ho]
    simp only [am_bi_v]
    rw [if_pos (show iv (oi none) = -1 from rfl), show am_ui c1 1 0 1 (iv 0) 46 0 1 = c1 46 0 1 from ui_ne _ _ _ _ (by decide)]
    rfl
  · intro k hk
    rw [b3 k hk, b2 k hk, g4.1 k (by omega) (by omega)]
theorem k103_ok (h : AC c x y K F row tp n fa fp rf sd oc) (hv : VS K F row tp n fa fp sd oc) {m : Nat} (ho : (txtZ tp n).1 = some m) (d : Nat) : ∃ c2 : Nat → Nat → Nat → Int32, E (d + 7) 103 [vr 0 0] (c, l, x, y) = some (some (vi (iv (m : Nat))), c2, l, y, x) ∧ AC c2 y x (txtZ tp n).2.1 (2 ^ nL (txtZ tp n).2.1 - 1) [] tp 0 0 (-1) rf sd oc ∧ PF c2 ∧ KR c c2 := by
  obtain ⟨c1, g1, g2, g3, g4, g5⟩ := k24 (l := l) h.2.1 (⟨h.2.2.2.2.1.1, h.2.2.2.2.1.2.2.2⟩ : TC c tp n) hv.2.2.2.1.1 hv.2.2.2.1.2 d
  have hK1 : VK (txtZ tp n).2.1 := rdZ_VK 70 0 K0 _ VK_0
  have hn := g5 (by rw [ho]; rfl)
  have hft := FTf_eq g2
  rw [hn] at hft
  have h6 := hK1.2.1.1
  generalize (txtZ tp n).2.1 = K1 at g3 hK1 h6 ⊢
  have hp : 2 ^ nL K1 ≤ 2 ^ 6 := Nat.pow_le_pow_right (by decide) h6
  have hF : 2 ^ nL K1 - 1 < 64 := by have := Nat.two_pow_pos (nL K1); omega
  have a1 := AC_FD h g4 g2
  have hm := rdZ_cnt 70 0 K0 _ m ho
  have hC2 : CR (am_ui (am_ui c1 1 0 1 0) 23 0 3 0) y K1 := CR_fr g3 (fun k k1 k2 => by rw [ui_nk _ _ _ _ (by omega), ui_nk _ _ _ _ (by omega)])
  have e16' := e16 (c := am_ui (am_ui c1 1 0 1 0) 23 0 3 0) (l := l) (x := y) (y := x) hC2.2.1.1 h6 (d + 5)
  obtain ⟨c3, j1, j2, j3, j4⟩ := e105 (l := l) (y := x) hC2 hK1 hF (d + 3)
  refine ⟨c3, ?_, ⟨j2, ⟨h.2.1.2.1, h.2.1.1, fun q => h.2.1.2.2 q.symm⟩, ⟨?_, fun k hk => absurd hk (Nat.not_lt_zero _), fun k hk => absurd hk (Nat.not_lt_zero _)⟩, ⟨?_, RowAt_fr a1.2.2.2.1.2 ?_⟩, ⟨?_, ?_, ?_, ?_⟩, ?_, ?_⟩, j3, ?_⟩
  · rw [q_103, g1, ho]
    simp only [am_bi_v]
    rw [if_neg (show ¬ iv (oi (some m)) = -1 by show ¬ iv (m : Int) = -iv 1; rw [iv_neg, iv_eq (by omega) (by omega)]; omega)]
    rw [e16']
    simp only [am_bi_v]
    rw [j1]
    rfl
  · rw [j4 23 (by decide) (by decide) (by decide) (by decide) (by decide) (by decide), ui_self]; rfl
  · rw [j4 23 (by decide) (by decide) (by decide) (by decide) (by decide) (by decide), ui_ne _ _ _ _ (by omega), ui_nk _ _ _ _ (by decide)]; exact a1.2.2.2.1.1
  · rw [j4 26 (by decide) (by decide) (by decide) (by decide) (by decide) (by decide), ui_nk _ _ _ _ (by decide), ui_nk _ _ _ _ (by decide)]
  · rw [j4 1 (by decide) (by decide) (by decide) (by decide) (by decide) (by decide), ui_nk _ _ _ _ (by decide), ui_self]; rfl
  · rw [j4 1 (by decide) (by decide) (by decide) (by decide) (by decide) (by decide), ui_nk _ _ _ _ (by decide), ui_ne _ _ _ _ (by omega)]; exact hft.1
  · rw [j4 1 (by decide) (by decide) (by decide) (by decide) (by decide) (by decide), ui_nk _ _ _ _ (by decide), ui_ne _ _ _ _ (by omega)]; exact hft.2
  · rw [j4 2 (by decide) (by decide) (by decide) (by decide) (by decide) (by decide), ui_nk _ _ _ _ (by decide), ui_nk _ _ _ _ (by decide)]; exact g2.1.2
  · rw [j4 46 (by decide) (by decide) (by decide) (by decide) (by decide) (by decide), ui_nk _ _ _ _ (by decide), ui_nk _ _ _ _ (by decide)]; exact a1.2.2.2.2.2.1
  · rw [j4 34 (by decide) (by decide) (by decide) (by decide) (by decide) (by decide), ui_nk _ _ _ _ (by decide), ui_nk _ _ _ _ (by decide)]; exact a1.2.2.2.2.2.2
  · intro k hk
    rw [j4 k (by omega) (by omega) (by omega) (by omega) (by omega) (by omega), ui_nk _ _ _ _ (by omega), ui_nk _ _ _ _ (by omega), g4.1 k (by omega) (by omega)]
theorem VS_text (hv : VS K F row tp n fa fp sd oc) : VS (txtZ tp n).2.1 (2 ^ nL (txtZ tp n).2.1 - 1) [] tp 0 0 (-1) sd oc := by
  have hK1 : VK (txtZ tp n).2.1 := rdZ_VK 70 0 K0 _ VK_0
  have := Nat.two_pow_pos (nL (txtZ tp n).2.1)
  exact ⟨hK1, by omega, ⟨Nat.zero_le _, List.nodup_nil, fun p q => (by cases q)⟩, ⟨by omega, hv.2.2.2.1.2⟩, by omega, by omega, hv.2.2.2.2.2.2.1, hv.2.2.2.2.2.2.2⟩
theorem VS_fault (hv : VS K F row tp n fa fp sd oc) {z : Tz} (h : CZ c tp n z) : VS K F row tp 0 (fltF z.2) (fltP z.2) sd oc := by
  have h4 := h.2.2.2
  refine ⟨hv.1, hv.2.1, hv.2.2.1, ⟨by omega, hv.2.2.2.1.2⟩, ?_, ?_, hv.2.2.2.2.2.2.1, hv.2.2.2.2.2.2.2⟩
  · cases hz : z.2 with
    | none => exact ⟨by decide, by decide⟩
    | some f =>
      rw [hz] at h4
      have h4 : (c 1 0 5 = iv (f.1 : Nat) ∧ c 1 0 6 = iv (f.2 : Nat)) ∧ (1 ≤ f.1 ∧ f.1 ≤ 5) ∧ f.2 ≤ 1600 := h4
      show 0 ≤ (f.1 : Int) ∧ (f.1 : Int) ≤ 5
      omega
  · cases hz : z.2 with
    | none => exact ⟨by decide, by decide⟩
    | some f =>
      rw [hz] at h4
      have h4 : (c 1 0 5 = iv (f.1 : Nat) ∧ c 1 0 6 = iv (f.2 : Nat)) ∧ (1 ≤ f.1 ∧ f.1 ≤ 5) ∧ f.2 ≤ 1600 := h4
      show -1 ≤ (f.2 : Int) ∧ (f.2 : Int) ≤ 1600
      omega
end
