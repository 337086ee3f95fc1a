/-! the class's ask() -/
def zAsk (tp : Nat → Nat) (n : Nat) : Tz := (qsZ tp n (nxtQ tp n 0 false, none)).2
section
variable {c : Nat → Nat → Nat → Int32} {l : Nat → Nat → Int64} {x y : Nat} {K : Ct} {F : Nat} {row : List (Nat × Nat)} {tp : Nat → Nat} {n : Nat} {fa fp : Int} {rf : Nat → Int32} {sd : Int} {oc : List Nat}
theorem k142 (h : AC c x y K F row tp n fa fp rf sd oc) (hv : VS K F row tp n fa fp sd oc) (d : Nat) : ∃ c2 : Nat → Nat → Nat → Int32, E (d + 41) 142 [vr 0 0] (c, l, x, y) = some (some (vl (jv (askS tp n K F))), c2, l, x, y) ∧ AC c2 x y K F row tp 0 (fltF (zAsk tp n).2) (fltP (zAsk tp n).2) rf sd oc ∧ CZ (am_ui c2 1 0 1 (iv n)) tp n (zAsk tp n) ∧ ∀ k, k ≠ 1 → k ≠ 44 → k ≠ 45 → k ≠ 47 → c2 k = c k := by
  obtain ⟨h1, h2, h3, h4, h5, h6, h7⟩ := h
  obtain ⟨c1, a1, a2, a3⟩ := e132 (l := l) (y := y) h1 (d + 33)
  have hJ1 : JR c1 x K F := JR_fr h1 (fun k _ _ => a2 k (by omega))
  have hT : TC c tp n := ⟨h5.1, h5.2.2.2⟩
  have hT1 : TC c1 tp n := ⟨by rw [a2 1 (by omega)]; exact hT.1, by rw [a2 2 (by omega)]; exact hT.2⟩
  obtain ⟨c2, b1, b2, b3⟩ := e58 (l := l) (y := y) hv.2.2.2.1.1 hv.2.2.2.1.2 hT1 hJ1 a3 d
  have b2 : CZ c2 tp n (zAsk tp n) := b2
  have hk : ∀ k, k ≠ 1 → k ≠ 44 → k ≠ 45 → k ≠ 47 → am_ui c2 1 0 1 (iv 0) k = c k := fun k k1 k2 k3 k4 => by rw [ui_nk _ _ _ _ k1, b3.1 k k1 k2 k3, a2 k k4]
  have hft := FTf_eq b2
  refine ⟨am_ui c2 1 0 1 (iv 0), ?_, ⟨JR_fr h1 (fun k k1 k2 => hk k (by omega) (by omega) (by omega) (by omega)), h2, ⟨?_, RowAt_fr h3.2.1 (hk 24 (by omega) (by omega) (by omega) (by omega)), RowAt_fr h3.2.2 (hk 25 (by omega) (by omega) (by omega) (by omega))⟩, ⟨?_, RowAt_fr h4.2 (hk 26 (by omega) (by omega) (by omega) (by omega))⟩, ⟨?_, ?_, ?_, ?_⟩, ?_, ?_⟩, ?_, hk⟩
  · rw [q_142, a1]
    simp only [am_bv_v]
    rw [b1]
    rfl
  · rw [hk 23 (by omega) (by omega) (by omega) (by omega)]; exact h3.1
  · rw [hk 23 (by omega) (by omega) (by omega) (by omega)]; exact h4.1
  · rw [ui_self]; rfl
  · rw [ui_ne _ _ _ _ (by omega)]; exact hft.1
  · rw [ui_ne _ _ _ _ (by omega)]; exact hft.2
  · rw [hk 2 (by omega) (by omega) (by omega) (by omega)]; exact h5.2.2.2
  · rw [hk 46 (by omega) (by omega) (by omega) (by omega)]; exact h6
  · rw [hk 34 (by omega) (by omega) (by omega) (by omega)]; exact h7
  · have hs : am_ui (am_ui c2 1 0 1 (iv 0)) 1 0 1 (iv n) = c2 := by
      funext k i j
      by_cases e : k = 1 ∧ i = 0 ∧ j = 1
      · obtain ⟨rfl, rfl, rfl⟩ := e
        rw [ui_self]
        exact b2.1.1.symm
      · rw [ui_ne _ _ _ _ (by omega), ui_ne _ _ _ _ (by omega)]
    rw [hs]
    exact b2
end
