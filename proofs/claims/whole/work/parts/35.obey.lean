/-! the class's Judge obeys lines -/
section
variable {c : Nat → Nat → Nat → Int32} {l : Nat → Nat → Int64} {x y : Nat} {K : Ct} {F : Nat}
theorem CR_fr {c2 : Nat → Nat → Nat → Int32} {q : Nat} (h : CR c q K) (hf : ∀ k, 4 ≤ k → k ≤ 19 → c2 k = c k) : CR c2 q K := by
  unfold CR at h ⊢
  rw [hf 4 (by decide) (by decide), hf 5 (by decide) (by decide), hf 6 (by decide) (by decide), hf 8 (by decide) (by decide), hf 9 (by decide) (by decide), hf 11 (by decide) (by decide), hf 13 (by decide) (by decide), hf 16 (by decide) (by decide), hf 17 (by decide) (by decide), hf 18 (by decide) (by decide), hf 19 (by decide) (by decide)]
  exact h
theorem JR_fr {c2 : Nat → Nat → Nat → Int32} {q : Nat} (h : JR c q K F) (hf : ∀ k, 4 ≤ k → k ≤ 22 → c2 k = c k) : JR c2 q K F := by
  unfold JR
  rw [hf 20 (by decide) (by decide), hf 21 (by decide) (by decide), hf 22 (by decide) (by decide)]
  exact ⟨CR_fr h.1 (fun k h1 h2 => hf k h1 (by omega)), h.2⟩
theorem ui_self (k i j : Nat) (v : Int32) : am_ui c k i j v k i j = v := by unfold am_ui; rw [if_pos ⟨rfl, rfl, rfl⟩]
theorem ui_ne (k i j : Nat) (v : Int32) {k2 i2 j2 : Nat} (h : k2 ≠ k ∨ i2 ≠ i ∨ j2 ≠ j) : am_ui c k i j v k2 i2 j2 = c k2 i2 j2 := by
  unfold am_ui
  rw [if_neg]
  rintro ⟨h1, h2, h3⟩
  rcases h with h | h | h
  · exact h h1
  · exact h h2
  · exact h h3
theorem ui_nk (k i j : Nat) (v : Int32) {k2 : Nat} (h : k2 ≠ k) : am_ui c k i j v k2 = c k2 := by
  funext i2 j2
  exact ui_ne k i j v (Or.inl h)
theorem e38 (hF : F < 64) (hc : c 20 0 3 = iv F) {i : Nat} (hi : i < 32) (d : Nat) : E (d + 1) 38 [vr 20 0, vi (iv i)] (c, l, x, y) = some (some (vi (iv (if F.testBit i then 1 else 0))), c, l, x, y) := by
  rw [q_38, hc]
  simp only [iv_L, iv_L2]
  rw [iv_m31 (by omega), show ((i : Int) % 32) = i by omega, iv_bit (by omega) (by omega), Int.toNat_natCast, Int.toNat_natCast]
  cases F.testBit i with
  | true => rfl
  | false => rfl
theorem e17 (h : CR c x K) (hK : VK K) {i : Nat} (hi : i < nL K) (d : Nat) : E (d + 1) 17 [vr 4 x, vi (iv i)] (c, l, x, y) = some (some (vi (iv (patS (lnK K i)))), c, l, x, y) := by
  have hn := hK.2.1.1
  have hs := hK.2.1.2 i hi
  have hl := h.2.1.2 i hi
  have hlen : (lnK K i).length ≤ 3 := by
    have : ∀ s ∈ slotLists, s.length ≤ 3 := by decide
    exact this _ hs
  have hmem : ∀ a ∈ lnK K i, a < 3 := by
    have : ∀ s ∈ slotLists, ∀ a ∈ s, a < 3 := by decide
    exact this _ hs
  have key : ∀ (n k p : Nat), k + n = (lnK K i).length → p < 2 ^ (k + 1) → X (d + 1) 17 4 [some (vr 4 x), some (vi (iv i)), some (vi (iv p)), some (vi (iv (k : Nat)))] [] (c, l, x, y) = some (some (vi (iv (((lnK K i).drop k).foldl (fun p a => 2 * p + (if a = 1 then 1 else 0)) p : Nat))), c, l, x, y) := by
    intro n
    induction n with
    | zero =>
      intro k p hk hp
      rw [q_17_4]
      simp (disch := omega) only [iv_add, iv_sub, iv_mul, iv_neg, iv_lt, iv_le, iv_eq, iv_nat, iv_L, iv_L2, am_bi_v, am_bv_v, am_bl_v, if_pos, if_neg, Int.toNat_natCast, hl.1]
      rw [List.drop_of_length_le (by omega)]
      rfl
    | succ n ih =>
      intro k p hk hp
      have hkl : k < (lnK K i).length := by omega
      have hm := hmem _ (getD_mem hkl)
      have hp2 : 2 ^ (k + 1) ≤ 2 ^ 3 := Nat.pow_le_pow_right (by decide) (by omega)
      have hp3 : 2 ^ (k + 1 + 1) = 2 ^ (k + 1) * 2 := Nat.pow_succ ..
      rw [q_17_4]
      simp (disch := omega) only [iv_add, iv_sub, iv_mul, iv_neg, iv_lt, iv_le, iv_eq, iv_nat, iv_L, iv_L2, am_bi_v, am_bv_v, am_bl_v, if_pos, if_neg, Int.toNat_natCast, hl.1, hl.2.1 k hkl]
      rw [drop_getD hkl, List.foldl_cons, show ((k : Int) + 1) = ((k + 1 : Nat) : Int) by omega]
      by_cases e : (lnK K i).getD k 0 = 1
      · rw [if_pos (by omega), if_pos e, show (2 * (p : Int) + 1) = ((2 * p + 1 : Nat) : Int) by omega]
        exact ih (k + 1) _ (by omega) (by omega)
      · rw [if_neg (by omega), if_neg e, show (2 * (p : Int) + 0) = ((2 * p + 0 : Nat) : Int) by omega]
        exact ih (k + 1) _ (by omega) (by omega)
  rw [q_17]
  exact key (lnK K i).length 0 1 (by omega) (by decide)
/-- a beginning of a pattern -/
def preP (p s : Nat) : Bool := (List.range 4).any (fun m => p / 2 ^ m == s)
theorem preP_half : ∀ p, p < 16 → 0 < p → ∀ s, s < 16 → 0 < s → preP p s = (p == s || preP (p / 2) s) := by decide
theorem e37_29 (d : Nat) {v2 : Int32} : ∀ (n p : Nat), p < 16 → p < n → ∀ c : Nat → Nat → Nat → Int32, ∃ c2 : Nat → Nat → Nat → Int32, X (d + 1) 37 29 [some (vr 20 0), none, some (vi v2), none, some (vi (iv (p : Nat)))] [] (c, l, x, y) = X (d + 1) 37 11 [some (vr 20 0), none, some (vi (v2 + (-1))), none, none] [] (c2, l, x, y) ∧ (∀ k, k ≠ 22 → c2 k = c k) ∧ ∀ s, s < 16 → 0 < s → c2 22 0 s = if 0 < p ∧ preP p s then iv 1 else c 22 0 s := by
  intro n
  induction n with
  | zero => intro p _ h; omega
  | succ n ih =>
    intro p hp hn c
    by_cases e : p = 0
    · subst e
      refine ⟨c, ?_, fun _ _ => rfl, fun s _ _ => by rw [if_neg (by omega)]⟩
      rw [q_37_29]
      simp (disch := omega) only [iv_add, iv_sub, iv_mul, iv_neg, iv_lt, iv_le, iv_eq, iv_nat, iv_L, iv_L2, am_bi_v, am_bv_v, am_bl_v, if_pos, if_neg]
    · obtain ⟨c2, h1, h2, h3⟩ := ih (p / 2) (by omega) (by omega) (am_ui c 22 0 p 1)
      refine ⟨c2, ?_, fun k hk => (h2 k hk).trans (ui_nk _ _ _ _ hk), fun s hs hs0 => ?_⟩
      · rw [q_37_29]
        simp (disch := omega) only [iv_L, iv_lt, iv_nat, if_pos, if_neg, Int.toNat_natCast]
        rw [iv_shr (by omega) (by omega), show ((p : Int) / ((2 ^ (1 : Int).toNat : Nat) : Int)) = ((p / 2 : Nat) : Int) from rfl]
        exact h1
      · rw [h3 s hs hs0, preP_half p hp (by omega) s hs hs0]
        by_cases e2 : p = s
        · subst e2
          rw [ui_self, if_pos (show 0 < p ∧ (p == p || preP (p / 2) p) = true from ⟨by omega, by simp⟩)]
          split <;> rfl
        · rw [ui_ne _ _ _ _ (Or.inr (Or.inr (Ne.symm e2)))]
          by_cases e3 : p / 2 = 0
          · rw [if_neg (by omega), e3, if_neg]
            rintro ⟨-, q⟩
            rcases Bool.or_eq_true _ _ |>.mp q with q | q
            · exact e2 (beq_iff_eq.mp q)
            · have : ∀ s, s < 16 → 0 < s → preP 0 s = false := by decide
              rw [this s hs hs0] at q; cases q
          · rw [show (p == s) = false from by simp [e2], Bool.false_or]
            by_cases e4 : preP (p / 2) s = true
            · rw [if_pos ⟨by omega, e4⟩, if_pos ⟨by omega, e4⟩]
            · rw [if_neg (fun q => e4 q.2), if_neg (fun q => e4 q.2)]
/-- the lines from j on -/
def fitFr (K : Ct) (F j p : Nat) : Option Nat := (List.range' j (nL K - j)).find? (fun i => F.testBit i && patS (lnK K i) == p)
def begFr (K : Ct) (F j p : Nat) : Bool := (List.range' j (nL K - j)).any (fun i => F.testBit i && preP (patS (lnK K i)) p)
theorem fitFr_pred {j p : Nat} (hj : j < nL K) : fitFr K F j p = if F.testBit j && patS (lnK K j) == p then some j else fitFr K F (j + 1) p := by
  unfold fitFr
  rw [show nL K - j = (nL K - (j + 1)) + 1 by omega, List.range'_succ, List.find?_cons]
  cases (F.testBit j && patS (lnK K j) == p) <;> rfl
theorem begFr_pred {j p : Nat} (hj : j < nL K) : begFr K F j p = ((F.testBit j && preP (patS (lnK K j)) p) || begFr K F (j + 1) p) := by
  unfold begFr
  rw [show nL K - j = (nL K - (j + 1)) + 1 by omega, List.range'_succ, List.any_cons]
theorem e37_11 (hK : VK K) (hF : F < 64) (d : Nat) : ∀ (j : Nat) (c : Nat → Nat → Nat → Int32), j ≤ nL K → CR c x K → c 20 0 3 = iv F → (∀ p, p < 16 → c 21 0 p = iv (oi (fitFr K F j p)) ∧ (0 < p → c 22 0 p = iv (if begFr K F j p then 1 else 0))) → ∃ c2 : Nat → Nat → Nat → Int32, X (d + 2) 37 11 [some (vr 20 0), none, some (vi (iv ((j : Int) - 1))), none, none] [] (c, l, x, y) = some (none, c2, l, x, y) ∧ JR c2 x K F ∧ ∀ k, k ≠ 21 → k ≠ 22 → c2 k = c k := by
  have hn := hK.2.1.1
  intro j
  induction j with
  | zero =>
    intro c _ hc hf hA
    refine ⟨c, ?_, ⟨hc, hK, hF, hf, ?_⟩, fun _ _ _ => rfl⟩
    · rw [q_37_11]
      simp (disch := omega) only [iv_add, iv_sub, iv_mul, iv_neg, iv_lt, iv_le, iv_eq, iv_nat, iv_L, iv_L2, am_bi_v, am_bv_v, am_bl_v, if_pos, if_neg]
    · intro p hp
      have := hA p hp
      unfold fitL begL
      unfold fitFr begFr at this
      rw [List.range_eq_range']
      rw [Nat.sub_zero] at this
      exact this
  | succ j ih =>
    intro c hj hc hf hA
    have hs := patS_slot _ (hK.2.1.2 j (by omega))
    by_cases ht : F.testBit j = true
    · have a1 : ∀ p, p < 16 → (am_ui c 21 0 (patS (lnK K j)) (iv j)) 21 0 p = iv (oi (fitFr K F j p)) := by
        intro p hp
        rw [fitFr_pred (by omega), ht, Bool.true_and]
        by_cases e : patS (lnK K j) = p
        · rw [e, ui_self, if_pos (by simp)]; rfl
        · rw [ui_ne _ _ _ _ (Or.inr (Or.inr (Ne.symm e))), if_neg (by simp [e])]
          exact (hA p hp).1
      obtain ⟨c2, h1, h2, h3⟩ := e37_29 (l := l) (x := x) (y := y) (v2 := iv (j : Int)) (d + 1) 16 (patS (lnK K j)) (by omega) (by omega) (am_ui c 21 0 (patS (lnK K j)) (iv j))
      have b1 : ∀ p, p < 16 → c2 21 0 p = iv (oi (fitFr K F j p)) ∧ (0 < p → c2 22 0 p = iv (if begFr K F j p then 1 else 0)) := by
        intro p hp
        refine ⟨by rw [h2 21 (by decide)]; exact a1 p hp, fun hp0 => ?_⟩
        rw [h3 p hp hp0, begFr_pred (by omega), ht, Bool.true_and, ui_nk _ _ _ _ (by decide), (hA p hp).2 hp0]
        by_cases e : preP (patS (lnK K j)) p = true
        · rw [if_pos ⟨by omega, e⟩, e]; rfl
        · rw [if_neg (fun q => e q.2), show preP (patS (lnK K j)) p = false by simpa using e, Bool.false_or]
      have fr : ∀ k, k ≠ 21 → k ≠ 22 → c2 k = c k := fun k k1 k2 => (h2 k k2).trans (ui_nk _ _ _ _ k1)
      obtain ⟨c3, g1, g2, g3⟩ := ih c2 (by omega) (CR_fr hc (fun k _ _ => fr k (by omega) (by omega))) (by rw [fr 20 (by decide) (by decide)]; exact hf) b1
      refine ⟨c3, ?_, g2, fun k k1 k2 => (g3 k k1 k2).trans (fr k k1 k2)⟩
      rw [q_37_11]
      rw [show (((j + 1 : Nat) : Int) - 1) = (j : Int) by omega]
      simp (disch := omega) only [iv_add, iv_sub, iv_mul, iv_neg, iv_lt, iv_le, iv_eq, iv_nat, iv_L, iv_L2, am_bi_v, am_bv_v, am_bl_v, if_pos, if_neg]
      rw [e38 hF hf (by omega)]
      simp (disch := omega) only [iv_add, iv_sub, iv_mul, iv_neg, iv_lt, iv_le, iv_eq, iv_nat, iv_L, iv_L2, am_bi_v, am_bv_v, am_bl_v, if_pos, if_neg, ht, e17 hc hK (show j < nL K by omega), Int.toNat_natCast]
      have hv : iv (j : Int) + (-1) = iv ((j : Int) - 1) := by rw [show (-1 : Int32) = iv (-1) from rfl, iv_add]; rfl
      rw [hv] at h1
      rw [h1, g1, if_neg (by decide)]
    · have ht2 : F.testBit j = false := by simpa using ht
      obtain ⟨c3, g1, g2, g3⟩ := ih c (by omega) hc hf (by
        intro p hp
        rw [fitFr_pred (by omega), begFr_pred (by omega), ht2, Bool.false_and, Bool.false_and, Bool.false_or]
        exact hA p hp)
      refine ⟨c3, ?_, g2, g3⟩
      rw [q_37_11]
      rw [show (((j + 1 : Nat) : Int) - 1) = (j : Int) by omega]
      simp (disch := omega) only [iv_add, iv_sub, iv_mul, iv_neg, iv_lt, iv_le, iv_eq, iv_nat, iv_L, iv_L2, am_bi_v, am_bv_v, am_bl_v, if_pos, if_neg]
      rw [e38 hF hf (by omega)]
      simp only [ht2, am_bi_v]
      rw [if_pos (by rfl), ← g1]
      rfl
theorem e36 (d : Nat) : ∀ (n i : Nat) (c : Nat → Nat → Nat → Int32), i + n = 16 → (∀ p, p < i → c 21 0 p = iv (-1) ∧ c 22 0 p = iv 0) → ∃ c2 : Nat → Nat → Nat → Int32, X (d + 1) 36 2 [some (vr 20 0), some (vi (iv (i : Nat)))] [] (c, l, x, y) = some (none, c2, l, x, y) ∧ (∀ p, p < 16 → c2 21 0 p = iv (-1) ∧ c2 22 0 p = iv 0) ∧ ∀ k, k ≠ 21 → k ≠ 22 → c2 k = c k := by
  intro n
  induction n with
  | zero =>
    intro i c hi h
    refine ⟨c, ?_, fun p hp => h p (by omega), fun _ _ _ => rfl⟩
    rw [q_36_2]
    simp (disch := omega) only [iv_add, iv_sub, iv_mul, iv_neg, iv_lt, iv_le, iv_eq, iv_nat, iv_L, iv_L2, am_bi_v, am_bv_v, am_bl_v, if_pos, if_neg]
  | succ n ih =>
    intro i c hi h
    obtain ⟨c2, h1, h2, h3⟩ := ih (i + 1) (am_ui (am_ui c 21 0 i (-1)) 22 0 i 0) (by omega) (by
      intro p hp
      by_cases e : p = i
      · subst e
        rw [ui_self, ui_ne _ _ _ _ (Or.inl (by decide)), ui_self]
        exact ⟨rfl, rfl⟩
      · rw [ui_ne _ _ _ _ (Or.inl (by decide)), ui_ne _ _ _ _ (Or.inr (Or.inr e)), ui_ne _ _ _ _ (Or.inr (Or.inr e)), ui_ne _ _ _ _ (Or.inl (by decide))]
        exact h p (by omega))
    refine ⟨c2, ?_, h2, fun k k1 k2 => ?_⟩
    · rw [q_36_2]
      simp (disch := omega) only [iv_lt, iv_nat, if_pos, if_neg, Int.toNat_natCast, show (16 : Int32) = iv 16 from rfl, show (iv (i : Int) < 0) = (iv (i : Int) < iv 0) from rfl]
      rw [← h1]
      congr 5
      rw [show (1 : Int32) = iv 1 from rfl, iv_add]
      congr 1
    · rw [h3 k k1 k2, ui_nk _ _ _ _ k2, ui_nk _ _ _ _ k1]
theorem e37 (hc : CR c x K) (hK : VK K) (hF : F < 64) (d : Nat) : ∃ c2 : Nat → Nat → Nat → Int32, E (d + 2) 37 [vr 20 0, vi (iv F)] (c, l, x, y) = some (none, c2, l, x, y) ∧ JR c2 x K F ∧ ∀ k, k ≠ 20 → k ≠ 21 → k ≠ 22 → c2 k = c k := by
  obtain ⟨c1, h1, h2, h3⟩ := e36 (l := l) (x := x) (y := y) d 16 0 (am_ui c 20 0 3 (iv F)) (by decide) (fun p hp => by omega)
  have hc1 : CR c1 x K := CR_fr hc (fun k _ _ => (h3 k (by omega) (by omega)).trans (ui_nk _ _ _ _ (by omega)))
  have hn := hK.2.1.1
  obtain ⟨c2, g1, g2, g3⟩ := e37_11 (l := l) (y := y) hK hF d (nL K) c1 (Nat.le_refl _) hc1 (by rw [h3 20 (by decide) (by decide), ui_self]) (by
    intro p hp
    unfold fitFr begFr
    rw [Nat.sub_self]
    exact ⟨(h2 p hp).1, fun _ => (h2 p hp).2⟩)
  refine ⟨c2, ?_, g2, fun k k0 k1 k2 => ((g3 k k1 k2).trans (h3 k k1 k2)).trans (ui_nk _ _ _ _ k0)⟩
  rw [q_37, q_36]
  have h1 : X (d + 1) 36 2 [some (vr 20 0), some (vi 0)] [] (am_ui c 20 0 3 (iv F), l, x, y) = some (none, c1, l, x, y) := h1
  rw [h1]
  simp only [am_bv_v, hc1.2.1.1]
  rw [show (1 : Int32) = iv 1 from rfl, iv_sub]
  exact g1
end
