/-! the class's reader: words, lines, facts, the accused -/
/-- what a draft's reading leaves: the other COURT and all but the tape's numbers -/
def FD (c c2 : Nat → Nat → Nat → Int32) (x : Nat) : Prop := (∀ k, k ≠ 1 → (k < 4 ∨ 19 < k) → c2 k = c k) ∧ (∀ i j, (j < 2 ∨ 6 < j) → c2 1 i j = c 1 i j) ∧ ∀ k i j, (((k = 4 ∨ k = 5 ∨ k = 6 ∨ k = 9 ∨ k = 17) ∧ i = x) ∨ ((k = 8 ∨ k = 11) ∧ i / 6 = x) ∨ (k = 13 ∧ i / 16 = x) ∨ ((k = 18 ∨ k = 19) ∧ i / 7 = x) ∨ (k = 16 ∧ i / 8 = x)) → c2 k i j = c k i j
/-- what of a draft is in use -/
def CU (c c2 : Nat → Nat → Nat → Int32) (q : Nat) (K : Ct) : Prop := (∀ j, 9 ≤ j → j ≤ 15 → c2 4 q j = c 4 q j) ∧ (∀ w, w < nW K → c2 5 q w = c 5 q w ∧ c2 6 q w = c 6 q w) ∧ (∀ i, i < nL K → c2 9 q i = c 9 q i ∧ ∀ k, c2 8 (i + q * 6) k = c 8 (i + q * 6) k ∧ c2 11 (i + q * 6) k = c 11 (i + q * 6) k) ∧ (∀ f, f < nF K → ∀ k, c2 13 (f + q * 16) k = c 13 (f + q * 16) k) ∧ (∀ b, b < nB K → ∀ k, c2 18 (b + q * 7) k = c 18 (b + q * 7) k ∧ c2 19 (b + q * 7) k = c 19 (b + q * 7) k) ∧ (∀ i, i < nC K → c2 17 q i = c 17 q i ∧ ∀ k, c2 16 (i + q * 8) k = c 16 (i + q * 8) k)
def endL (K : Ct) (r : Option (List Nat) × Tz) : Ct × Tz := match r.1 with
  | some sl => if 0 ∈ sl ∧ 1 ∈ sl then (addL K sl, r.2) else (K, flZ 1 r.2.1.1 r.2)
  | none => (K, r.2)
section
variable {c : Nat → Nat → Nat → Int32} {l : Nat → Nat → Int64} {x y : Nat} {tp : Nat → Nat} {n : Nat} {z : Tz} {K : Ct}
theorem FD.refl (c : Nat → Nat → Nat → Int32) (x : Nat) : FD c c x := ⟨fun _ _ _ => rfl, fun _ _ _ => rfl, fun _ _ _ _ => rfl⟩
theorem FD.tr {c1 c2 c3 : Nat → Nat → Nat → Int32} (h : FD c1 c2 x) (g : FD c2 c3 x) : FD c1 c3 x := ⟨fun k h1 h2 => (g.1 k h1 h2).trans (h.1 k h1 h2), fun i j hj => (g.2.1 i j hj).trans (h.2.1 i j hj), fun k i j hk => (g.2.2 k i j hk).trans (h.2.2 k i j hk)⟩
theorem FD_FZ {c2 : Nat → Nat → Nat → Int32} (h : FZ c c2) (x : Nat) : FD c c2 x := ⟨fun k h1 _ => h.1 k h1, h.2, fun k i j hk => by rw [h.1 k (by omega)]⟩
theorem FD.ui (k i j : Nat) (v : Int32) (h : ((k = 4 ∨ k = 5 ∨ k = 6 ∨ k = 9 ∨ k = 17) ∧ i ≠ x) ∨ ((k = 8 ∨ k = 11) ∧ i / 6 ≠ x) ∨ (k = 13 ∧ i / 16 ≠ x) ∨ ((k = 18 ∨ k = 19) ∧ i / 7 ≠ x) ∨ (k = 16 ∧ i / 8 ≠ x)) : FD c (am_ui c k i j v) x := by
  refine ⟨fun k2 h1 h2 => ui_nk _ _ _ _ (by omega), fun i2 j2 hj => ui_ne _ _ _ _ (by omega), fun k2 i2 j2 hk => ui_ne _ _ _ _ ?_⟩
  by_cases e1 : k2 = k
  · by_cases e2 : i2 = i
    · subst e1 e2; omega
    · exact Or.inr (Or.inl e2)
  · exact Or.inl e1
theorem FD_CR {c2 : Nat → Nat → Nat → Int32} {Kx : Ct} (h : FD c c2 x) (hK : VK Kx) (g : CR c x Kx) : CR c2 x Kx := by
  obtain ⟨g1, g2, g3, g4, g5, g6⟩ := g
  have h4 : ∀ j, c2 4 x j = c 4 x j := fun j => h.2.2 4 x j (by omega)
  refine ⟨⟨by rw [h4]; exact g1.1, fun w hw => ?_⟩, ⟨by rw [h4]; exact g2.1, fun i hi => ?_⟩, ⟨by rw [h4]; exact g3.1, fun f hf => ?_⟩, ⟨by rw [h4]; exact g4.1, fun b hb => ?_⟩, ⟨by rw [h4]; exact g5.1, fun i hi => ?_⟩, ?_⟩
  · rw [h.2.2 6 x w (by omega), h.2.2 5 x w (by omega)]; exact g1.2 w hw
  · have := hK.2.1.1
    have hg := g2.2 i hi
    refine ⟨by rw [h.2.2 9 x i (by omega)]; exact hg.1, fun k hk => by rw [h.2.2 8 _ k (by omega)]; exact hg.2.1 k hk, fun s hs => by rw [h.2.2 11 _ s (by omega)]; exact hg.2.2 s hs⟩
  · have := hK.2.2.1.1
    rw [h.2.2 13 _ 0 (by omega), h.2.2 13 _ 1 (by omega), h.2.2 13 _ 2 (by omega)]
    exact g3.2 f hf
  · have := hK.2.2.2.1.1
    have hg := g4.2 b hb
    rw [h.2.2 18 _ 1 (by omega), h.2.2 18 _ 2 (by omega), h.2.2 18 _ 3 (by omega), h.2.2 18 _ 4 (by omega)]
    exact ⟨hg.1, hg.2.1, hg.2.2.1, hg.2.2.2.1, fun k hk => by rw [h.2.2 19 _ k (by omega)]; exact hg.2.2.2.2 k hk⟩
  · have := hK.2.2.2.2.1.1
    have hg := g5.2 i hi
    exact ⟨by rw [h.2.2 17 x i (by omega)]; exact hg.1, fun k hk => by rw [h.2.2 16 _ k (by omega)]; exact hg.2 k hk⟩
  · rw [h4, h4]; exact g6
theorem CU.refl (c : Nat → Nat → Nat → Int32) (q : Nat) (K : Ct) : CU c c q K := ⟨fun _ _ _ => rfl, fun _ _ => ⟨rfl, rfl⟩, fun _ _ => ⟨rfl, fun _ => ⟨rfl, rfl⟩⟩, fun _ _ _ => rfl, fun _ _ _ => ⟨rfl, rfl⟩, fun _ _ => ⟨rfl, fun _ => rfl⟩⟩
theorem CU.tr {c1 c2 c3 : Nat → Nat → Nat → Int32} {q : Nat} (h : CU c1 c2 q K) (g : CU c2 c3 q K) : CU c1 c3 q K := ⟨fun j h1 h2 => (g.1 j h1 h2).trans (h.1 j h1 h2), fun w hw => ⟨(g.2.1 w hw).1.trans (h.2.1 w hw).1, (g.2.1 w hw).2.trans (h.2.1 w hw).2⟩, fun i hi => ⟨(g.2.2.1 i hi).1.trans (h.2.2.1 i hi).1, fun k => ⟨((g.2.2.1 i hi).2 k).1.trans ((h.2.2.1 i hi).2 k).1, ((g.2.2.1 i hi).2 k).2.trans ((h.2.2.1 i hi).2 k).2⟩⟩, fun f hf k => (g.2.2.2.1 f hf k).trans (h.2.2.2.1 f hf k), fun b hb k => ⟨(g.2.2.2.2.1 b hb k).1.trans (h.2.2.2.2.1 b hb k).1, (g.2.2.2.2.1 b hb k).2.trans (h.2.2.2.2.1 b hb k).2⟩, fun i hi => ⟨(g.2.2.2.2.2 i hi).1.trans (h.2.2.2.2.2 i hi).1, fun k => ((g.2.2.2.2.2 i hi).2 k).trans ((h.2.2.2.2.2 i hi).2 k)⟩⟩
theorem CU_FZ {c2 : Nat → Nat → Nat → Int32} (h : FZ c c2) (q : Nat) (K : Ct) : CU c c2 q K := by
  refine ⟨fun j _ _ => by rw [h.1 4 (by omega)], fun w _ => ⟨by rw [h.1 5 (by omega)], by rw [h.1 6 (by omega)]⟩, fun i _ => ⟨by rw [h.1 9 (by omega)], fun k => ⟨by rw [h.1 8 (by omega)], by rw [h.1 11 (by omega)]⟩⟩, fun f _ k => by rw [h.1 13 (by omega)], fun b _ k => ⟨by rw [h.1 18 (by omega)], by rw [h.1 19 (by omega)]⟩, fun i _ => ⟨by rw [h.1 17 (by omega)], fun k => by rw [h.1 16 (by omega)]⟩⟩
theorem CU.ui (k i j : Nat) (v : Int32) {q : Nat} (h : ((k = 5 ∨ k = 6) ∧ nW K ≤ j) ∨ ((k = 8 ∨ k = 11) ∧ nL K + q * 6 ≤ i) ∨ (k = 9 ∧ nL K ≤ j) ∨ (k = 13 ∧ nF K + q * 16 ≤ i) ∨ ((k = 18 ∨ k = 19) ∧ nB K + q * 7 ≤ i) ∨ (k = 16 ∧ nC K + q * 8 ≤ i) ∨ (k = 17 ∧ nC K ≤ j)) : CU c (am_ui c k i j v) q K := by
  refine ⟨fun j2 _ _ => ui_ne _ _ _ _ (by omega), fun w hw => ⟨ui_ne _ _ _ _ (by omega), ui_ne _ _ _ _ (by omega)⟩, fun i2 hi => ⟨ui_ne _ _ _ _ (by omega), fun k2 => ⟨ui_ne _ _ _ _ (by omega), ui_ne _ _ _ _ (by omega)⟩⟩, fun f hf k2 => ui_ne _ _ _ _ (by omega), fun b hb k2 => ⟨ui_ne _ _ _ _ (by omega), ui_ne _ _ _ _ (by omega)⟩, fun i2 hi => ⟨ui_ne _ _ _ _ (by omega), fun k2 => ui_ne _ _ _ _ (by omega)⟩⟩
theorem CU_CR {c2 : Nat → Nat → Nat → Int32} {q : Nat} (h : CU c c2 q K) (g : CR c q K) : CR c2 q K := by
  obtain ⟨g1, g2, g3, g4, g5, g6⟩ := g
  obtain ⟨h0, h1, h2, h3, h4, h5⟩ := h
  refine ⟨⟨by rw [h0 9 (by omega) (by omega)]; exact g1.1, fun w hw => ?_⟩, ⟨by rw [h0 10 (by omega) (by omega)]; exact g2.1, fun i hi => ?_⟩, ⟨by rw [h0 11 (by omega) (by omega)]; exact g3.1, fun f hf => ?_⟩, ⟨by rw [h0 12 (by omega) (by omega)]; exact g4.1, fun b hb => ?_⟩, ⟨by rw [h0 13 (by omega) (by omega)]; exact g5.1, fun i hi => ?_⟩, ?_⟩
  · rw [(h1 w hw).1, (h1 w hw).2]; exact g1.2 w hw
  · have hg := g2.2 i hi
    exact ⟨by rw [(h2 i hi).1]; exact hg.1, fun k hk => by rw [((h2 i hi).2 k).1]; exact hg.2.1 k hk, fun s hs => by rw [((h2 i hi).2 s).2]; exact hg.2.2 s hs⟩
  · rw [h3 f hf 0, h3 f hf 1, h3 f hf 2]; exact g3.2 f hf
  · have hg := g4.2 b hb
    rw [(h4 b hb 1).1, (h4 b hb 2).1, (h4 b hb 3).1, (h4 b hb 4).1]
    exact ⟨hg.1, hg.2.1, hg.2.2.1, hg.2.2.2.1, fun k hk => by rw [(h4 b hb k).2]; exact hg.2.2.2.2 k hk⟩
  · have hg := g5.2 i hi
    exact ⟨by rw [(h5 i hi).1]; exact hg.1, fun k hk => by rw [(h5 i hi).2 k]; exact hg.2 k hk⟩
  · rw [h0 14 (by omega) (by omega), h0 15 (by omega) (by omega)]; exact g6
/-! one more of a kind stands in the draft -/
theorem CR_addW {c2 : Nat → Nat → Nat → Int32} {q k : Nat} {s : List Nat} (g : CR c q K) (h : CU c c2 q K) (h5 : c2 5 q (nW K) = iv (e5 s : Nat)) (h6 : c2 6 q (nW K) = iv (k : Nat)) : CR (am_ui c2 4 q 9 (iv ((nW K : Int) + 1))) q (addW K s k) := by
  obtain ⟨g1, g2⟩ := CU_CR h g
  have hn := nW_add (K := K) s k
  have hf : ∀ k2, k2 ≠ 4 → am_ui c2 4 q 9 (iv ((nW K : Int) + 1)) k2 = c2 k2 := fun k2 hk => ui_nk _ _ _ _ hk
  have h4 : ∀ j, j ≠ 9 → am_ui c2 4 q 9 (iv ((nW K : Int) + 1)) 4 q j = c2 4 q j := fun j hj => ui_ne _ _ _ _ (by omega)
  refine ⟨⟨?_, fun w hw => ?_⟩, ?_⟩
  · rw [ui_self, hn]; rfl
  · have e : (addW K s k).1.getD w ([], 5) = if w < nW K then K.1.getD w ([], 5) else if w = nW K then (s, k) else ([], 5) := getD_snoc K.1 (s, k) ([], 5) w
    rw [hf 6 (by omega), hf 5 (by omega)]
    unfold spK knd
    rw [e]
    by_cases hl : w < nW K
    · rw [if_pos hl]; exact g1.2 w hl
    · rw [if_neg hl, if_pos (by omega), show w = nW K by omega]; exact ⟨h6, h5⟩
  · rw [hf 8 (by omega), hf 9 (by omega), hf 11 (by omega), hf 13 (by omega), hf 16 (by omega), hf 17 (by omega), hf 18 (by omega), hf 19 (by omega), h4 10 (by omega), h4 11 (by omega), h4 12 (by omega), h4 13 (by omega), h4 14 (by omega), h4 15 (by omega)]
    exact g2
theorem CR_addL {c2 : Nat → Nat → Nat → Int32} {q : Nat} {sl : List Nat} (g : CR c q K) (h : CU c c2 q K) (h9 : c2 9 q (nL K) = iv (sl.length : Nat)) (h8 : ∀ k, k < sl.length → c2 8 (nL K + q * 6) k = iv (sl.getD k 0 : Nat)) (h11 : ∀ s, s < 3 → c2 11 (nL K + q * 6) s = iv (oi (sl.idxOf? s))) : CR (am_ui c2 4 q 10 (iv ((nL K : Int) + 1))) q (addL K sl) := by
  obtain ⟨g1, g2, g3⟩ := CU_CR h g
  have hn : nL (addL K sl) = nL K + 1 := by unfold nL addL; simp
  have hf : ∀ k2, k2 ≠ 4 → am_ui c2 4 q 10 (iv ((nL K : Int) + 1)) k2 = c2 k2 := fun k2 hk => ui_nk _ _ _ _ hk
  have h4 : ∀ j, j ≠ 10 → am_ui c2 4 q 10 (iv ((nL K : Int) + 1)) 4 q j = c2 4 q j := fun j hj => ui_ne _ _ _ _ (by omega)
  refine ⟨?_, ⟨?_, fun i hi => ?_⟩, ?_⟩
  · rw [hf 5 (by omega), hf 6 (by omega), h4 9 (by omega)]; exact g1
  · rw [ui_self, hn]; rfl
  · have e : (addL K sl).2.1.getD i [] = if i < nL K then K.2.1.getD i [] else if i = nL K then sl else [] := getD_snoc K.2.1 sl [] i
    rw [hf 8 (by omega), hf 9 (by omega), hf 11 (by omega)]
    unfold lnK
    rw [e]
    by_cases hl : i < nL K
    · rw [if_pos hl]; exact g2.2 i hl
    · rw [if_neg hl, if_pos (by omega), show i = nL K by omega]; exact ⟨h9, h8, h11⟩
  · rw [hf 13 (by omega), hf 16 (by omega), hf 17 (by omega), hf 18 (by omega), hf 19 (by omega), h4 11 (by omega), h4 12 (by omega), h4 13 (by omega), h4 14 (by omega), h4 15 (by omega)]
    exact g3
theorem CR_addF {c2 : Nat → Nat → Nat → Int32} {q : Nat} {f : Int × Int × Int} (g : CR c q K) (h : CU c c2 q K) (h13 : c2 13 (nF K + q * 16) 0 = iv f.1 ∧ c2 13 (nF K + q * 16) 1 = iv f.2.1 ∧ c2 13 (nF K + q * 16) 2 = iv f.2.2) : CR (am_ui c2 4 q 11 (iv ((nF K : Int) + 1))) q (addF K f) := by
  obtain ⟨g1, g2, g3, g4⟩ := CU_CR h g
  have hn : nF (addF K f) = nF K + 1 := by unfold nF addF; simp
  have hf : ∀ k2, k2 ≠ 4 → am_ui c2 4 q 11 (iv ((nF K : Int) + 1)) k2 = c2 k2 := fun k2 hk => ui_nk _ _ _ _ hk
  have h4 : ∀ j, j ≠ 11 → am_ui c2 4 q 11 (iv ((nF K : Int) + 1)) 4 q j = c2 4 q j := fun j hj => ui_ne _ _ _ _ (by omega)
  refine ⟨?_, ?_, ⟨?_, fun i hi => ?_⟩, ?_⟩
  · rw [hf 5 (by omega), hf 6 (by omega), h4 9 (by omega)]; exact g1
  · rw [hf 8 (by omega), hf 9 (by omega), hf 11 (by omega), h4 10 (by omega)]; exact g2
  · rw [ui_self, hn]; rfl
  · have e : (addF K f).2.2.1.getD i (0, 0, 0) = if i < nF K then K.2.2.1.getD i (0, 0, 0) else if i = nF K then f else (0, 0, 0) := getD_snoc K.2.2.1 f (0, 0, 0) i
    rw [hf 13 (by omega)]
    unfold fcK
    rw [e]
    by_cases hl : i < nF K
    · rw [if_pos hl]; exact g3.2 i hl
    · rw [if_neg hl, if_pos (by omega), show i = nF K by omega]; exact h13
  · rw [hf 16 (by omega), hf 17 (by omega), hf 18 (by omega), hf 19 (by omega), h4 12 (by omega), h4 13 (by omega), h4 14 (by omega), h4 15 (by omega)]
    exact g4
theorem CR_addB {c2 : Nat → Nat → Nat → Int32} {q : Nat} {b : List Nat × Nat × Nat × List Nat} (g : CR c q K) (h : CU c c2 q K) (h18 : c2 18 (nB K + q * 7) 1 = iv (b.2.2.2.length : Nat) ∧ c2 18 (nB K + q * 7) 2 = iv (e5 b.1 : Nat) ∧ c2 18 (nB K + q * 7) 3 = iv (b.2.1 : Nat) ∧ c2 18 (nB K + q * 7) 4 = iv (b.2.2.1 : Nat) ∧ ∀ k, k < b.2.2.2.length → c2 19 (nB K + q * 7) k = iv (b.2.2.2.getD k 0 : Nat)) : CR (am_ui c2 4 q 12 (iv ((nB K : Int) + 1))) q (addB K b) := by
  obtain ⟨g1, g2, g3, g4, g5⟩ := CU_CR h g
  have hn : nB (addB K b) = nB K + 1 := by unfold nB addB; simp
  have hf : ∀ k2, k2 ≠ 4 → am_ui c2 4 q 12 (iv ((nB K : Int) + 1)) k2 = c2 k2 := fun k2 hk => ui_nk _ _ _ _ hk
  have h4 : ∀ j, j ≠ 12 → am_ui c2 4 q 12 (iv ((nB K : Int) + 1)) 4 q j = c2 4 q j := fun j hj => ui_ne _ _ _ _ (by omega)
  refine ⟨?_, ?_, ?_, ⟨?_, fun i hi => ?_⟩, ?_⟩
  · rw [hf 5 (by omega), hf 6 (by omega), h4 9 (by omega)]; exact g1
  · rw [hf 8 (by omega), hf 9 (by omega), hf 11 (by omega), h4 10 (by omega)]; exact g2
  · rw [hf 13 (by omega), h4 11 (by omega)]; exact g3
  · rw [ui_self, hn]; rfl
  · have e : (addB K b).2.2.2.1.getD i ([], 0, 0, []) = if i < nB K then K.2.2.2.1.getD i ([], 0, 0, []) else if i = nB K then b else ([], 0, 0, []) := getD_snoc K.2.2.2.1 b ([], 0, 0, []) i
    rw [hf 18 (by omega), hf 19 (by omega)]
    unfold sayK bnK
    rw [e]
    by_cases hl : i < nB K
    · rw [if_pos hl]; exact g4.2 i hl
    · rw [if_neg hl, if_pos (by omega), show i = nB K by omega]; exact h18
  · rw [hf 16 (by omega), hf 17 (by omega), h4 13 (by omega), h4 14 (by omega), h4 15 (by omega)]
    exact g5
theorem CR_addC {c2 : Nat → Nat → Nat → Int32} {q : Nat} {ws : List Nat} (g : CR c q K) (h : CU c c2 q K) (h17 : c2 17 q (nC K) = iv (ws.length : Nat)) (h16 : ∀ k, k < ws.length → c2 16 (nC K + q * 8) k = iv (ws.getD k 0 : Nat)) : CR (am_ui c2 4 q 13 (iv ((nC K : Int) + 1))) q (addC K ws) := by
  obtain ⟨g1, g2, g3, g4, g5, g6⟩ := CU_CR h g
  have hn : nC (addC K ws) = nC K + 1 := by unfold nC addC; simp
  have hf : ∀ k2, k2 ≠ 4 → am_ui c2 4 q 13 (iv ((nC K : Int) + 1)) k2 = c2 k2 := fun k2 hk => ui_nk _ _ _ _ hk
  have h4 : ∀ j, j ≠ 13 → am_ui c2 4 q 13 (iv ((nC K : Int) + 1)) 4 q j = c2 4 q j := fun j hj => ui_ne _ _ _ _ (by omega)
  refine ⟨?_, ?_, ?_, ?_, ⟨?_, fun i hi => ?_⟩, ?_⟩
  · rw [hf 5 (by omega), hf 6 (by omega), h4 9 (by omega)]; exact g1
  · rw [hf 8 (by omega), hf 9 (by omega), hf 11 (by omega), h4 10 (by omega)]; exact g2
  · rw [hf 13 (by omega), h4 11 (by omega)]; exact g3
  · rw [hf 18 (by omega), hf 19 (by omega), h4 12 (by omega)]; exact g4
  · rw [ui_self, hn]; rfl
  · have e : (addC K ws).2.2.2.2.1.getD i [] = if i < nC K then K.2.2.2.2.1.getD i [] else if i = nC K then ws else [] := getD_snoc K.2.2.2.2.1 ws [] i
    rw [hf 16 (by omega), hf 17 (by omega)]
    unfold csK
    rw [e]
    by_cases hl : i < nC K
    · rw [if_pos hl]; exact g5.2 i hl
    · rw [if_neg hl, if_pos (by omega), show i = nC K by omega]; exact ⟨h17, h16⟩
  · rw [h4 14 (by omega), h4 15 (by omega)]; exact g6
theorem CR_setA {q : Nat} {a b : Int} (g : CR c q K) : CR (am_ui (am_ui c 4 q 14 (iv a)) 4 q 15 (iv b)) q (setA K a b) := by
  obtain ⟨g1, g2, g3, g4, g5, g6⟩ := g
  have hf : ∀ k2, k2 ≠ 4 → am_ui (am_ui c 4 q 14 (iv a)) 4 q 15 (iv b) k2 = c k2 := fun k2 hk => by rw [ui_nk _ _ _ _ hk, ui_nk _ _ _ _ hk]
  have h4 : ∀ j, j ≠ 14 → j ≠ 15 → am_ui (am_ui c 4 q 14 (iv a)) 4 q 15 (iv b) 4 q j = c 4 q j := fun j h1 h2 => by rw [ui_ne _ _ _ _ (by omega), ui_ne _ _ _ _ (by omega)]
  refine ⟨?_, ?_, ?_, ?_, ?_, ?_, ?_⟩
  · rw [hf 5 (by omega), hf 6 (by omega), h4 9 (by omega) (by omega)]; exact g1
  · rw [hf 8 (by omega), hf 9 (by omega), hf 11 (by omega), h4 10 (by omega) (by omega)]; exact g2
  · rw [hf 13 (by omega), h4 11 (by omega) (by omega)]; exact g3
  · rw [hf 18 (by omega), hf 19 (by omega), h4 12 (by omega) (by omega)]; exact g4
  · rw [hf 16 (by omega), hf 17 (by omega), h4 13 (by omega) (by omega)]; exact g5
  · rw [ui_ne _ _ _ _ (by omega), ui_self]; rfl
  · rw [ui_self]; rfl
theorem CZ_FD {c2 : Nat → Nat → Nat → Int32} (h : CZ c tp n z) (h1 : c2 1 = c 1) (h2 : c2 2 = c 2) : CZ c2 tp n z := by
  unfold CZ TC TSt FTf at h ⊢
  rw [h1, h2]
  exact h
theorem rwZ_eq (o : Nat) : rwZ tp n o K z = if 20 ≤ nW K then (K, flZ 5 z.1.1 z) else ((match (nsZ tp n K (avZ tp n z)).1 with
    | some s => addW K s o
    | none => K), (nsZ tp n K (avZ tp n z)).2) := by
  unfold rwZ
  split
  · rfl
  · cases nsZ tp n K (avZ tp n z) with
    | mk q z1 => cases q <;> rfl
theorem rlZ_eq : rlZ tp n K z = if 6 ≤ nL K then (K, flZ 5 z.1.1 z) else endL K (slZ tp n 3 [] (avZ tp n z)) := by
  unfold rlZ endL
  split
  · rfl
  · cases slZ tp n 3 [] (avZ tp n z) with
    | mk q z1 => cases q <;> rfl
theorem k26 (hxy : x < 2 ∧ y < 2 ∧ x ≠ y) (h : CZ c tp n z) (hn : n ≤ 1600) (ht : ∀ i, tp i < 256) (hC : CR c y K) (hK : VK K) {o : Nat} (ho : o ≤ 5) (d : Nat) : ∃ c2 : Nat → Nat → Nat → Int32, E (d + 4) 26 [vr 3 0, vi (iv (o : Nat))] (c, l, x, y) = some (none, c2, l, x, y) ∧ CZ c2 tp n (rwZ tp n o K z).2 ∧ CR c2 y (rwZ tp n o K z).1 ∧ FD c c2 x := by
  have h20 := hK.1.1
  obtain ⟨c1, g1, g2, g3⟩ := k27 (l := l) (x := x) (y := y) h hn ht (a := nW K) (m := 20) (by omega) (by omega) d
  have g1 : E (d + 3) 27 [vr 3 0, vi (iv (nW K : Nat)), vi (iv 20)] (c, l, x, y) = _ := g1
  rw [rwZ_eq, q_26, hC.1.1, show (20 : Int32) = iv 20 from rfl, g1]
  simp only [am_bi_v]
  by_cases e : 20 ≤ nW K
  · rw [if_pos e, if_pos (show iv 0 = 0 from rfl), if_pos e]
    rw [if_pos e] at g2
    exact ⟨c1, rfl, g2, CR_FZ g3 hC, FD_FZ g3 x⟩
  · rw [if_neg e, if_neg (by decide), if_neg e]
    rw [if_neg e] at g2
    have hC1 := CR_FZ g3 hC
    obtain ⟨c2, v, k1, k2, k3, k4⟩ := e28 (l := l) (x := x) (y := y) g2 hn ht hC1 hK d
    have hf := flt_iff k2
    rw [k1]
    simp only [am_bi_v, iv_L, hf]
    have hC2 := CR_FZ k3 hC1
    cases hs : (nsZ tp n K (avZ tp n z)).1 with
    | none =>
      have hn2 := nsZ_none hs
      have hne : ¬ (nsZ tp n K (avZ tp n z)).2.2 = none := fun q => by rw [q] at hn2; cases hn2
      rw [if_neg hne]
      exact ⟨c2, rfl, k2, hC2, FD_FZ (g3.tr k3) x⟩
    | some s =>
      have h0 := nsZ_some hs
      have hz : (nsZ tp n K (avZ tp n z)).2.2 = none := by rw [h0.2.2.1]; exact h0.2.2.2
      have hv := k4 s hs
      rw [if_pos hz]
      simp (disch := omega) only [iv_add, iv_sub, iv_mul, iv_neg, iv_lt, iv_le, iv_eq, iv_nat, iv_L, iv_L2, am_bi_v, am_bv_v, am_bl_v, if_pos, if_neg, Int.toNat_natCast, Int.toNat_add, Int.toNat_mul, Int.reduceToNat, hC2.1.1]
      subst hv
      refine ⟨_, rfl, ?_, ?_, ?_⟩
      · exact CZ_FD k2 (by rw [ui_nk _ _ _ _ (by omega), ui_nk _ _ _ _ (by omega), ui_nk _ _ _ _ (by omega)]) (by rw [ui_nk _ _ _ _ (by omega), ui_nk _ _ _ _ (by omega), ui_nk _ _ _ _ (by omega)])
      · refine CR_addW hC2 ((CU.ui _ _ _ _ (by omega)).tr (CU.ui _ _ _ _ (by omega))) ?_ ?_
        · rw [ui_nk _ _ _ _ (by omega), ui_self]
        · rw [ui_self]
      · exact (FD_FZ (g3.tr k3) x).tr (((FD.ui _ _ _ _ (by omega)).tr (FD.ui _ _ _ _ (by omega))).tr (FD.ui _ _ _ _ (by omega)))
theorem idx_step : ∀ sl ∈ slotLists, ∀ k, k < sl.length → ∀ s, s < 3 → (sl.take (k + 1)).idxOf? s = if s = sl.getD k 0 then some k else (sl.take k).idxOf? s := by decide
theorem sl_lt3 : ∀ sl ∈ slotLists, ∀ k, k < sl.length → sl.getD k 0 < 3 := by decide
theorem k15 (hxy : x < 2 ∧ y < 2 ∧ x ≠ y) (hC : CR c y K) (h6 : nL K < 6) {sl : List Nat} (hs : sl ∈ slotLists) (h8 : ∀ k, k < sl.length → c 8 (nL K + y * 6) k = iv (sl.getD k 0 : Nat)) (d : Nat) : ∃ c2 : Nat → Nat → Nat → Int32, E (d + 1) 15 [vr 4 y, vi (iv (sl.length : Nat))] (c, l, x, y) = some (none, c2, l, x, y) ∧ CR c2 y (addL K sl) ∧ FD c c2 x ∧ c2 1 = c 1 ∧ c2 2 = c 2 := by
  have hlen := sl_len sl hs
  have k31 : ∀ (m k : Nat) (c2 : Nat → Nat → Nat → Int32), k + m = sl.length → CU c c2 y K → FD c c2 x → (c2 1 = c 1 ∧ c2 2 = c 2 ∧ c2 8 = c 8 ∧ c2 4 = c 4) → c2 9 y (nL K) = iv (sl.length : Nat) → (∀ s, s < 3 → c2 11 (nL K + y * 6) s = iv (oi ((sl.take k).idxOf? s))) → ∃ c3 : Nat → Nat → Nat → Int32, X (d + 1) 15 31 [some (vr 4 y), some (vi (iv (sl.length : Nat))), some (vi (iv (k : Nat)))] [] (c2, l, x, y) = some (none, c3, l, x, y) ∧ CR c3 y (addL K sl) ∧ FD c c3 x ∧ c3 1 = c 1 ∧ c3 2 = c 2 := by
    intro m
    induction m with
    | zero =>
      intro k c2 hk hu hd hc h9 h11
      refine ⟨am_ui c2 4 y 10 (iv ((nL K : Int) + 1)), ?_, ?_, hd.tr (FD.ui _ _ _ _ (by omega)), by rw [ui_nk _ _ _ _ (by omega)]; exact hc.1, by rw [ui_nk _ _ _ _ (by omega)]; exact hc.2.1⟩
      · rw [q_15_31, hc.2.2.2, hC.2.1.1]
        simp (disch := omega) only [iv_add, iv_sub, iv_mul, iv_neg, iv_lt, iv_le, iv_eq, iv_nat, iv_L, iv_L2, am_bi_v, am_bv_v, am_bl_v, if_pos, if_neg, Int.toNat_natCast, Int.toNat_add, Int.toNat_mul, Int.reduceToNat]
      · rw [List.take_of_length_le (by omega)] at h11
        exact CR_addL hC hu h9 (fun k hk => by rw [hc.2.2.1]; exact h8 k hk) h11
    | succ m ih =>
      intro k c2 hk hu hd hc h9 h11
      have hkl : k < sl.length := by omega
      have h3 := sl_lt3 sl hs k hkl
      obtain ⟨c3, g1, g2⟩ := ih (k + 1) (am_ui c2 11 (nL K + y * 6) (sl.getD k 0) (iv (k : Nat))) (by omega) (hu.tr (CU.ui _ _ _ _ (by omega))) (hd.tr (FD.ui _ _ _ _ (by omega))) ⟨by rw [ui_nk _ _ _ _ (by omega)]; exact hc.1, by rw [ui_nk _ _ _ _ (by omega)]; exact hc.2.1, by rw [ui_nk _ _ _ _ (by omega)]; exact hc.2.2.1, by rw [ui_nk _ _ _ _ (by omega)]; exact hc.2.2.2⟩ (by rw [ui_nk _ _ _ _ (by omega)]; exact h9) (fun s hs3 => by
        rw [idx_step sl hs k hkl s hs3]
        by_cases e : s = sl.getD k 0
        · rw [if_pos e, e, ui_self]; rfl
        · rw [if_neg e, ui_ne _ _ _ _ (by omega)]; exact h11 s hs3)
      refine ⟨c3, ?_, g2⟩
      have hcell : c2 8 (nL K + y * 6) k = iv (sl.getD k 0 : Nat) := by rw [hc.2.2.1]; exact h8 k hkl
      rw [q_15_31, hc.2.2.2, hC.2.1.1]
      simp (disch := omega) only [iv_add, iv_sub, iv_mul, iv_neg, iv_lt, iv_le, iv_eq, iv_nat, iv_L, iv_L2, am_bi_v, am_bv_v, am_bl_v, if_pos, if_neg, Int.toNat_natCast, Int.toNat_add, Int.toNat_mul, Int.reduceToNat, hcell]
      exact g1
  have h0 : ∀ c2 : Nat → Nat → Nat → Int32, c2 4 = c 4 → X (d + 1) 15 16 [some (vr 4 y), some (vi (iv (sl.length : Nat))), some (vi (iv 0))] [] (c2, l, x, y) = X (d + 1) 15 31 [some (vr 4 y), some (vi (iv (sl.length : Nat))), some (vi (iv ((0 : Nat) : Int)))] [] (am_ui (am_ui (am_ui c2 11 (nL K + y * 6) 0 (iv (-1))) 11 (nL K + y * 6) 1 (iv (-1))) 11 (nL K + y * 6) 2 (iv (-1)), l, x, y) := by
    intro c2 h4
    rw [q_15_16, h4, hC.2.1.1]
    simp (disch := omega) only [iv_add, iv_sub, iv_mul, iv_neg, iv_lt, iv_le, iv_eq, iv_nat, iv_L, iv_L2, am_bi_v, am_bv_v, am_bl_v, if_pos, if_neg, Int.toNat_natCast, Int.toNat_add, Int.toNat_mul, Int.reduceToNat, iv_neg]
    rw [q_15_16, ui_nk _ _ _ _ (show (4 : Nat) ≠ 11 by decide), h4, hC.2.1.1]
    simp (disch := omega) only [iv_add, iv_sub, iv_mul, iv_neg, iv_lt, iv_le, iv_eq, iv_nat, iv_L, iv_L2, am_bi_v, am_bv_v, am_bl_v, if_pos, if_neg, Int.toNat_natCast, Int.toNat_add, Int.toNat_mul, Int.reduceToNat, iv_neg]
    rw [q_15_16, ui_nk _ _ _ _ (show (4 : Nat) ≠ 11 by decide), ui_nk _ _ _ _ (show (4 : Nat) ≠ 11 by decide), h4, hC.2.1.1]
    simp (disch := omega) only [iv_add, iv_sub, iv_mul, iv_neg, iv_lt, iv_le, iv_eq, iv_nat, iv_L, iv_L2, am_bi_v, am_bv_v, am_bl_v, if_pos, if_neg, Int.toNat_natCast, Int.toNat_add, Int.toNat_mul, Int.reduceToNat, iv_neg]
    rw [q_15_16]
    simp (disch := omega) only [iv_add, iv_sub, iv_mul, iv_neg, iv_lt, iv_le, iv_eq, iv_nat, iv_L, iv_L2, am_bi_v, am_bv_v, am_bl_v, if_pos, if_neg, Int.toNat_natCast, Int.toNat_add, Int.toNat_mul, Int.reduceToNat, iv_neg]
    rfl
  have hc9 : am_ui c 9 y (nL K) (iv (sl.length : Nat)) 4 = c 4 := ui_nk _ _ _ _ (by omega)
  obtain ⟨c3, g1, g2⟩ := k31 sl.length 0 (am_ui (am_ui (am_ui (am_ui c 9 y (nL K) (iv (sl.length : Nat))) 11 (nL K + y * 6) 0 (iv (-1))) 11 (nL K + y * 6) 1 (iv (-1))) 11 (nL K + y * 6) 2 (iv (-1))) (by omega) ((((CU.ui _ _ _ _ (by omega)).tr (CU.ui _ _ _ _ (by omega))).tr (CU.ui _ _ _ _ (by omega))).tr (CU.ui _ _ _ _ (by omega))) ((((FD.ui _ _ _ _ (by omega)).tr (FD.ui _ _ _ _ (by omega))).tr (FD.ui _ _ _ _ (by omega))).tr (FD.ui _ _ _ _ (by omega))) ⟨by rw [ui_nk _ _ _ _ (by omega), ui_nk _ _ _ _ (by omega), ui_nk _ _ _ _ (by omega), ui_nk _ _ _ _ (by omega)], by rw [ui_nk _ _ _ _ (by omega), ui_nk _ _ _ _ (by omega), ui_nk _ _ _ _ (by omega), ui_nk _ _ _ _ (by omega)], by rw [ui_nk _ _ _ _ (by omega), ui_nk _ _ _ _ (by omega), ui_nk _ _ _ _ (by omega), ui_nk _ _ _ _ (by omega)], by rw [ui_nk _ _ _ _ (by omega), ui_nk _ _ _ _ (by omega), ui_nk _ _ _ _ (by omega), ui_nk _ _ _ _ (by omega)]⟩ (by rw [ui_nk _ _ _ _ (by omega), ui_nk _ _ _ _ (by omega), ui_nk _ _ _ _ (by omega), ui_self]) (fun s hs3 => by
    have e : oi ((sl.take 0).idxOf? s) = -1 := rfl
    rw [e]
    rcases (show s = 0 ∨ s = 1 ∨ s = 2 by omega) with rfl | rfl | rfl
    · rw [ui_ne _ _ _ _ (by omega), ui_ne _ _ _ _ (by omega), ui_self]
    · rw [ui_ne _ _ _ _ (by omega), ui_self]
    · rw [ui_self])
  refine ⟨c3, ?_, g2⟩
  rw [q_15, hC.2.1.1]
  simp (disch := omega) only [iv_add, iv_sub, iv_mul, iv_neg, iv_lt, iv_le, iv_eq, iv_nat, iv_L, iv_L2, am_bi_v, am_bv_v, am_bl_v, if_pos, if_neg, Int.toNat_natCast, Int.toNat_add, Int.toNat_mul, Int.reduceToNat]
  rw [h0 _ hc9]
  exact g1
theorem k29 (hxy : x < 2 ∧ y < 2 ∧ x ≠ y) (h : CZ c tp n z) (hn : n ≤ 1600) (ht : ∀ i, tp i < 256) (hz0 : z.2 = none) (hC : CR c y K) (hK : VK K) (d : Nat) : ∃ c2 : Nat → Nat → Nat → Int32, E (d + 4) 29 [vr 3 0] (c, l, x, y) = some (none, c2, l, x, y) ∧ CZ c2 tp n (rlZ tp n K z).2 ∧ CR c2 y (rlZ tp n K z).1 ∧ FD c c2 x := by
  have h6 := hK.2.1.1
  -- behind the slots
  have k73 : ∀ (sl : List Nat) (g : Nat) (z : Tz) (c : Nat → Nat → Nat → Int32), nL K < 6 → g < 8 → (∀ b, b < 3 → g.testBit b = sl.contains b) → sl.length ≤ 3 → (∀ a ∈ sl, a < 3) → sl.Nodup → CZ c tp n z → CR c y K → (∀ k, k < sl.length → c 8 (nL K + y * 6) k = iv (sl.getD k 0 : Nat)) → ∃ c2 : Nat → Nat → Nat → Int32, X (d + 4) 29 73 [some (vr 3 0), some (vi (iv (g : Nat))), some (vi (iv (sl.length : Nat))), none, none] [] (c, l, x, y) = some (none, c2, l, x, y) ∧ CZ c2 tp n (if 0 ∈ sl ∧ 1 ∈ sl then (addL K sl, z) else (K, flZ 1 z.1.1 z)).2 ∧ CR c2 y (if 0 ∈ sl ∧ 1 ∈ sl then (addL K sl, z) else (K, flZ 1 z.1.1 z)).1 ∧ FD c c2 x := by
    intro sl g z c hl6 hg hb h3 ha hnd h hC h8
    have hp := h.2.1
    obtain ⟨c2, g1, g2, g3⟩ := e95 (l := l) (x := x) (y := y) h (k := 1) (p := z.1.1) (by omega) (by omega) (d + 2)
    have g1 : E (d + 3) 95 [vr 1 0, vi (iv 1), vi (iv (z.1.1 : Nat))] (c, l, x, y) = _ := g1
    have b0 : (iv (g : Int) >>> iv 0) &&& iv 1 = iv (if sl.contains 0 then 1 else 0) := by
      rw [iv_bit (by omega) (by omega), Int.toNat_natCast, show (0 : Int).toNat = 0 from rfl, hb 0 (by omega)]
    have b1 : (iv (g : Int) >>> iv 1) &&& iv 1 = iv (if sl.contains 1 then 1 else 0) := by
      rw [iv_bit (by omega) (by omega), Int.toNat_natCast, show (1 : Int).toNat = 1 from rfl, hb 1 (by omega)]
    rw [q_29_73]
    simp only [iv_L]
    rw [b0, b1, h.2.2.1.1]
    by_cases c0 : 0 ∈ sl
    · have e0 : sl.contains 0 = true := by rw [List.contains_iff_mem]; exact c0
      rw [e0, if_pos rfl, if_neg (by decide)]
      by_cases c1 : 1 ∈ sl
      · have e1 : sl.contains 1 = true := by rw [List.contains_iff_mem]; exact c1
        rw [e1, if_pos rfl, if_neg (by decide), if_pos ⟨c0, c1⟩]
        obtain ⟨c3, k1, k2, k3, k4, k5⟩ := k15 (l := l) hxy hC hl6 (sl_in sl h3 ha hnd c0 c1) h8 (d + 2)
        rw [k1]
        exact ⟨c3, rfl, CZ_FD h k4 k5, k2, k3⟩
      · have e1 : sl.contains 1 = false := by rw [← Bool.not_eq_true, List.contains_iff_mem]; exact c1
        rw [e1, if_neg Bool.false_ne_true, if_pos rfl, if_neg (fun q => c1 q.2), g1]
        exact ⟨c2, rfl, g2, CR_FZ g3 hC, FD_FZ g3 x⟩
    · have e0 : sl.contains 0 = false := by rw [← Bool.not_eq_true, List.contains_iff_mem]; exact c0
      rw [e0, if_neg Bool.false_ne_true, if_pos rfl, if_neg (fun q => c0 q.1), g1]
      exact ⟨c2, rfl, g2, CR_FZ g3 hC, FD_FZ g3 x⟩
  have k14 : ∀ (m : Nat) (sl : List Nat) (g : Nat) (z : Tz) (c : Nat → Nat → Nat → Int32), nL K < 6 → sl.length + m = 3 → z.2 = none → g < 8 → (∀ b, b < 3 → g.testBit b = sl.contains b) → (∀ a ∈ sl, a < 3) → sl.Nodup → CZ c tp n z → CR c y K → (∀ k, k < sl.length → c 8 (nL K + y * 6) k = iv (sl.getD k 0 : Nat)) → ∃ c2 : Nat → Nat → Nat → Int32, X (d + 4) 29 14 [some (vr 3 0), some (vi (iv (g : Nat))), some (vi (iv (sl.length : Nat))), some (vi (iv (sl.length : Nat))), none] [] (c, l, x, y) = some (none, c2, l, x, y) ∧ CZ c2 tp n (endL K (slZ tp n m sl z)).2 ∧ CR c2 y (endL K (slZ tp n m sl z)).1 ∧ FD c c2 x := by
    intro m
    induction m with
    | zero =>
      intro sl g z c hl6 hm hz hg hb ha hnd h hC h8
      unfold slZ
      rw [q_29_14]
      simp (disch := omega) only [iv_add, iv_sub, iv_mul, iv_neg, iv_lt, iv_le, iv_eq, iv_nat, iv_L, iv_L2, am_bi_v, am_bv_v, am_bl_v, if_pos, if_neg, Int.toNat_natCast, Int.toNat_add, Int.toNat_mul, Int.reduceToNat]
      exact k73 sl g z c hl6 hg hb (by omega) ha hnd h hC h8
    | succ m ih =>
      intro sl g z c hl6 hm hz hg hb ha hnd h hC h8
      have hs := sgn_bd (n := n) ht z.1
      have hp := h.2.1
      unfold slZ
      have h94 := e94 (l := l) (x := x) (y := y) h hn ht (t := 0) (by decide) (d + 2)
      obtain ⟨cf, f1, f2, f3⟩ := e95 (l := l) (x := x) (y := y) h (k := 1) (p := z.1.1) (by omega) (by omega) (d + 2)
      have f1 : E (d + 3) 95 [vr 1 0, vi (iv 1), vi (iv (z.1.1 : Nat))] (c, l, x, y) = _ := f1
      by_cases hend : sl ≠ [] ∧ sgnT tp n z.1 = 59
      · have hne : sl.length ≠ 0 := fun q => hend.1 (List.eq_nil_of_length_eq_zero q)
        rw [if_pos hend, q_29_14]
        simp (disch := omega) only [iv_add, iv_sub, iv_mul, iv_neg, iv_lt, iv_le, iv_eq, iv_nat, iv_L, iv_L2, am_bi_v, am_bv_v, am_bl_v, if_pos, if_neg, Int.toNat_natCast, Int.toNat_add, Int.toNat_mul, Int.reduceToNat, h.2.2.1.2.2]
        exact k73 sl g z c hl6 hg hb (by omega) ha hnd h hC h8
      · rw [if_neg hend]
        have hgo : X (d + 4) 29 14 [some (vr 3 0), some (vi (iv (g : Nat))), some (vi (iv (sl.length : Nat))), some (vi (iv (sl.length : Nat))), none] [] (c, l, x, y) = X (d + 4) 29 24 [some (vr 3 0), some (vi (iv (g : Nat))), some (vi (iv (sl.length : Nat))), some (vi (iv (sl.length : Nat))), none] [] (c, l, x, y) := by
          rw [q_29_14]
          simp (disch := omega) only [iv_add, iv_sub, iv_mul, iv_neg, iv_lt, iv_le, iv_eq, iv_nat, iv_L, iv_L2, am_bi_v, am_bv_v, am_bl_v, if_pos, if_neg, Int.toNat_natCast, Int.toNat_add, Int.toNat_mul, Int.reduceToNat, h.2.2.1.2.2]
          by_cases e0 : sl.length = 0
          · rw [if_pos (by omega)]
          · have : sgnT tp n z.1 ≠ 59 := fun q => hend ⟨fun q2 => e0 (by rw [q2]; rfl), q⟩
            rw [if_neg (by omega), if_neg this]
        rw [hgo, q_29_24, h94]
        simp only [am_bi_v, iv_L, iv_sub, h.2.2.1.1]
        cases ho : lixT tp n 0 z.1 with
        | none =>
          rw [if_pos (show iv (oi none - 7) < iv 0 by decide), f1]
          exact ⟨cf, rfl, f2, CR_FZ f3 hC, FD_FZ f3 x⟩
        | some o =>
          have hlt : o < 18 := by
            unfold lixT at ho
            split at ho
            · exact lixW_lt ho
            · cases ho
          have hoi : oi (some o) = (o : Int) := rfl
          rw [hoi]
          dsimp only
          by_cases o1 : o < 7
          · rw [if_pos (by rw [iv_lt (by omega) (by omega)]; omega), if_neg (by omega), f1]
            exact ⟨cf, rfl, f2, CR_FZ f3 hC, FD_FZ f3 x⟩
          · rw [if_neg (by rw [iv_lt (by omega) (by omega)]; omega)]
            by_cases o2 : 9 < o
            · rw [if_pos (by rw [iv_lt (by omega) (by omega)]; omega), if_neg (by omega), f1]
              exact ⟨cf, rfl, f2, CR_FZ f3 hC, FD_FZ f3 x⟩
            · rw [if_neg (by rw [iv_lt (by omega) (by omega)]; omega)]
              have hbit : (iv (g : Int) >>> (iv ((o : Int) - 7) &&& iv 31)) &&& iv 1 = iv (if sl.contains (o - 7) then 1 else 0) := by
                rw [show (o : Int) - 7 = ((o - 7 : Nat) : Int) by omega, iv_m31 (by omega), show (((o - 7 : Nat) : Int) % 32) = ((o - 7 : Nat) : Int) by omega, iv_bit (by omega) (by omega), Int.toNat_natCast, Int.toNat_natCast, hb (o - 7) (by omega)]
              simp only [iv_L2] at hbit ⊢
              rw [hbit]
              by_cases o3 : (o - 7) ∈ sl
              · have e1 : sl.contains (o - 7) = true := by rw [List.contains_iff_mem]; exact o3
                rw [e1, if_pos rfl, if_pos rfl, if_neg (fun q => q.2 o3), f1]
                exact ⟨cf, rfl, f2, CR_FZ f3 hC, FD_FZ f3 x⟩
              · have e1 : sl.contains (o - 7) = false := by rw [← Bool.not_eq_true, List.contains_iff_mem]; exact o3
                rw [e1, if_neg Bool.false_ne_true, if_neg (by decide), if_pos (show (7 ≤ o ∧ o ≤ 9) ∧ ¬ (o - 7) ∈ sl from ⟨⟨by omega, by omega⟩, o3⟩)]
                have hor := or_iv (a := g) (b := o - 7) (by omega) (by omega)
                rw [show ((o - 7 : Nat) : Int) = (o : Int) - 7 by omega] at hor
                have hC1 : CR (am_ui c 8 (nL K + y * 6) sl.length (iv ((o : Int) - 7))) y K := CU_CR (CU.ui _ _ _ _ (by omega)) hC
                have hZ1 : CZ (am_ui c 8 (nL K + y * 6) sl.length (iv ((o : Int) - 7))) tp n z := CZ_FD h (ui_nk _ _ _ _ (by omega)) (ui_nk _ _ _ _ (by omega))
                obtain ⟨c2, a1, a2, a3⟩ := e92 (l := l) (x := x) (y := y) hZ1 hn ht (d + 1)
                have hg8 : g ||| 2 ^ (o - 7) < 8 := Nat.or_lt_two_pow (n := 3) hg (Nat.pow_lt_pow_right (by decide) (by omega))
                obtain ⟨c3, b1, b2, b3, b4⟩ := ih (sl ++ [o - 7]) (g ||| 2 ^ (o - 7)) (avZ tp n z) c2 hl6 (by rw [List.length_append]; simp; omega) hz hg8 (by
                  intro b hb3
                  rw [Nat.testBit_or, hb b hb3, Nat.testBit_two_pow, Bool.eq_iff_iff]
                  simp only [Bool.or_eq_true, List.contains_iff_mem, List.mem_append, List.mem_singleton, decide_eq_true_eq]
                  constructor
                  · rintro (q | q)
                    · exact Or.inl q
                    · exact Or.inr q.symm
                  · rintro (q | q)
                    · exact Or.inl q
                    · exact Or.inr q.symm) (fun a q => by
                  rcases List.mem_append.mp q with q | q
                  · exact ha a q
                  · rw [List.mem_singleton.mp q]; omega) (by
                  rw [List.nodup_append]
                  exact ⟨hnd, by simp, fun a ha2 b hb2 => by rw [List.mem_singleton.mp hb2]; intro q; rw [q] at ha2; exact o3 ha2⟩) a2 (CR_FZ a3 hC1) (by
                  intro k hk
                  rw [List.length_append, List.length_singleton] at hk
                  rw [a3.1 8 (by omega)]
                  by_cases e : k = sl.length
                  · rw [e, ui_self, getD_app_new]; congr 1; omega
                  · rw [ui_ne _ _ _ _ (by omega), getD_app_old (by omega)]; exact h8 k (by omega))
                refine ⟨c3, ?_, b2, b3, ((FD.ui _ _ _ _ (by omega)).tr (FD_FZ a3 x)).tr b4⟩
                have b1 : X (d + 4) 29 14 [some (vr 3 0), some (vi (iv ((g ||| 2 ^ (o - 7) : Nat) : Int))), some (vi (iv ((sl ++ [o - 7]).length : Nat))), some (vi (iv ((sl ++ [o - 7]).length : Nat))), none] [] (c2, l, x, y) = _ := b1
                rw [show (((sl ++ [o - 7]).length : Nat) : Int) = (sl.length : Int) + 1 by rw [List.length_append]; simp] at b1
                simp (disch := omega) only [iv_add, iv_sub, iv_mul, iv_neg, iv_lt, iv_le, iv_eq, iv_nat, iv_L, iv_L2, am_bi_v, am_bv_v, am_bl_v, if_pos, if_neg, Int.toNat_natCast, Int.toNat_add, Int.toNat_mul, Int.reduceToNat, hC.2.1.1]
                rw [a1]
                simp only [am_bv_v]
                rw [hor]
                exact b1
  obtain ⟨c1, g1, g2, g3⟩ := k27 (l := l) (x := x) (y := y) h hn ht (a := nL K) (m := 6) (by omega) (by omega) d
  have g1 : E (d + 3) 27 [vr 3 0, vi (iv (nL K : Nat)), vi (iv 6)] (c, l, x, y) = _ := g1
  rw [rlZ_eq, q_29, hC.2.1.1, show (6 : Int32) = iv 6 from rfl, g1]
  simp only [am_bi_v]
  by_cases e : 6 ≤ nL K
  · rw [if_pos e, if_pos (show iv 0 = 0 from rfl), if_pos e]
    rw [if_pos e] at g2
    exact ⟨c1, rfl, g2, CR_FZ g3 hC, FD_FZ g3 x⟩
  · rw [if_neg e, if_neg (by decide), if_neg e]
    rw [if_neg e] at g2
    obtain ⟨c2, k1, k2, k3, k4⟩ := k14 3 [] 0 (avZ tp n z) c1 (by omega) rfl hz0 (by omega) (fun b _ => by rw [Nat.zero_testBit]; rfl) (fun a q => (by cases q)) List.nodup_nil g2 (CR_FZ g3 hC) (fun k hk => absurd hk (Nat.not_lt_zero _))
    exact ⟨c2, k1, k2, k3, (FD_FZ g3 x).tr k4⟩
theorem k30 (hxy : x < 2 ∧ y < 2 ∧ x ≠ y) (h : CZ c tp n z) (hn : n ≤ 1600) (ht : ∀ i, tp i < 256) (hC : CR c y K) (hK : VK K) (d : Nat) : ∃ c2 : Nat → Nat → Nat → Int32, E (d + 4) 30 [vr 3 0] (c, l, x, y) = some (none, c2, l, x, y) ∧ CZ c2 tp n (rfZ tp n K z).2 ∧ CR c2 y (rfZ tp n K z).1 ∧ FD c c2 x := by
  have h16 := hK.2.2.1.1
  obtain ⟨c1, g1, g2, g3⟩ := k27 (l := l) (x := x) (y := y) h hn ht (a := nF K) (m := 16) (by omega) (by omega) d
  have g1 : E (d + 3) 27 [vr 3 0, vi (iv (nF K : Nat)), vi (iv 16)] (c, l, x, y) = _ := g1
  unfold rfZ
  rw [q_30, hC.2.2.1.1, show (16 : Int32) = iv 16 from rfl, g1]
  simp only [am_bi_v]
  by_cases e : 16 ≤ nF K
  · rw [if_pos e, if_pos (show iv 0 = 0 from rfl), if_pos e]
    rw [if_pos e] at g2
    exact ⟨c1, rfl, g2, CR_FZ g3 hC, FD_FZ g3 x⟩
  · rw [if_neg e, if_neg (by decide), if_neg e]
    rw [if_neg e] at g2
    have hC1 := CR_FZ g3 hC
    obtain ⟨c2, a1, a2, a3⟩ := e31 (l := l) (x := x) (y := y) g2 hn ht hC1 hK (kd := 0) (by omega) d
    have hC2 := CR_FZ a3 hC1
    obtain ⟨c3, b1, b2, b3⟩ := e31 (l := l) (x := x) (y := y) a2 hn ht hC2 hK (kd := 1) (by omega) d
    have hC3 := CR_FZ b3 hC2
    -- behind the words
    have kend : ∀ (u v w : Int) (z3 : Tz) (c3 : Nat → Nat → Nat → Int32), CZ c3 tp n z3 → CR c3 y K → ∃ c4 : Nat → Nat → Nat → Int32, X (d + 4) 30 26 [some (vr 3 0), some (vi (iv u)), some (vi (iv v)), none, none] [vi (iv w)] (c3, l, x, y) = some (none, c4, l, x, y) ∧ CZ c4 tp n z3 ∧ CR c4 y (if z3.2 = none then addF K (u, v, w) else K) ∧ FD c3 c4 x := by
      intro u v w z3 c3 hz hC3
      have hf := flt_iff hz
      rw [q_30_26]
      simp only [iv_L, hf]
      by_cases e3 : z3.2 = none
      · rw [if_pos e3, if_pos e3]
        simp (disch := omega) only [iv_add, iv_sub, iv_mul, iv_neg, iv_lt, iv_le, iv_eq, iv_nat, iv_L, iv_L2, am_bi_v, am_bv_v, am_bl_v, if_pos, if_neg, Int.toNat_natCast, Int.toNat_add, Int.toNat_mul, Int.reduceToNat, hC3.2.2.1.1]
        refine ⟨_, rfl, ?_, ?_, ?_⟩
        · exact CZ_FD hz (by rw [ui_nk _ _ _ _ (by omega), ui_nk _ _ _ _ (by omega), ui_nk _ _ _ _ (by omega), ui_nk _ _ _ _ (by omega)]) (by rw [ui_nk _ _ _ _ (by omega), ui_nk _ _ _ _ (by omega), ui_nk _ _ _ _ (by omega), ui_nk _ _ _ _ (by omega)])
        · refine CR_addF hC3 (((CU.ui _ _ _ _ (by omega)).tr (CU.ui _ _ _ _ (by omega))).tr (CU.ui _ _ _ _ (by omega))) ⟨?_, ?_, ?_⟩
          · rw [ui_ne _ _ _ _ (by omega), ui_ne _ _ _ _ (by omega), ui_self]
          · rw [ui_ne _ _ _ _ (by omega), ui_self]
          · rw [ui_self]
        · exact (((FD.ui _ _ _ _ (by omega)).tr (FD.ui _ _ _ _ (by omega))).tr (FD.ui _ _ _ _ (by omega))).tr (FD.ui _ _ _ _ (by omega))
      · rw [if_neg e3, if_neg e3]
        exact ⟨c3, rfl, hz, hC3, FD.refl c3 x⟩
    have hs := sgn_bd (n := n) ht (twZ tp n K 1 (twZ tp n K 0 (avZ tp n z)).2).2.1
    have a1 : E (d + 3) 31 [vr 3 0, vi 0] (c1, l, x, y) = _ := a1
    have b1 : E (d + 3) 31 [vr 3 0, vi 1] (c2, l, x, y) = _ := b1
    rw [a1]
    simp only [am_bi_v]
    rw [b1]
    simp only [am_bi_v, b2.2.2.1.2.2]
    unfold fwZ
    dsimp only
    by_cases e9 : sgnT tp n (twZ tp n K 1 (twZ tp n K 0 (avZ tp n z)).2).2.1 = 97
    · rw [if_pos e9, if_pos (by rw [e9]; rfl)]
      obtain ⟨c4, d1, d2, d3⟩ := e31 (l := l) (x := x) (y := y) b2 hn ht hC3 hK (kd := 0) (by omega) d
      have d1 : E (d + 3) 31 [vr 3 0, vi 0] (c3, l, x, y) = _ := d1
      rw [d1]
      simp only [am_bi_v]
      obtain ⟨c5, f1, f2, f3, f4⟩ := kend (oi (twZ tp n K 0 (avZ tp n z)).1) (oi (twZ tp n K 1 (twZ tp n K 0 (avZ tp n z)).2).1) (oi (twZ tp n K 0 (twZ tp n K 1 (twZ tp n K 0 (avZ tp n z)).2).2).1) _ c4 d2 (CR_FZ d3 hC3)
      refine ⟨c5, f1, ?_, ?_, (FD_FZ (((g3.tr a3).tr b3).tr d3) x).tr f4⟩
      · split <;> exact f2
      · try dsimp only
        split at f3
        · rename_i e3; rw [if_pos e3]; exact f3
        · rename_i e3; rw [if_neg e3]; exact f3
    · rw [if_neg e9, if_neg (show ¬ iv (sgnT tp n (twZ tp n K 1 (twZ tp n K 0 (avZ tp n z)).2).2.1) = 97 by simp only [iv_L2]; rw [iv_eq (by omega) (by omega)]; exact e9)]
      obtain ⟨c5, f1, f2, f3, f4⟩ := kend (oi (twZ tp n K 0 (avZ tp n z)).1) (oi (twZ tp n K 1 (twZ tp n K 0 (avZ tp n z)).2).1) (-1) _ c3 b2 hC3
      refine ⟨c5, f1, ?_, ?_, (FD_FZ ((g3.tr a3).tr b3) x).tr f4⟩
      · split <;> exact f2
      · try dsimp only
        split at f3
        · rename_i e3; rw [if_pos e3]; exact f3
        · rename_i e3; rw [if_neg e3]; exact f3
theorem k34 (hxy : x < 2 ∧ y < 2 ∧ x ≠ y) (h : CZ c tp n z) (hn : n ≤ 1600) (ht : ∀ i, tp i < 256) (hC : CR c y K) (hK : VK K) (d : Nat) : ∃ c2 : Nat → Nat → Nat → Int32, E (d + 4) 34 [vr 3 0] (c, l, x, y) = some (none, c2, l, x, y) ∧ CZ c2 tp n (raZ tp n K z).2 ∧ CR c2 y (raZ tp n K z).1 ∧ FD c c2 x := by
  obtain ⟨c1, g1, g2, g3⟩ := e92 (l := l) (x := x) (y := y) h hn ht (d + 1)
  have hC1 := CR_FZ g3 hC
  obtain ⟨c2, a1, a2, a3⟩ := e31 (l := l) (x := x) (y := y) g2 hn ht hC1 hK (kd := 0) (by omega) d
  have hC2 := CR_FZ a3 hC1
  obtain ⟨c3, b1, b2, b3⟩ := e31 (l := l) (x := x) (y := y) a2 hn ht hC2 hK (kd := 1) (by omega) d
  have hC3 := CR_FZ b3 hC2
  have hf := flt_iff b2
  have a1 : E (d + 3) 31 [vr 3 0, vi 0] (c1, l, x, y) = _ := a1
  have b1 : E (d + 3) 31 [vr 3 0, vi 1] (c2, l, x, y) = _ := b1
  unfold raZ
  dsimp only
  rw [q_34, g1]
  simp only [am_bv_v]
  rw [a1]
  simp only [am_bi_v]
  rw [b1]
  simp only [am_bi_v, iv_L, hf]
  by_cases e3 : (twZ tp n K 1 (twZ tp n K 0 (avZ tp n z)).2).2.2 = none
  · rw [if_pos e3, if_pos e3]
    refine ⟨_, rfl, ?_, CR_setA hC3, (FD_FZ ((g3.tr a3).tr b3) x).tr ((FD.ui _ _ _ _ (by omega)).tr (FD.ui _ _ _ _ (by omega)))⟩
    exact CZ_FD b2 (by rw [ui_nk _ _ _ _ (by omega), ui_nk _ _ _ _ (by omega)]) (by rw [ui_nk _ _ _ _ (by omega), ui_nk _ _ _ _ (by omega)])
  · rw [if_neg e3, if_neg e3]
    exact ⟨c3, rfl, b2, hC3, FD_FZ ((g3.tr a3).tr b3) x⟩
end
