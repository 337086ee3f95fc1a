/-! the reference: what a statement may write, what stands in the draft -/
/-- cells that statements leave -/
def nDr (k j : Nat) : Prop := ¬ (k = 48 ∧ (j = 2 ∨ j = 4 ∨ j = 5 ∨ j = 6 ∨ j = 27)) ∧ ¬ (k = 68 ∧ j < 5) ∧ ¬ (k = 70 ∧ j < 20) ∧ ¬ (k = 72 ∧ j < 18) ∧ ¬ (k = 73 ∧ j < 48) ∧ ¬ (k = 74 ∧ j < 49) ∧ ¬ (k = 75 ∧ j < 72) ∧ ¬ (k = 76 ∧ j < 2)
def FS (c : Nat → Nat → Nat → Int32) (l : Nat → Nat → Int64) (c2 : Nat → Nat → Nat → Int32) (l2 : Nat → Nat → Int64) : Prop := (∀ k i j, nDr k j → c2 k i j = c k i j) ∧ ∀ k j, ¬ (k = 69 ∧ j < 20) → ¬ (k = 71 ∧ j < 7) → l2 k j = l k j
/-- what of the draft is in use -/
def RU (c : Nat → Nat → Nat → Int32) (l : Nat → Nat → Int64) (c2 : Nat → Nat → Nat → Int32) (l2 : Nat → Nat → Int64) (K : Ct) : Prop := (∀ j, j < 5 → c2 68 0 j = c 68 0 j) ∧ (∀ w, w < nW K → c2 70 0 w = c 70 0 w ∧ l2 69 w = l 69 w) ∧ (∀ j, j < 3 * nL K → c2 72 0 j = c 72 0 j) ∧ (∀ j, j < 3 * nF K → c2 73 0 j = c 73 0 j) ∧ ((∀ j, j < 7 * nB K → c2 74 0 j = c 74 0 j) ∧ ∀ b, b < nB K → l2 71 b = l 71 b) ∧ (∀ j, j < 9 * nC K → c2 75 0 j = c 75 0 j) ∧ (c2 76 0 0 = c 76 0 0 ∧ c2 76 0 1 = c 76 0 1)
/-- what a statement's body comes to -/
def BD (c2 : Nat → Nat → Nat → Int32) (l2 : Nat → Nat → Int64) (tp : Nat → Nat) (n : Nat) (r : Ct × Tz) : Prop := (RZ c2 tp n r.2 ∧ (r.2.2 = none → RD c2 l2 r.1)) ∨ (r.2.2 = none ∧ sgnT tp n r.2.1 ≠ 59 ∧ RZ c2 tp n (flZ 1 r.2.1.1 r.2))
section
variable {c : Nat → Nat → Nat → Int32} {l : Nat → Nat → Int64} {x y : Nat} {tp : Nat → Nat} {n : Nat} {z : Tz} {s : Ts} {K : Ct}
theorem FS.refl (c : Nat → Nat → Nat → Int32) (l : Nat → Nat → Int64) : FS c l c l := ⟨fun _ _ _ _ => rfl, fun _ _ _ _ => rfl⟩
theorem FS.tr {c1 c2 c3 : Nat → Nat → Nat → Int32} {l1 l2 l3 : Nat → Nat → Int64} (h : FS c1 l1 c2 l2) (g : FS c2 l2 c3 l3) : FS c1 l1 c3 l3 := ⟨fun k i j hk => (g.1 k i j hk).trans (h.1 k i j hk), fun k j h1 h2 => (g.2 k j h1 h2).trans (h.2 k j h1 h2)⟩
theorem FS_FR {c2 : Nat → Nat → Nat → Int32} (h : FR c c2) (l : Nat → Nat → Int64) : FS c l c2 l := by
  refine ⟨fun k i j hk => ?_, fun _ _ _ _ => rfl⟩
  unfold nDr at hk
  by_cases e : k = 48
  · subst e
    exact h.2 i j (by omega) (by omega) (by omega) (by omega) (by omega)
  · rw [h.1 k e]
theorem FS.ui (k i j : Nat) (v : Int32) (h : (k = 48 ∧ (j = 2 ∨ j = 4 ∨ j = 5 ∨ j = 6 ∨ j = 27)) ∨ (k = 68 ∧ j < 5) ∨ (k = 70 ∧ j < 20) ∨ (k = 72 ∧ j < 18) ∨ (k = 73 ∧ j < 48) ∨ (k = 74 ∧ j < 49) ∨ (k = 75 ∧ j < 72) ∨ (k = 76 ∧ j < 2)) : FS c l (am_ui c k i j v) l := by
  refine ⟨fun k2 i2 j2 hk => ui_ne _ _ _ _ ?_, fun _ _ _ _ => rfl⟩
  unfold nDr at hk
  omega
theorem FS.ul (k j : Nat) (v : Int64) (h : (k = 69 ∧ j < 20) ∨ (k = 71 ∧ j < 7)) : FS c l c (am_ul l k j v) := by
  refine ⟨fun _ _ _ _ => rfl, fun k2 j2 h1 h2 => ?_⟩
  unfold am_ul
  rw [if_neg (by omega)]
theorem RU.refl (c : Nat → Nat → Nat → Int32) (l : Nat → Nat → Int64) (K : Ct) : RU c l c l K := ⟨fun _ _ => rfl, fun _ _ => ⟨rfl, rfl⟩, fun _ _ => rfl, fun _ _ => rfl, ⟨fun _ _ => rfl, fun _ _ => rfl⟩, fun _ _ => rfl, ⟨rfl, rfl⟩⟩
theorem RU.tr {c1 c2 c3 : Nat → Nat → Nat → Int32} {l1 l2 l3 : Nat → Nat → Int64} (h : RU c1 l1 c2 l2 K) (g : RU c2 l2 c3 l3 K) : RU c1 l1 c3 l3 K := ⟨fun j hj => (g.1 j hj).trans (h.1 j hj), fun w hw => ⟨(g.2.1 w hw).1.trans (h.2.1 w hw).1, (g.2.1 w hw).2.trans (h.2.1 w hw).2⟩, fun j hj => (g.2.2.1 j hj).trans (h.2.2.1 j hj), fun j hj => (g.2.2.2.1 j hj).trans (h.2.2.2.1 j hj), ⟨fun j hj => (g.2.2.2.2.1.1 j hj).trans (h.2.2.2.2.1.1 j hj), fun b hb => (g.2.2.2.2.1.2 b hb).trans (h.2.2.2.2.1.2 b hb)⟩, fun j hj => (g.2.2.2.2.2.1 j hj).trans (h.2.2.2.2.2.1 j hj), ⟨g.2.2.2.2.2.2.1.trans h.2.2.2.2.2.2.1, g.2.2.2.2.2.2.2.trans h.2.2.2.2.2.2.2⟩⟩
theorem RU_FR {c2 : Nat → Nat → Nat → Int32} (h : FR c c2) (l : Nat → Nat → Int64) (K : Ct) : RU c l c2 l K := ⟨fun j _ => by rw [h.1 68 (by omega)], fun w _ => ⟨by rw [h.1 70 (by omega)], rfl⟩, fun j _ => by rw [h.1 72 (by omega)], fun j _ => by rw [h.1 73 (by omega)], ⟨fun j _ => by rw [h.1 74 (by omega)], fun _ _ => rfl⟩, fun j _ => by rw [h.1 75 (by omega)], ⟨by rw [h.1 76 (by omega)], by rw [h.1 76 (by omega)]⟩⟩
theorem RU.ui (k j : Nat) (v : Int32) (h : (k = 70 ∧ nW K ≤ j) ∨ (k = 72 ∧ 3 * nL K ≤ j) ∨ (k = 73 ∧ 3 * nF K ≤ j) ∨ (k = 74 ∧ 7 * nB K ≤ j) ∨ (k = 75 ∧ 9 * nC K ≤ j) ∨ k = 48) : RU c l (am_ui c k 0 j v) l K := ⟨fun j2 _ => ui_ne _ _ _ _ (by omega), fun w hw => ⟨ui_ne _ _ _ _ (by omega), rfl⟩, fun j2 hj => ui_ne _ _ _ _ (by omega), fun j2 hj => ui_ne _ _ _ _ (by omega), ⟨fun j2 hj => ui_ne _ _ _ _ (by omega), fun _ _ => rfl⟩, fun j2 hj => ui_ne _ _ _ _ (by omega), ⟨ui_ne _ _ _ _ (by omega), ui_ne _ _ _ _ (by omega)⟩⟩
theorem RU.ul (k j : Nat) (v : Int64) (h : (k = 69 ∧ nW K ≤ j) ∨ (k = 71 ∧ nB K ≤ j)) : RU c l c (am_ul l k j v) K := by
  refine ⟨fun _ _ => rfl, fun w hw => ⟨rfl, ?_⟩, fun _ _ => rfl, fun _ _ => rfl, ⟨fun _ _ => rfl, fun b hb => ?_⟩, fun _ _ => rfl, ⟨rfl, rfl⟩⟩
  · unfold am_ul
    rw [if_neg (by omega)]
  · unfold am_ul
    rw [if_neg (by omega)]
theorem RU_RD {c2 : Nat → Nat → Nat → Int32} {l2 : Nat → Nat → Int64} (hK : VK K) (h : RU c l c2 l2 K) (g : RD c l K) : RD c2 l2 K := by
  obtain ⟨g1, g2, g3, g4, g5, g6⟩ := g
  obtain ⟨h0, h1, h2, h3, h4, h5, h6⟩ := h
  refine ⟨⟨by rw [h0 0 (by omega)]; exact g1.1, fun w hw => ?_⟩, ⟨by rw [h0 1 (by omega)]; exact g2.1, fun i hi k hk => ?_⟩, ⟨by rw [h0 2 (by omega)]; exact g3.1, fun f hf => ?_⟩, ⟨by rw [h0 3 (by omega)]; exact g4.1, fun b hb => ?_⟩, ⟨by rw [h0 4 (by omega)]; exact g5.1, fun i hi => ?_⟩, ?_⟩
  · rw [(h1 w hw).1, (h1 w hw).2]; exact g1.2 w hw
  · rw [h2 _ (by omega)]; exact g2.2 i hi k hk
  · rw [h3 _ (by omega), h3 _ (by omega), h3 _ (by omega)]; exact g3.2 f hf
  · have hg := g4.2 b hb
    have hlen := (hK.2.2.2.1.2 b hb).2.2.2.2.1
    rw [h4.2 b hb, h4.1 _ (by omega), h4.1 _ (by omega), h4.1 _ (by omega)]
    exact ⟨hg.1, hg.2.1, hg.2.2.1, hg.2.2.2.1, fun k hk => by rw [h4.1 _ (by omega)]; exact hg.2.2.2.2 k hk⟩
  · have hg := g5.2 i hi
    have hlen := (hK.2.2.2.2.1.2 i hi).2.1
    rw [h5 _ (by omega)]
    exact ⟨hg.1, fun k hk => by rw [h5 _ (by omega)]; exact hg.2 k hk⟩
  · rw [h6.1, h6.2]; exact g6
theorem RD_cnt {c2 : Nat → Nat → Nat → Int32} {k : Nat} {v : Int32} : ∀ k2, k2 ≠ 68 → am_ui c2 68 0 k v k2 = c2 k2 := fun k2 hk => ui_nk _ _ _ _ hk
theorem RD_addW {c2 : Nat → Nat → Nat → Int32} {l2 : Nat → Nat → Int64} {k : Nat} {s : List Nat} (hK : VK K) (g : RD c l K) (h : RU c l c2 l2 K) (h70 : c2 70 0 (nW K) = iv (k : Nat)) (h69 : l2 69 (nW K) = jv (e27 s)) : RD (am_ui c2 68 0 0 (iv ((nW K : Int) + 1))) l2 (addW K s k) := by
  obtain ⟨g1, g2, g3, g4, g5, g6⟩ := RU_RD hK h g
  have hn := nW_add (K := K) s k
  have h8 : ∀ j, j ≠ 0 → am_ui c2 68 0 0 (iv ((nW K : Int) + 1)) 68 0 j = c2 68 0 j := fun j hj => ui_ne _ _ _ _ (by omega)
  refine ⟨⟨by rw [ui_self, hn]; rfl, fun w hw => ?_⟩, ⟨by rw [h8 1 (by omega)]; exact g2.1, by rw [RD_cnt 72 (by omega)]; exact g2.2⟩, ⟨by rw [h8 2 (by omega)]; exact g3.1, by rw [RD_cnt 73 (by omega)]; exact g3.2⟩, ⟨by rw [h8 3 (by omega)]; exact g4.1, by rw [RD_cnt 74 (by omega)]; exact g4.2⟩, ⟨by rw [h8 4 (by omega)]; exact g5.1, by rw [RD_cnt 75 (by omega)]; exact g5.2⟩, by rw [RD_cnt 76 (by omega)]; exact g6⟩
  have e : (addW K s k).1.getD w ([], 5) = if w < nW K then K.1.getD w ([], 5) else if w = nW K then (s, k) else ([], 5) := getD_snoc K.1 (s, k) ([], 5) w
  rw [RD_cnt 70 (by omega)]
  unfold spK knd
  rw [e]
  by_cases hl : w < nW K
  · rw [if_pos hl]; exact g1.2 w hl
  · rw [if_neg hl, if_pos (by omega), show w = nW K by omega]; exact ⟨h70, h69⟩
theorem RD_addL {c2 : Nat → Nat → Nat → Int32} {l2 : Nat → Nat → Int64} {sl : List Nat} (hK : VK K) (g : RD c l K) (h : RU c l c2 l2 K) (h72 : ∀ k, k < 3 → c2 72 0 (3 * nL K + k) = iv (slotE sl k)) : RD (am_ui c2 68 0 1 (iv ((nL K : Int) + 1))) l2 (addL K sl) := by
  obtain ⟨g1, g2, g3, g4, g5, g6⟩ := RU_RD hK h g
  have hn : nL (addL K sl) = nL K + 1 := by unfold nL addL; simp
  have h8 : ∀ j, j ≠ 1 → am_ui c2 68 0 1 (iv ((nL K : Int) + 1)) 68 0 j = c2 68 0 j := fun j hj => ui_ne _ _ _ _ (by omega)
  refine ⟨⟨by rw [h8 0 (by omega)]; exact g1.1, by rw [RD_cnt 70 (by omega)]; exact g1.2⟩, ⟨by rw [ui_self, hn]; rfl, fun i hi => ?_⟩, ⟨by rw [h8 2 (by omega)]; exact g3.1, by rw [RD_cnt 73 (by omega)]; exact g3.2⟩, ⟨by rw [h8 3 (by omega)]; exact g4.1, by rw [RD_cnt 74 (by omega)]; exact g4.2⟩, ⟨by rw [h8 4 (by omega)]; exact g5.1, by rw [RD_cnt 75 (by omega)]; exact g5.2⟩, by rw [RD_cnt 76 (by omega)]; exact g6⟩
  have e : (addL K sl).2.1.getD i [] = if i < nL K then K.2.1.getD i [] else if i = nL K then sl else [] := getD_snoc K.2.1 sl [] i
  rw [RD_cnt 72 (by omega)]
  unfold lnK
  rw [e]
  by_cases hl : i < nL K
  · rw [if_pos hl]; exact g2.2 i hl
  · rw [if_neg hl, if_pos (by omega), show i = nL K by omega]; exact h72
theorem RD_addF {c2 : Nat → Nat → Nat → Int32} {l2 : Nat → Nat → Int64} {f : Int × Int × Int} (hK : VK K) (g : RD c l K) (h : RU c l c2 l2 K) (h73 : c2 73 0 (3 * nF K) = iv f.1 ∧ c2 73 0 (3 * nF K + 1) = iv f.2.1 ∧ c2 73 0 (3 * nF K + 2) = iv f.2.2) : RD (am_ui c2 68 0 2 (iv ((nF K : Int) + 1))) l2 (addF K f) := by
  obtain ⟨g1, g2, g3, g4, g5, g6⟩ := RU_RD hK h g
  have hn : nF (addF K f) = nF K + 1 := by unfold nF addF; simp
  have h8 : ∀ j, j ≠ 2 → am_ui c2 68 0 2 (iv ((nF K : Int) + 1)) 68 0 j = c2 68 0 j := fun j hj => ui_ne _ _ _ _ (by omega)
  refine ⟨⟨by rw [h8 0 (by omega)]; exact g1.1, by rw [RD_cnt 70 (by omega)]; exact g1.2⟩, ⟨by rw [h8 1 (by omega)]; exact g2.1, by rw [RD_cnt 72 (by omega)]; exact g2.2⟩, ⟨by rw [ui_self, hn]; rfl, fun i hi => ?_⟩, ⟨by rw [h8 3 (by omega)]; exact g4.1, by rw [RD_cnt 74 (by omega)]; exact g4.2⟩, ⟨by rw [h8 4 (by omega)]; exact g5.1, by rw [RD_cnt 75 (by omega)]; exact g5.2⟩, by rw [RD_cnt 76 (by omega)]; exact g6⟩
  have e : (addF K f).2.2.1.getD i (0, 0, 0) = if i < nF K then K.2.2.1.getD i (0, 0, 0) else if i = nF K then f else (0, 0, 0) := getD_snoc K.2.2.1 f (0, 0, 0) i
  rw [RD_cnt 73 (by omega)]
  unfold fcK
  rw [e]
  by_cases hl : i < nF K
  · rw [if_pos hl]; exact g3.2 i hl
  · rw [if_neg hl, if_pos (by omega), show i = nF K by omega]; exact h73
theorem RD_addB {c2 : Nat → Nat → Nat → Int32} {l2 : Nat → Nat → Int64} {b : List Nat × Nat × Nat × List Nat} (hK : VK K) (g : RD c l K) (h : RU c l c2 l2 K) (h74 : l2 71 (nB K) = jv (e27 b.1) ∧ c2 74 0 (7 * nB K) = iv b.2.1 ∧ c2 74 0 (7 * nB K + 1) = iv b.2.2.1 ∧ c2 74 0 (7 * nB K + 2) = iv b.2.2.2.length ∧ ∀ k, k < b.2.2.2.length → c2 74 0 (7 * nB K + 3 + k) = iv (b.2.2.2.getD k 0 : Nat)) : RD (am_ui c2 68 0 3 (iv ((nB K : Int) + 1))) l2 (addB K b) := by
  obtain ⟨g1, g2, g3, g4, g5, g6⟩ := RU_RD hK h g
  have hn : nB (addB K b) = nB K + 1 := by unfold nB addB; simp
  have h8 : ∀ j, j ≠ 3 → am_ui c2 68 0 3 (iv ((nB K : Int) + 1)) 68 0 j = c2 68 0 j := fun j hj => ui_ne _ _ _ _ (by omega)
  refine ⟨⟨by rw [h8 0 (by omega)]; exact g1.1, by rw [RD_cnt 70 (by omega)]; exact g1.2⟩, ⟨by rw [h8 1 (by omega)]; exact g2.1, by rw [RD_cnt 72 (by omega)]; exact g2.2⟩, ⟨by rw [h8 2 (by omega)]; exact g3.1, by rw [RD_cnt 73 (by omega)]; exact g3.2⟩, ⟨by rw [ui_self, hn]; rfl, fun i hi => ?_⟩, ⟨by rw [h8 4 (by omega)]; exact g5.1, by rw [RD_cnt 75 (by omega)]; exact g5.2⟩, by rw [RD_cnt 76 (by omega)]; exact g6⟩
  have e : (addB K b).2.2.2.1.getD i ([], 0, 0, []) = if i < nB K then K.2.2.2.1.getD i ([], 0, 0, []) else if i = nB K then b else ([], 0, 0, []) := getD_snoc K.2.2.2.1 b ([], 0, 0, []) i
  rw [RD_cnt 74 (by omega)]
  unfold sayK bnK
  rw [e]
  by_cases hl : i < nB K
  · rw [if_pos hl]; exact g4.2 i hl
  · rw [if_neg hl, if_pos (by omega), show i = nB K by omega]; exact h74
theorem RD_addC {c2 : Nat → Nat → Nat → Int32} {l2 : Nat → Nat → Int64} {ws : List Nat} (hK : VK K) (g : RD c l K) (h : RU c l c2 l2 K) (h75 : c2 75 0 (9 * nC K) = iv ws.length ∧ ∀ k, k < ws.length → c2 75 0 (9 * nC K + 1 + k) = iv (ws.getD k 0 : Nat)) : RD (am_ui c2 68 0 4 (iv ((nC K : Int) + 1))) l2 (addC K ws) := by
  obtain ⟨g1, g2, g3, g4, g5, g6⟩ := RU_RD hK h g
  have hn : nC (addC K ws) = nC K + 1 := by unfold nC addC; simp
  have h8 : ∀ j, j ≠ 4 → am_ui c2 68 0 4 (iv ((nC K : Int) + 1)) 68 0 j = c2 68 0 j := fun j hj => ui_ne _ _ _ _ (by omega)
  refine ⟨⟨by rw [h8 0 (by omega)]; exact g1.1, by rw [RD_cnt 70 (by omega)]; exact g1.2⟩, ⟨by rw [h8 1 (by omega)]; exact g2.1, by rw [RD_cnt 72 (by omega)]; exact g2.2⟩, ⟨by rw [h8 2 (by omega)]; exact g3.1, by rw [RD_cnt 73 (by omega)]; exact g3.2⟩, ⟨by rw [h8 3 (by omega)]; exact g4.1, by rw [RD_cnt 74 (by omega)]; exact g4.2⟩, ⟨by rw [ui_self, hn]; rfl, fun i hi => ?_⟩, by rw [RD_cnt 76 (by omega)]; exact g6⟩
  have e : (addC K ws).2.2.2.2.1.getD i [] = if i < nC K then K.2.2.2.2.1.getD i [] else if i = nC K then ws else [] := getD_snoc K.2.2.2.2.1 ws [] i
  rw [RD_cnt 75 (by omega)]
  unfold csK
  rw [e]
  by_cases hl : i < nC K
  · rw [if_pos hl]; exact g5.2 i hl
  · rw [if_neg hl, if_pos (by omega), show i = nC K by omega]; exact h75
theorem RD_setA {a b : Int} (g : RD c l K) : RD (am_ui (am_ui c 76 0 0 (iv a)) 76 0 1 (iv b)) l (setA K a b) := by
  obtain ⟨g1, g2, g3, g4, g5, g6⟩ := g
  have hf : ∀ k2, k2 ≠ 76 → am_ui (am_ui c 76 0 0 (iv a)) 76 0 1 (iv b) k2 = c k2 := fun k2 hk => by rw [ui_nk _ _ _ _ hk, ui_nk _ _ _ _ hk]
  refine ⟨by rw [hf 68 (by omega), hf 70 (by omega)]; exact g1, by rw [hf 68 (by omega), hf 72 (by omega)]; exact g2, by rw [hf 68 (by omega), hf 73 (by omega)]; exact g3, by rw [hf 68 (by omega), hf 74 (by omega)]; exact g4, by rw [hf 68 (by omega), hf 75 (by omega)]; exact g5, ?_, ?_⟩
  · rw [ui_ne _ _ _ _ (by omega), ui_self]; rfl
  · rw [ui_self]; rfl
/-- the reading goes on as it stands when only the draft is written -/
theorem RZ_dr {c2 : Nat → Nat → Nat → Int32} (h : RZ c tp n z) (h48 : c2 48 = c 48) (hf : ∀ k, (49 ≤ k ∧ k ≤ 67) ∨ (90 ≤ k ∧ k ≤ 107) → c2 k = c k) : RZ c2 tp n z := by
  obtain ⟨h1, h2, h3, h4⟩ := h
  refine ⟨⟨by rw [h48]; exact h1.1, by rw [hf 49 (by omega)]; exact h1.2⟩, h2, CH_fr h3 (fun k hk => hf k (by omega)), ?_⟩
  unfold RP at h4 ⊢
  rw [h48]
  exact h4
theorem BD_flt {c2 : Nat → Nat → Nat → Int32} {l2 : Nat → Nat → Int64} {f : Nat × Nat} {s s' : Ts} {K2 : Ct} (h : RZ c2 tp n (s', some f)) : BD c2 l2 tp n (K2, (s, some f)) := Or.inl ⟨RZ_any h, fun q => by cases q⟩
theorem m156 (h : RZ c tp n (avZ tp n z)) (hz : z.2 = none) (hp : z.1.1 ≤ 1600) (hd : RD c l K) (hK : VK K) {o : Nat} (d : Nat) : ∃ (c2 : Nat → Nat → Nat → Int32) (l2 : Nat → Nat → Int64), E (d + 6) 156 [vr 48 0, vi (iv (o : Nat)), vi (iv (z.1.1 : Nat))] (c, l, x, y) = some (none, c2, l2, x, y) ∧ BD c2 l2 tp n (rwZ tp n o K z) ∧ FS c l c2 l2 := by
  have h20 := hK.1.1
  obtain ⟨c1, g1, g2, g3⟩ := e157 (l := l) (x := x) (y := y) h (show (avZ tp n z).2 = none from hz) (k := 0) (m := nW K) (r := 20) (p := z.1.1) (by omega) hd.1.1 (by omega) (by omega) hp (d + 3)
  have g1 : E (d + 5) 157 [vr 48 0, vi 0, vi 20, vi (iv (z.1.1 : Nat))] (c, l, x, y) = _ := g1
  rw [rwZ_eq, q_156, g1]
  simp only [am_bi_v]
  by_cases e : nW K = 20
  · rw [if_pos e] at g3
    rw [if_pos e, if_neg (show ¬ iv 1 = 0 by decide), if_pos (show 20 ≤ nW K by omega)]
    refine ⟨c1, l, rfl, ?_, FS_FR g2 l⟩
    rw [flZ_none (show (avZ tp n z).2 = none from hz)] at g3
    rw [flZ_none hz]
    exact BD_flt g3
  · rw [if_neg e] at g3
    rw [if_neg e, if_pos (show iv 0 = 0 from rfl), if_neg (show ¬ 20 ≤ nW K by omega)]
    have hd1 := RD_FR g2 hd
    obtain ⟨c2, v, k1, k2, k3, k4⟩ := e158 (x := x) (y := y) g3 hd1 hK d
    have hd2 := RD_FR k2 hd1
    have hf := RZ_flt k3
    rw [k1]
    simp only [am_bl_v, iv_L, hf]
    cases hs : (nsZ tp n K (avZ tp n z)).1 with
    | none =>
      have hn2 := nsZ_none hs
      have hne : ¬ (nsZ tp n K (avZ tp n z)).2.2 = none := fun q => by rw [q] at hn2; cases hn2
      rw [if_neg hne]
      exact ⟨c2, l, rfl, Or.inl ⟨k3, fun q => absurd q hne⟩, FS_FR (g2.tr k2) l⟩
    | some s =>
      have h0 := nsZ_some hs
      have hz2 : (nsZ tp n K (avZ tp n z)).2.2 = none := by rw [h0.2.2.1]; exact hz
      have hv := k4 s hs
      subst hv
      rw [if_pos hz2]
      simp (disch := omega) only [iv_add, iv_sub, iv_mul, iv_neg, iv_lt, iv_le, iv_eq, iv_nat, iv_L, iv_L2, am_bi_v, am_bv_v, am_bl_v, if_pos, if_neg, Int.toNat_natCast, Int.toNat_add, Int.toNat_mul, Int.reduceToNat, hd2.1.1]
      refine ⟨_, _, rfl, Or.inl ⟨?_, fun _ => ?_⟩, ?_⟩
      · exact RZ_dr k3 (by rw [ui_nk _ _ _ _ (by omega), ui_nk _ _ _ _ (by omega)]) (fun k hk => by rw [ui_nk _ _ _ _ (by omega), ui_nk _ _ _ _ (by omega)])
      · refine RD_addW hK hd2 ((RU.ul 69 (nW K) (jv (e27 s)) (by omega)).tr (RU.ui 70 (nW K) (iv (o : Nat)) (by omega))) (ui_self _ _ _ _) ?_
        exact am_ul_self2 69 (nW K) _
      · exact ((FS_FR (g2.tr k2) l).tr ((FS.ul 69 (nW K) (jv (e27 s)) (by omega)))).tr ((FS.ui _ _ _ _ (by omega)).tr (FS.ui _ _ _ _ (by omega)))
theorem m172 (h : RZ c tp n (avZ tp n z)) (hd : RD c l K) (hK : VK K) (d : Nat) : ∃ (c2 : Nat → Nat → Nat → Int32) (l2 : Nat → Nat → Int64), E (d + 6) 172 [vr 48 0] (c, l, x, y) = some (none, c2, l2, x, y) ∧ BD c2 l2 tp n (raZ tp n K z) ∧ FS c l c2 l2 := by
  obtain ⟨c1, v1, a1, a2, a3, a4⟩ := e167 (x := x) (y := y) h hd hK (kd := 0) (by omega) d
  have hd1 := RD_FR a2 hd
  obtain ⟨c2, v2, b1, b2, b3, b4⟩ := e167 (x := x) (y := y) a3 hd1 hK (kd := 1) (by omega) d
  have hd2 := RD_FR b2 hd1
  have hf := RZ_flt b3
  have a1 : E (d + 5) 167 [vr 48 0, vi 0] (c, l, x, y) = _ := a1
  have b1 : E (d + 5) 167 [vr 48 0, vi 1] (c1, l, x, y) = _ := b1
  unfold raZ
  dsimp only
  rw [q_172, a1]
  simp only [am_bi_v]
  rw [b1]
  simp only [am_bi_v, iv_L, hf]
  by_cases e3 : (twZ tp n K 1 (twZ tp n K 0 (avZ tp n z)).2).2.2 = none
  · rw [if_pos e3, if_pos e3]
    have hw2 : (twZ tp n K 1 (twZ tp n K 0 (avZ tp n z)).2).1 ≠ none := fun q => by have := twZ_none q; rw [e3] at this; cases this
    obtain ⟨w2, hw2⟩ := Option.ne_none_iff_exists'.mp hw2
    have h2 := twZ_some hw2
    have hw1 : (twZ tp n K 0 (avZ tp n z)).1 ≠ none := fun q => by have := twZ_none q; rw [h2.2.2.2.1] at this; cases this
    obtain ⟨w1, hw1⟩ := Option.ne_none_iff_exists'.mp hw1
    have e1 := a4 w1 hw1
    have e2 := b4 w2 hw2
    subst e1 e2
    rw [hw1, hw2]
    refine ⟨_, _, rfl, Or.inl ⟨?_, fun _ => RD_setA hd2⟩, (FS_FR (a2.tr b2) l).tr ((FS.ui _ _ _ _ (by omega)).tr (FS.ui _ _ _ _ (by omega)))⟩
    exact RZ_dr b3 (by rw [ui_nk _ _ _ _ (by omega), ui_nk _ _ _ _ (by omega)]) (fun k hk => by rw [ui_nk _ _ _ _ (by omega), ui_nk _ _ _ _ (by omega)])
  · rw [if_neg e3, if_neg e3]
    exact ⟨c2, l, rfl, Or.inl ⟨b3, fun q => absurd q e3⟩, FS_FR (a2.tr b2) l⟩
/-- a slot of a line is told -/
theorem e164 (h : RL c tp n s) (d : Nat) : ∃ (c2 : Nat → Nat → Nat → Int32) (v : Int32), E (d + 5) 164 [vr 48 0] (c, l, x, y) = some (some (vi v), c2, l, x, y) ∧ FR c c2 ∧ match lixT tp n 0 s with
    | some o => if 7 ≤ o ∧ o ≤ 9 then v = iv ((o : Int) - 7) ∧ RZ c2 tp n (nxtT tp n s, none) else RZ c2 tp n (s, some (1, s.1))
    | none => RZ c2 tp n (s, some (1, s.1)) := by
  obtain ⟨c1, g1, g2, g3⟩ := e153 (l := l) (x := x) (y := y) (RL_RZ h) (kd := 58) (W := [119, 104, 111]) (by decide) (d + 1)
  have l7 := her_lix (tp := tp) (n := n) (s := s) (t := 0) (o := 7) (W := [119, 104, 111]) (by decide) rfl
  have l8 := her_lix (tp := tp) (n := n) (s := s) (t := 0) (o := 8) (W := [100, 105, 100]) (by decide) rfl
  rw [q_164, g1]
  simp only [am_bi_v]
  by_cases e7 : lixT tp n 0 s = some 7
  · rw [l7.mpr e7] at g2 ⊢
    rw [if_pos rfl] at g2
    rw [if_pos rfl, if_neg (show ¬ iv 1 = 0 by decide), e7]
    exact ⟨c1, _, rfl, g3, by dsimp only; rw [if_pos (by omega)]; exact ⟨rfl, g2⟩⟩
  · have n7 : herB tp n s [119, 104, 111] = false := by rw [← Bool.not_eq_true]; exact fun q => e7 (l7.mp q)
    rw [n7] at g2 ⊢
    rw [if_neg Bool.false_ne_true] at g2
    rw [if_neg Bool.false_ne_true, if_pos (show iv 0 = 0 from rfl)]
    obtain ⟨c2, k1, k2, k3⟩ := e153 (l := l) (x := x) (y := y) (RL_RZ g2) (kd := 59) (W := [100, 105, 100]) (by decide) (d + 1)
    rw [k1]
    simp only [am_bi_v]
    by_cases e8 : lixT tp n 0 s = some 8
    · rw [l8.mpr e8] at k2 ⊢
      rw [if_pos rfl] at k2
      rw [if_pos rfl, if_neg (show ¬ iv 1 = 0 by decide), e8]
      exact ⟨c2, _, rfl, g3.tr k3, by dsimp only; rw [if_pos (by omega)]; exact ⟨rfl, k2⟩⟩
    · have n8 : herB tp n s [100, 105, 100] = false := by rw [← Bool.not_eq_true]; exact fun q => e8 (l8.mp q)
      rw [n8] at k2 ⊢
      rw [if_neg Bool.false_ne_true] at k2
      rw [if_neg Bool.false_ne_true, if_pos (show iv 0 = 0 from rfl)]
      obtain ⟨c3, j1, j2, j3⟩ := e165 (l := l) (x := x) (y := y) (RL_RZ k2) (t := 0) (own := 9) (kd := 60) (W := [119, 104, 111, 109]) (by decide) (by decide) rfl d
      rw [j1]
      simp only [am_bv_v]
      refine ⟨c3, _, rfl, (g3.tr k3).tr j3, ?_⟩
      unfold tqZ at j2
      dsimp only at j2
      rw [if_neg (show ¬ (none : Option (Nat × Nat)).isSome = true by decide)] at j2
      cases ho : lixT tp n 0 s with
      | none =>
        rw [ho] at j2
        rw [if_neg (by simp)] at j2
        exact j2
      | some o =>
        rw [ho] at j2 e7 e8
        dsimp only
        by_cases e9 : o = 9
        · rw [if_pos (by rw [e9])] at j2
          rw [if_pos (by omega), e9]
          exact ⟨rfl, j2⟩
        · have : ¬ (7 ≤ o ∧ o ≤ 9) := by
            rw [Option.some_inj] at e7 e8
            omega
          rw [if_neg (by rw [Option.some_inj]; exact e9)] at j2
          rw [if_neg this]
          exact j2
end
