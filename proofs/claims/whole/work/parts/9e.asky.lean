/-! the class's ask: the answer -/
def cxS (K : Ct) (F i : Nat) : Cx := ((i : Int), csK K i, (rul K F (csK K i) : Int), b01 ((rul K F (csK K i) : Int) = tru K))
def vlS (q : Cx) (cs : List Nat) : Int := ((run q cs []).getD []).headD 0
def vsS (K : Ct) (F : Nat) (cs : List Nat) (i : Nat) : Int := if i < nC K then vlS (cxS K F i) cs else 0
def askS (tp : Nat → Nat) (n : Nat) (K : Ct) (F : Nat) : Int := if (qsZ tp n (nxtQ tp n 0 false, none)).2.2 = none then ansW ((lixT tp n 1 (nxtQ tp n 0 false)).getD 0) (nC K) (vsS K F (qsZ tp n (nxtQ tp n 0 false, none)).1) else -1000000000000000
/-- what ask() writes -/
def FA (c c2 : Nat → Nat → Nat → Int32) : Prop := (∀ k, k ≠ 1 → k ≠ 44 → k ≠ 45 → c2 k = c k) ∧ ∀ i j, (j < 2 ∨ 6 < j) → c2 1 i j = c 1 i j
section
variable {c : Nat → Nat → Nat → Int32} {l : Nat → Nat → Int64} {x y : Nat} {tp : Nat → Nat} {n : Nat} {z : Tz} {K : Ct} {F : Nat} {q : Cx} {m : Nat}
theorem FA.tr {c1 c2 c3 : Nat → Nat → Nat → Int32} (h : FA c1 c2) (g : FA c2 c3) : FA c1 c3 := ⟨fun k h1 h2 h3 => (g.1 k h1 h2 h3).trans (h.1 k h1 h2 h3), fun i j hj => (g.2 i j hj).trans (h.2 i j hj)⟩
theorem FA_FQ {c2 : Nat → Nat → Nat → Int32} (h : FQ c c2) : FA c c2 := ⟨fun k h1 h2 _ => h.1 k h1 h2, h.2.1⟩
theorem FA.ui (k j : Nat) (v : Int32) (h : k = 44 ∨ k = 45) : FA c (am_ui c k 0 j v) := ⟨fun k2 h1 h2 h3 => ui_nk _ _ _ _ (by omega), fun i j2 _ => by rw [ui_nk _ _ _ _ (by omega)]⟩
theorem FA_JR {c2 : Nat → Nat → Nat → Int32} (h : FA c c2) (g : JR c x K F) : JR c2 x K F := JR_fr g (fun k h1 h2 => h.1 k (by omega) (by omega) (by omega))
theorem FA_TC {c2 : Nat → Nat → Nat → Int32} (h : FA c c2) (g : TC c tp n) : TC c2 tp n := ⟨by rw [h.2 0 1 (by omega)]; exact g.1, fun i hi => by rw [h.1 2 (by omega) (by omega) (by omega)]; exact g.2 i hi⟩
theorem Val_vl {cs : List Nat} {v : Int} (h : Val q cs v) : vlS q cs = v := by
  unfold vlS
  rw [h []]
  rfl
theorem e58_31 (hn : n ≤ 1600) (ht : ∀ i, tp i < 256) (hz : (qsZ tp n (nxtQ tp n 0 false, none)).2.2 = none) {o : Nat} (ho : lixT tp n 1 (nxtQ tp n 0 false) = some o) (d : Nat) : ∀ (k i : Nat) (c : Nat → Nat → Nat → Int32), i + k = nC K → TC c tp n → JR c x K F → RowAt c 47 0 ((List.range (nC K)).map (fun i => rul K F (csK K i))) → CZ c tp n (qsZ tp n (nxtQ tp n 0 false, none)).2 → c 44 0 3 = iv (i : Nat) → (∀ j, j < i → c 45 0 j = iv (vsS K F (qsZ tp n (nxtQ tp n 0 false, none)).1 j) ∧ (-1000000 ≤ vsS K F (qsZ tp n (nxtQ tp n 0 false, none)).1 j ∧ vsS K F (qsZ tp n (nxtQ tp n 0 false, none)).1 j ≤ 1000000) ∧ (o ≤ 2 → vsS K F (qsZ tp n (nxtQ tp n 0 false, none)).1 j = 0 ∨ vsS K F (qsZ tp n (nxtQ tp n 0 false, none)).1 j = 1)) → ∃ c2 : Nat → Nat → Nat → Int32, X (d + 40) 58 31 [some (vr 44 0), some (vr 47 0), some (vi (iv (o : Nat))), some (vi (iv (nC K : Nat)))] [] (c, l, x, y) = some (some (vl (jv (ansW o (nC K) (vsS K F (qsZ tp n (nxtQ tp n 0 false, none)).1)))), c2, l, x, y) ∧ CZ c2 tp n (qsZ tp n (nxtQ tp n 0 false, none)).2 ∧ FA c c2 := by
  intro k
  induction k with
  | zero =>
    intro i c hi hT hJ hR hZ h3 h45
    have h8 := hJ.2.1.2.2.2.2.1.1
    have hlt := lix_lt ho
    have hi : i = nC K := by omega
    subst hi
    rw [q_58_31, h3, if_neg (by rw [iv_lt (by omega) (by omega)]; omega)]
    have e2 : (2 < iv (o : Nat)) = ((2 : Int) < (o : Int)) := iv_lt (a := 2) (by omega) (by omega)
    have hout : ∀ j, ¬ j < nC K → vsS K F (qsZ tp n (nxtQ tp n 0 false, none)).1 j = 0 := fun j hj => by
      unfold vsS
      rw [if_neg hj]
    by_cases o2 : o ≤ 2
    · have h75 := e75 (c := c) (l := l) (x := x) (y := y) (v := vsS K F (qsZ tp n (nxtQ tp n 0 false, none)).1) (m := nC K) h8 o2 (fun j => by
        by_cases e : j < nC K
        · exact (h45 j e).2.2 o2
        · exact Or.inl (hout j e)) (fun j hj => (h45 j hj).1) (d + 37)
      rw [if_neg (fun e => by rw [e2] at e; omega), h75]
      exact ⟨c, rfl, hZ, fun _ _ _ _ => rfl, fun _ _ _ => rfl⟩
    · have ho6 : o < 6 := by
        have hz2 := hz
        unfold qsZ at hz2
        rw [show ((nxtQ tp n 0 false, none) : Tz).1 = nxtQ tp n 0 false from rfl, ho] at hz2
        dsimp only at hz2
        split at hz2
        · rename_i h; exact h
        · exact absurd hz2 (flZ_ns _ _ _)
      have h76 := e76 (c := c) (l := l) (x := x) (y := y) (v := vsS K F (qsZ tp n (nxtQ tp n 0 false, none)).1) (m := nC K) h8 (o := o) (by omega) (fun j => by
        by_cases e : j < nC K
        · exact (h45 j e).2.1
        · rw [hout j e]; omega) (fun j hj => (h45 j hj).1) (d + 38)
      rw [if_pos (by rw [e2]; omega), h76]
      exact ⟨c, rfl, hZ, fun _ _ _ _ => rfl, fun _ _ _ => rfl⟩
  | succ k ih =>
    intro i c hi hT hJ hR hZ h3 h45
    have h8 := hJ.2.1.2.2.2.2.1.1
    have hr2 := rul_lt K F (csK K i)
    have h47 : c 47 0 i = iv (rul K F (csK K i) : Nat) := by
      rw [hR i (by rw [List.length_map, List.length_range]; omega), List.getD_eq_getElem?_getD, List.getElem?_map, List.getElem?_range (by omega)]
      rfl
    have f1 : FA c (am_ui c 44 0 4 (iv (rul K F (csK K i) : Nat))) := FA.ui _ _ _ (by omega)
    obtain ⟨c1, a1, a2, a3⟩ := e91 (l := l) (x := x) (y := y) (FA_TC f1 hT) hn ht (d + 36)
    have f2 : FA c c1 := f1.tr (FA_FQ (FQ_FZ a3))
    have hX : CX c1 x K F (cxS K F i) := by
      refine ⟨?_, ?_, Or.inr ⟨i, by omega, rfl, rfl⟩, ⟨by show (0 : Int) ≤ (rul K F (csK K i) : Nat); omega, by show ((rul K F (csK K i) : Nat) : Int) ≤ 2; omega⟩, rfl, FA_JR f2 hJ⟩
      · rw [a3.1 44 (by omega), ui_ne _ _ _ _ (by omega)]; exact h3
      · rw [a3.1 44 (by omega), ui_self]; rfl
    obtain ⟨c2, r, b1, b2, b3, b4⟩ := e59 (l := l) (y := y) hn ht (d := d + 39) (by omega) a2 hX rfl
    obtain ⟨o', v, p1, p2, p3, p4, p5, p6⟩ := b4 hz
    have hoo : o' = o := by
      have : lixT tp n 1 (nxtQ tp n 0 false) = some o' := p1
      rw [ho] at this
      exact (Option.some.inj this).symm
    subst hoo
    have f3 : FA c c2 := f2.tr (FA_FQ b3)
    have h3c1 : c1 44 0 3 = iv (i : Nat) := by rw [a3.1 44 (by omega), ui_ne _ _ _ _ (by omega)]; exact h3
    have h3c2 : c2 44 0 3 = iv (i : Nat) := by rw [b3.2.2 0 3 (by omega)]; exact h3c1
    have hvv : vsS K F (qsZ tp n (nxtQ tp n 0 false, none)).1 i = v := by
      unfold vsS
      rw [if_pos (by omega)]
      exact Val_vl p6
    have f4 : FA c (am_ui (am_ui c2 45 0 i r) 44 0 3 (iv ((i + 1 : Nat) : Int))) := f3.tr ((FA.ui _ _ _ (by omega)).tr (FA.ui _ _ _ (by omega)))
    obtain ⟨c3, g1, g2, g3⟩ := ih (i + 1) (am_ui (am_ui c2 45 0 i r) 44 0 3 (iv ((i + 1 : Nat) : Int))) (by omega) (FA_TC f4 hT) (FA_JR f4 hJ) (fun k hk => by rw [f4.1 47 (by omega) (by omega) (by omega)]; exact hR k hk) (CZ_FD b2 (by rw [ui_nk _ _ _ _ (by omega), ui_nk _ _ _ _ (by omega)]) (by rw [ui_nk _ _ _ _ (by omega), ui_nk _ _ _ _ (by omega)])) (ui_self _ _ _ _) (fun j hj => by
      rw [ui_nk _ _ _ _ (by omega)]
      by_cases e : j = i
      · rw [e, ui_self, hvv]
        exact ⟨p3, p4, p5⟩
      · rw [ui_ne _ _ _ _ (by omega), b3.1 45 (by omega) (by omega), a3.1 45 (by omega), ui_nk _ _ _ _ (by omega)]
        exact h45 j (by omega))
    refine ⟨c3, ?_, g2, f4.tr g3⟩
    rw [← g1, q_58_31]
    have hlt : iv (i : Nat) < iv (nC K : Nat) := by rw [iv_lt (by omega) (by omega)]; omega
    have hlo : ¬ (iv (i : Nat) < 0 ∨ 8 ≤ (iv (i : Nat)).toNatClampNeg) := by
      have h0 : (iv (i : Nat) < 0) = ((i : Int) < 0) := iv_lt (b := 0) (by omega) (by omega)
      rw [h0, iv_nat (by omega)]
      omega
    have hi1 : iv (i : Nat) + 1 = iv ((i + 1 : Nat) : Int) := by
      show iv (i : Nat) + iv 1 = _
      rw [iv_add]
      rfl
    rw [h3, if_pos hlt, if_neg hlo, iv_nat (by omega), Int.toNat_natCast, h47, a1]
    simp only [am_bv_v]
    rw [b1]
    simp only [am_bi_v]
    rw [h3c1, if_neg hlo, iv_nat (by omega), Int.toNat_natCast, h3c2, hi1]
theorem e58 (hn : n ≤ 1600) (ht : ∀ i, tp i < 256) (hT : TC c tp n) (hJ : JR c x K F) (hR : RowAt c 47 0 ((List.range (nC K)).map (fun i => rul K F (csK K i)))) (d : Nat) : ∃ c2 : Nat → Nat → Nat → Int32, E (d + 40) 58 [vr 44 0, vr 47 0] (c, l, x, y) = some (some (vl (jv (askS tp n K F))), c2, l, x, y) ∧ CZ c2 tp n (qsZ tp n (nxtQ tp n 0 false, none)).2 ∧ FA c c2 := by
  obtain ⟨c1, a1, a2, a3⟩ := e91 (l := l) (x := x) (y := y) hT hn ht (d + 36)
  have h94 := e94 (l := l) (x := x) (y := y) a2 hn ht (t := 1) (by decide) (d + 38)
  have f1 : FA c c1 := FA_FQ (FQ_FZ a3)
  have f2 : FA c (am_ui (am_ui c1 44 0 3 (iv (-1))) 44 0 4 (iv 0)) := f1.tr ((FA.ui _ _ _ (by omega)).tr (FA.ui _ _ _ (by omega)))
  have hX : CX (am_ui (am_ui c1 44 0 3 (iv (-1))) 44 0 4 (iv 0)) x K F (-1, [], 0, b01 ((0 : Int) = tru K)) := ⟨by rw [ui_ne _ _ _ _ (by omega), ui_self], ui_self _ _ _ _, Or.inl ⟨rfl, rfl⟩, ⟨by show (0 : Int) ≤ 0; omega, by show (0 : Int) ≤ 2; omega⟩, rfl, FA_JR f2 hJ⟩
  obtain ⟨c2, r, b1, b2, b3, b4⟩ := e59 (l := l) (y := y) hn ht (d := d + 39) (by omega) (CZ_FD a2 (c2 := am_ui (am_ui c1 44 0 3 (iv (-1))) 44 0 4 (iv 0)) (by rw [ui_nk _ _ _ _ (by omega), ui_nk _ _ _ _ (by omega)]) (by rw [ui_nk _ _ _ _ (by omega), ui_nk _ _ _ _ (by omega)])) hX rfl
  have b1 : E (d + 39) 59 [vr 44 0] (am_ui (am_ui c1 44 0 3 (-1)) 44 0 4 0, l, x, y) = _ := b1
  have f3 : FA c c2 := f2.tr (FA_FQ b3)
  have hf : (c2 1 0 5 = 0) = ((qsZ tp n (nxtQ tp n 0 false, none)).2.2 = none) := CZ_flt b2
  have hJ2 := FA_JR f3 hJ
  have h13 : c2 4 x 13 = iv (nC K) := hJ2.1.2.2.2.2.1.1
  rw [q_58, a1]
  simp only [am_bv_v]
  rw [h94]
  simp only [am_bi_v]
  rw [b1]
  simp only [am_bi_v]
  unfold askS
  by_cases hz : (qsZ tp n (nxtQ tp n 0 false, none)).2.2 = none
  · obtain ⟨o, v, p1, -⟩ := b4 hz
    have p1 : lixT tp n 1 (nxtQ tp n 0 false) = some o := p1
    have f4 : FA c (am_ui c2 44 0 3 (iv ((0 : Nat) : Int))) := f3.tr (FA.ui _ _ _ (by omega))
    obtain ⟨c3, g1, g2, g3⟩ := e58_31 (l := l) (y := y) hn ht hz p1 d (nC K) 0 (am_ui c2 44 0 3 (iv ((0 : Nat) : Int))) (by omega) (FA_TC f4 hT) (FA_JR f4 hJ) (fun k hk => by rw [f4.1 47 (by omega) (by omega) (by omega)]; exact hR k hk) (CZ_FD b2 (ui_nk _ _ _ _ (by omega)) (ui_nk _ _ _ _ (by omega))) (ui_self _ _ _ _) (fun j hj => absurd hj (Nat.not_lt_zero _))
    have hp : lixT tp n 1 ((nxtQ tp n 0 false, none) : Tz).1 = some o := p1
    refine ⟨c3, ?_, g2, f4.tr g3⟩
    rw [if_pos (hf.mpr hz), hp, h13, if_pos hz]
    exact g1
  · rw [if_neg (fun e => hz (hf.mp e)), if_neg hz]
    exact ⟨c2, rfl, b2, f3⟩
end
