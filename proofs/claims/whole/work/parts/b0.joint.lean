/-! class and reference side by side: the invariant -/
def JI (g : mg) (K : Ct) (F : Nat) (row : List (Nat × Nat)) (tp : Nat → Nat) (n : Nat) (fa fp : Int) (rf : Nat → Int32) (sd : Int) (oc : List Nat) : Prop := AC g.1 g.2.2.1 g.2.2.2 K F row tp n fa fp rf sd oc ∧ AR g.1 g.2.1 K F row tp n fa fp rf sd oc ∧ VS K F row tp n fa fp sd oc ∧ ChC g.1 K F ∧ PlC g.1 K F
def INV (g : mg) : Prop := ∃ K F row tp n fa fp rf sd oc, JI g K F row tp n fa fp rf sd oc
/-- the answer is of the method's kind: an int, a long -/
def RK (y : Nat) (r : mv) : Prop := match r with
  | .inl _ => Nat.beq (am_head y).2.2 3 = false
  | .inr (.inl _) => Nat.beq (am_head y).2.2 3 = true
  | _ => False
/-- one call of both: the same answer, and the invariant again -/
def ST (y1 y2 : Nat) (as : List mv) (g : mg) : Prop := ∃ (r : mv) (g1 g2 : mg), RK y1 r ∧ E 45 y1 (vr 0 0 :: as) g = some (some r, g1) ∧ E 45 y2 (vr 48 0 :: as) g1 = some (some r, g2) ∧ (g1.2.2.1 < 2 ∧ g1.2.2.2 < 2) ∧ INV g2
section
variable {c c2 c3 : Nat → Nat → Nat → Int32} {l l2 l3 : Nat → Nat → Int64} {x y : Nat} {K : Ct} {F : Nat} {row : List (Nat × Nat)} {tp : Nat → Nat} {n : Nat} {fa fp : Int} {rf : Nat → Int32} {sd : Int} {oc : List Nat}
theorem AR_fr (h : AR c l K F row tp n fa fp rf sd oc) (hf : ∀ k, 48 ≤ k → c2 k = c k) : AR c2 l K F row tp n fa fp rf sd oc := by
  obtain ⟨g1, g2, g3, g4, g5, g6, g7⟩ := h
  refine ⟨?_, ⟨?_, RowAt_fr g2.2.1 (hf 77 (by omega)), RowAt_fr g2.2.2 (hf 78 (by omega))⟩, ⟨?_, RowAt_fr g3.2 (hf 111 (by omega))⟩, ?_, ?_, g6, CH_fr g7 (fun k hk => hf k (by omega))⟩
  · unfold RR RS at g1 ⊢
    rw [hf 68 (by omega), hf 70 (by omega), hf 72 (by omega), hf 73 (by omega), hf 74 (by omega), hf 75 (by omega), hf 76 (by omega), hf 48 (by omega)]
    exact g1
  · rw [hf 48 (by omega)]; exact g2.1
  · rw [hf 48 (by omega)]; exact g3.1
  · rw [hf 48 (by omega), hf 49 (by omega)]; exact g4
  · rw [hf 50 (by omega)]; exact g5
theorem ChC_fr (h : ChC c K F) (hf : ∀ k, 36 ≤ k → k ≤ 43 → c2 k = c k) : ChC c2 K F := by
  unfold ChC at h ⊢
  rw [hf 36 (by omega) (by omega), hf 37 (by omega) (by omega), hf 39 (by omega) (by omega), hf 41 (by omega) (by omega), hf 43 (by omega) (by omega)]
  exact h
theorem PlC_fr (h : PlC c K F) (hf : ∀ k, 27 ≤ k → k ≤ 32 → c2 k = c k) : PlC c2 K F := by
  unfold PlC PW at h ⊢
  rw [hf 28 (by omega) (by omega), hf 30 (by omega) (by omega), hf 32 (by omega) (by omega)]
  exact h
theorem ChC_PF (h : PF c) (hK : VK K) : ChC c K F := by
  refine ⟨fun q => absurd h.2.1 q, fun b hb q => ?_⟩
  have := hK.2.2.2.1.1
  exact absurd (h.2.2 b (by omega)) q
theorem PlC_PF (h : PF c) : PlC c K F := fun p hp => Or.inl (h.1 p hp)
/-- a step out of its parts -/
theorem ST_mk {y1 y2 x2 y3 : Nat} {as : List mv} {r : mv} {g : mg} {K2 : Ct} {F2 : Nat} {row2 : List (Nat × Nat)} {tp2 : Nat → Nat} {n2 : Nat} {fa2 fp2 : Int} {rf2 : Nat → Int32} {sd2 : Int} {oc2 : List Nat} (h1 : E 45 y1 (vr 0 0 :: as) g = some (some r, c2, l2, x2, y3)) (hA : AC c2 x2 y3 K2 F2 row2 tp2 n2 fa2 fp2 rf2 sd2 oc2) (hC : ChC c2 K2 F2) (hP : PlC c2 K2 F2) (h2 : E 45 y2 (vr 48 0 :: as) (c2, l2, x2, y3) = some (some r, c3, l3, x2, y3)) (hR : AR c3 l3 K2 F2 row2 tp2 n2 fa2 fp2 rf2 sd2 oc2) (hL : KL c2 c3) (hV : VS K2 F2 row2 tp2 n2 fa2 fp2 sd2 oc2) (hr : RK y1 r := by exact rfl) : ST y1 y2 as g :=
  ⟨r, _, _, hr, h1, h2, ⟨hA.2.1.1, hA.2.1.2.1⟩, K2, F2, row2, tp2, n2, fa2, fp2, rf2, sd2, oc2, AC_fr hA (fun k hk => hL k (by omega)), hR, hV, ChC_fr hC (fun k k1 k2 => hL k (by omega)), PlC_fr hP (fun k k1 k2 => hL k (by omega))⟩
/-- a query of both -/
theorem ST_q {y1 y2 : Nat} {as : List mv} {r : mv} (h : JI (c, l, x, y) K F row tp n fa fp rf sd oc) (h1 : E 45 y1 (vr 0 0 :: as) (c, l, x, y) = some (some r, c, l, x, y)) (h2 : ∃ c3, E 45 y2 (vr 48 0 :: as) (c, l, x, y) = some (some r, c3, l, x, y) ∧ Sx c c3) (hr : RK y1 r := by exact rfl) : ST y1 y2 as (c, l, x, y) := by
  obtain ⟨hA, hR, hV, hC, hP⟩ := h
  obtain ⟨c3, g1, g2⟩ := h2
  exact ST_mk h1 hA hC hP g1 (AR_Sy (Sx_Sy g2) hR) (Sx_KL g2) hV hr
theorem ST_q0 {y1 y2 : Nat} {as : List mv} {r : mv} (h : JI (c, l, x, y) K F row tp n fa fp rf sd oc) (h1 : E 45 y1 (vr 0 0 :: as) (c, l, x, y) = some (some r, c, l, x, y)) (h2 : E 45 y2 (vr 48 0 :: as) (c, l, x, y) = some (some r, c, l, x, y)) (hr : RK y1 r := by exact rfl) : ST y1 y2 as (c, l, x, y) := ST_q h h1 ⟨c, h2, Sx.rf c⟩ hr
/-- a move of both; what was found stands -/
theorem ST_c {y1 y2 : Nat} {as : List mv} {r : mv} {row2 : List (Nat × Nat)} {tp2 : Nat → Nat} {n2 : Nat} {fa2 fp2 : Int} {rf2 : Nat → Int32} {sd2 : Int} {oc2 : List Nat} (h : JI (c, l, x, y) K F row tp n fa fp rf sd oc) (h1 : ∃ c2, E 45 y1 (vr 0 0 :: as) (c, l, x, y) = some (some r, c2, l, x, y) ∧ AC c2 x y K F row2 tp2 n2 fa2 fp2 rf2 sd2 oc2 ∧ KC c c2) (h2 : ∀ c2 : Nat → Nat → Nat → Int32, AR c2 l K F row tp n fa fp rf sd oc → ∃ c3 l3, E 45 y2 (vr 48 0 :: as) (c2, l, x, y) = some (some r, c3, l3, x, y) ∧ AR c3 l3 K F row2 tp2 n2 fa2 fp2 rf2 sd2 oc2 ∧ KL c2 c3) (hV : VS K F row2 tp2 n2 fa2 fp2 sd2 oc2) (hr : RK y1 r := by exact rfl) : ST y1 y2 as (c, l, x, y) := by
  obtain ⟨hA, hR, hV0, hC, hP⟩ := h
  obtain ⟨c2, a1, a2, a3⟩ := h1
  obtain ⟨c3, l3, b1, b2, b3⟩ := h2 c2 (AR_fr hR (fun k hk => a3 k (by omega)))
  exact ST_mk a1 a2 (ChC_fr hC (fun k k1 k2 => a3 k (by omega))) (PlC_fr hP (fun k k1 k2 => a3 k (by omega))) b1 b2 b3 hV hr
end
/-! the calls -/
section
variable {g : mg}
theorem st_fault (h : INV g) (z : Int32) : ST 106 178 [vi z] g := by
  obtain ⟨K, F, row, tp, n, fa, fp, rf, sd, oc, h⟩ := h
  have a := k106 (l := g.2.1) h.1 (iv_ge z) 44
  have b := m178 (x := g.2.2.1) (y := g.2.2.2) h.2.1 (iv_ge z) 44
  rw [← iv_self z] at a b
  exact ST_q0 h a b
theorem st_court (h : INV g) (z : Int32) : ST 107 179 [vi z] g := by
  obtain ⟨K, F, row, tp, n, fa, fp, rf, sd, oc, h⟩ := h
  have a := k107 (l := g.2.1) h.1 (iv_ge z) 44
  have b := m179 (x := g.2.2.1) (y := g.2.2.2) h.2.1 h.2.2.1 (iv_ge z) 43
  rw [← iv_self z] at a b
  exact ST_q0 h a b
theorem st_word (h : INV g) (w z : Int32) : ST 108 181 [vi w, vi z] g := by
  obtain ⟨K, F, row, tp, n, fa, fp, rf, sd, oc, h⟩ := h
  have a := k108 (l := g.2.1) h.1 h.2.2.1 (iv_ge w) (iv_ge z) 41
  have b := m181 (x := g.2.2.1) (y := g.2.2.2) h.2.1 h.2.2.1 (iv_ge w) (iv_ge z) 42
  rw [← iv_self z, ← iv_self w] at a b
  exact ST_q0 h a b
theorem st_bench (h : INV g) (w z : Int32) : ST 110 190 [vi w, vi z] g := by
  obtain ⟨K, F, row, tp, n, fa, fp, rf, sd, oc, h⟩ := h
  have a := k110 (l := g.2.1) h.1 h.2.2.1 (iv_ge w) (iv_ge z) 43
  have b := m190 (x := g.2.2.1) (y := g.2.2.2) h.2.1 h.2.2.1 (iv_ge w) (iv_ge z) 42
  rw [← iv_self z, ← iv_self w] at a b
  exact ST_q0 h a b
theorem st_grammar (h : INV g) (w z : Int32) : ST 111 193 [vi w, vi z] g := by
  obtain ⟨K, F, row, tp, n, fa, fp, rf, sd, oc, h⟩ := h
  have a := k111 (l := g.2.1) h.1 (iv_ge w) (iv_ge z) 43
  have b := m193 (x := g.2.2.1) (y := g.2.2.2) h.2.1 (iv_ge w) (iv_ge z) 43
  rw [← iv_self z, ← iv_self w] at a b
  exact ST_q0 h a b
theorem st_row (h : INV g) (w z : Int32) : ST 112 194 [vi w, vi z] g := by
  obtain ⟨K, F, row, tp, n, fa, fp, rf, sd, oc, h⟩ := h
  have a := k112 (l := g.2.1) h.1 h.2.2.1 (iv_ge w) (iv_ge z) 44
  have b := m194 (x := g.2.2.1) (y := g.2.2.2) h.2.1 h.2.2.1 (iv_ge w) (iv_ge z) 43
  rw [← iv_self z, ← iv_self w] at a b
  exact ST_q0 h a b
theorem st_say (h : INV g) (w z : Int32) : ST 113 195 [vi w, vi z] g := by
  obtain ⟨K, F, row, tp, n, fa, fp, rf, sd, oc, h⟩ := h
  have a := k113 (l := g.2.1) h.1 h.2.2.1 (iv_ge w) (iv_ge z) 42
  rw [← iv_self z, ← iv_self w] at a
  refine ST_c h a (fun c2 hR => ?_) (VS_say h.2.2.1 _ _)
  obtain ⟨c3, b1, b2, b3⟩ := m195 (x := g.2.2.1) (y := g.2.2.2) hR h.2.2.1 (iv_ge w) (iv_ge z) 42
  rw [← iv_self z, ← iv_self w] at b1
  exact ⟨c3, _, b1, b2, b3⟩
theorem st_back (h : INV g) : ST 114 197 [] g := by
  obtain ⟨K, F, row, tp, n, fa, fp, rf, sd, oc, h⟩ := h
  refine ST_c h (k114 (l := g.2.1) h.1 h.2.2.1 44) (fun c2 hR => ?_) (VS_take h.2.2.1 _)
  obtain ⟨c3, b1, b2, b3⟩ := m197 (x := g.2.2.1) (y := g.2.2.2) hR h.2.2.1 44
  exact ⟨c3, _, b1, b2, b3⟩
theorem st_clear (h : INV g) : ST 115 198 [] g := by
  obtain ⟨K, F, row, tp, n, fa, fp, rf, sd, oc, h⟩ := h
  refine ST_c h (k115 (l := g.2.1) h.1 44) (fun c2 hR => ?_) (VS_take (row := row) h.2.2.1 0)
  obtain ⟨c3, b1, b2, b3⟩ := m198 (x := g.2.2.1) (y := g.2.2.2) hR 44
  exact ⟨c3, _, b1, b2, b3⟩
theorem st_sense (h : INV g) : ST 117 200 [] g := by
  obtain ⟨K, F, row, tp, n, fa, fp, rf, sd, oc, h⟩ := h
  exact ST_q h (k117 (l := g.2.1) h.1 h.2.2.1 39) (m200 (x := g.2.2.1) (y := g.2.2.2) h.2.1 h.2.2.1 38)
theorem st_means (h : INV g) (w z : Int32) : ST 118 208 [vi w, vi z] g := by
  obtain ⟨K, F, row, tp, n, fa, fp, rf, sd, oc, h⟩ := h
  have a := k118 (l := g.2.1) h.1 h.2.2.1 (iv_ge w) (iv_ge z) 38
  have b := m208 (x := g.2.2.1) (y := g.2.2.2) h.2.1 h.2.2.1 (iv_ge w) (iv_ge z) 38
  rw [← iv_self z, ← iv_self w] at a b
  exact ST_q h a b
theorem st_exact (h : INV g) (z : Int32) : ST 119 209 [vi z] g := by
  obtain ⟨K, F, row, tp, n, fa, fp, rf, sd, oc, h⟩ := h
  have a := k119 (l := g.2.1) h.1 h.2.2.1 (iv_ge z) 38
  have b := m209 (x := g.2.2.1) (y := g.2.2.2) h.2.1 h.2.2.1 (iv_ge z) 38
  rw [← iv_self z] at a b
  exact ST_q h a b
theorem st_ruling (h : INV g) (z : Int32) : ST 121 213 [vi z] g := by
  obtain ⟨K, F, row, tp, n, fa, fp, rf, sd, oc, h⟩ := h
  have a := k121 (l := g.2.1) h.1 h.2.2.1 (iv_ge z) 38
  have b := m213 (x := g.2.2.1) (y := g.2.2.2) h.2.1 h.2.2.1 (iv_ge z) 37
  rw [← iv_self z] at a b
  exact ST_q h a b
theorem st_instance (h : INV g) (w z : Int32) : ST 122 217 [vi w, vi z] g := by
  obtain ⟨K, F, row, tp, n, fa, fp, rf, sd, oc, h⟩ := h
  have a := k122 (l := g.2.1) h.1 h.2.2.1 (iv_ge w) (iv_ge z) 38
  have b := m217 (x := g.2.2.1) (y := g.2.2.2) h.2.1 h.2.2.1 (iv_ge w) (iv_ge z) 37
  rw [← iv_self z, ← iv_self w] at a b
  exact ST_q h a b
theorem st_all (h : INV g) (z : Int32) : ST 124 231 [vi z] g := by
  obtain ⟨K, F, row, tp, n, fa, fp, rf, sd, oc, h⟩ := h
  have a := k124 (l := g.2.1) h.1 h.2.2.1 (iv_ge z) 38
  have b := m231 (x := g.2.2.1) (y := g.2.2.2) h.2.1 h.2.2.1 (iv_ge z) 37
  rw [← iv_self z] at a b
  exact ST_q h a b
theorem st_one (h : INV g) (z : Int32) : ST 126 233 [vi z] g := by
  obtain ⟨K, F, row, tp, n, fa, fp, rf, sd, oc, h⟩ := h
  have a := k126 (l := g.2.1) h.1 h.2.2.1 (iv_ge z) 38
  have b := m233 (x := g.2.2.1) (y := g.2.2.2) h.2.1 h.2.2.1 (iv_ge z) 37
  rw [← iv_self z] at a b
  exact ST_q h a b
theorem st_ill (h : INV g) (z : Int32) : ST 127 234 [vi z] g := by
  obtain ⟨K, F, row, tp, n, fa, fp, rf, sd, oc, h⟩ := h
  have a := k127 (l := g.2.1) h.1 h.2.2.1 (iv_ge z) 39
  have b := m234 (x := g.2.2.1) (y := g.2.2.2) h.2.1 h.2.2.1 (iv_ge z) 38
  rw [← iv_self z] at a b
  exact ST_q h a b
theorem st_between (h : INV g) (w z : Int32) : ST 128 235 [vi w, vi z] g := by
  obtain ⟨K, F, row, tp, n, fa, fp, rf, sd, oc, h⟩ := h
  have a := k128 (l := g.2.1) h.1 h.2.2.1 (iv_ge w) (iv_ge z) 39
  have b := m235 (x := g.2.2.1) (y := g.2.2.2) h.2.1 h.2.2.1 (iv_ge w) (iv_ge z) 38
  rw [← iv_self z, ← iv_self w] at a b
  exact ST_q h a b
theorem st_place (h : INV g) (z : Int32) : ST 130 241 [vi z] g := by
  obtain ⟨K, F, row, tp, n, fa, fp, rf, sd, oc, h⟩ := h
  have a := k130 (l := g.2.1) h.1 h.2.2.1 (iv_ge z) 38
  have b := m241 (x := g.2.2.1) (y := g.2.2.2) h.2.1.1 (iv_ge z) 37
  rw [← iv_self z] at a b
  exact ST_q h a b
theorem st_octet (h : INV g) (z : Int32) : ST 144 290 [vi z] g := by
  obtain ⟨K, F, row, tp, n, fa, fp, rf, sd, oc, h⟩ := h
  have a := k144 (l := g.2.1) h.1 h.2.2.1 (iv_ge z) 44
  have b := m290 (x := g.2.2.1) (y := g.2.2.2) h.2.1 h.2.2.1 (iv_ge z) 44
  rw [← iv_self z] at a b
  exact ST_q0 h a b
theorem st_status (h : INV g) (z : Int32) : ST 146 293 [vi z] g := by
  obtain ⟨K, F, row, tp, n, fa, fp, rf, sd, oc, h⟩ := h
  have a := k146 (l := g.2.1) h.1 (iv_ge z) 44
  have b := m293 (x := g.2.2.1) (y := g.2.2.2) h.2.1 (iv_ge z) 43
  rw [← iv_self z] at a b
  exact ST_q0 h a b
theorem st_feed (h : INV g) (z1 z2 z3 z4 z5 : Int32) : ST 101 147 [vi z1, vi z2, vi z3, vi z4, vi z5] g := by
  obtain ⟨K, F, row, tp, n, fa, fp, rf, sd, oc, h⟩ := h
  have a := k101 (l := g.2.1) h.1 h.2.2.1 (iv_ge z1) (iv_ge z2) (iv_ge z3) (iv_ge z4) (iv_ge z5) 43
  rw [← iv_self z1, ← iv_self z2, ← iv_self z3, ← iv_self z4, ← iv_self z5] at a
  refine ST_c h a (fun c2 hR => ?_) (VS_feed h.2.2.1 _ _ _ _ _)
  obtain ⟨c3, b1, b2, b3⟩ := m147 (x := g.2.2.1) (y := g.2.2.2) hR h.2.2.1 (iv_ge z1) (iv_ge z2) (iv_ge z3) (iv_ge z4) (iv_ge z5) 44
  rw [← iv_self z1, ← iv_self z2, ← iv_self z3, ← iv_self z4, ← iv_self z5] at b1
  exact ⟨c3, _, b1, b2, b3⟩
theorem st_ende (h : INV g) (z : Int32) : ST 102 148 [vi z] g := by
  obtain ⟨K, F, row, tp, n, fa, fp, rf, sd, oc, h⟩ := h
  have a := k102 (l := g.2.1) h.1 h.2.2.1 (iv_ge z) 44
  rw [← iv_self z] at a
  have hV : VS K F row tp (if 0 ≤ z.toInt ∧ z.toInt ≤ n then z.toInt.toNat else n) fa fp sd oc := by
    refine ⟨h.2.2.1.1, h.2.2.1.2.1, h.2.2.1.2.2.1, ⟨?_, h.2.2.1.2.2.2.1.2⟩, h.2.2.1.2.2.2.2⟩
    have := h.2.2.1.2.2.2.1.1
    split <;> omega
  refine ST_c h a (fun c2 hR => ?_) hV
  obtain ⟨c3, b1, b2, b3⟩ := m148 (x := g.2.2.1) (y := g.2.2.2) hR h.2.2.1 (iv_ge z) 44
  rw [← iv_self z] at b1
  exact ⟨c3, _, b1, b2, b3⟩
theorem st_seed (h : INV g) (z : Int32) : ST 137 248 [vi z] g := by
  obtain ⟨K, F, row, tp, n, fa, fp, rf, sd, oc, h⟩ := h
  have a := k137 (l := g.2.1) h.1 (iv_ge z) 44
  rw [← iv_self z] at a
  have hz := iv_ge z
  have hV : VS K F row tp n fa fp (if z.toInt < 0 then sd else z.toInt) oc := by
    refine ⟨h.2.2.1.1, h.2.2.1.2.1, h.2.2.1.2.2.1, h.2.2.1.2.2.2.1, h.2.2.1.2.2.2.2.1, h.2.2.1.2.2.2.2.2.1, ?_, h.2.2.1.2.2.2.2.2.2.2⟩
    have := h.2.2.1.2.2.2.2.2.2.1
    split <;> omega
  refine ST_c h a (fun c2 hR => ?_) hV
  obtain ⟨c3, l3, b1, b2, b3⟩ := m248 (x := g.2.2.1) (y := g.2.2.2) hR (iv_ge z) 44
  rw [← iv_self z] at b1
  exact ⟨c3, l3, b1, b2, b3⟩
theorem st_image (h : INV g) : ST 143 288 [] g := by
  obtain ⟨K, F, row, tp, n, fa, fp, rf, sd, oc, h⟩ := h
  refine ST_c h (k143 (l := g.2.1) h.1 h.2.2.1 42) (fun c2 hR => ?_) (VS_image h.2.2.1)
  obtain ⟨c3, b1, b2, b3⟩ := m288 (x := g.2.2.1) (y := g.2.2.2) hR h.2.2.1 43
  exact ⟨c3, _, b1, b2, b3⟩
theorem st_turned (h : INV g) (z : Int32) : ST 131 242 [vi z] g := by
  obtain ⟨K, F, row, tp, n, fa, fp, rf, sd, oc, h⟩ := h
  obtain ⟨c2, a1, a2, a3⟩ := k131 (l := g.2.1) h.1 h.2.2.1 (iv_ge z) 37
  obtain ⟨c3, b1, b2⟩ := m242 (x := g.2.2.1) (y := g.2.2.2) (AR_fr (c2 := c2) h.2.1 (fun k hk => a3 k (by omega) (by omega) (by omega) (by omega))) h.2.2.1 (iv_ge z) 37
  rw [← iv_self z] at a1 b1
  have hA := AC_JR h.1 a2 h.1.2.1 (fun k hk => a3 k (by omega) (by omega) (by omega) (by omega))
  exact ST_mk a1 hA (ChC_fr h.2.2.2.1 (fun k k1 k2 => a3 k (by omega) (by omega) (by omega) (by omega))) (PlC_fr h.2.2.2.2 (fun k k1 k2 => a3 k (by omega) (by omega) (by omega) (by omega))) b1 (AR_Sy (Sx_Sy b2) (AR_fr h.2.1 (fun k hk => a3 k (by omega) (by omega) (by omega) (by omega)))) (Sx_KL b2) h.2.2.1
theorem st_cases (h : INV g) (z : Int32) : ST 133 243 [vi z] g := by
  obtain ⟨K, F, row, tp, n, fa, fp, rf, sd, oc, h⟩ := h
  obtain ⟨c2, a1, a3⟩ := k133 (l := g.2.1) h.1 (iv_ge z) 37
  have hR := AR_fr (c2 := c2) h.2.1 (fun k hk => a3 k (by omega))
  obtain ⟨c3, b1, b2⟩ := m243 (x := g.2.2.1) (y := g.2.2.2) hR.1 (iv_ge z) 37
  rw [← iv_self z] at a1 b1
  exact ST_mk a1 (AC_fr h.1 (fun k hk => a3 k (by omega))) (ChC_fr h.2.2.2.1 (fun k k1 k2 => a3 k (by omega))) (PlC_fr h.2.2.2.2 (fun k k1 k2 => a3 k (by omega))) b1 (AR_Sy (Sx_Sy b2) hR) (Sx_KL b2) h.2.2.1
theorem st_order (h : INV g) (w z : Int32) : ST 135 244 [vi w, vi z] g := by
  obtain ⟨K, F, row, tp, n, fa, fp, rf, sd, oc, h⟩ := h
  obtain ⟨c2, a1, a3⟩ := k135 (l := g.2.1) h.1 (iv_ge w) (iv_ge z) 39
  have hR := AR_fr (c2 := c2) h.2.1 (fun k hk => a3 k (by omega))
  obtain ⟨c3, b1, b2⟩ := m244 (x := g.2.2.1) (y := g.2.2.2) hR.1 (iv_ge w) (iv_ge z) 37
  rw [← iv_self z, ← iv_self w] at a1 b1
  exact ST_mk a1 (AC_fr h.1 (fun k hk => a3 k (by omega))) (ChC_fr h.2.2.2.1 (fun k k1 k2 => a3 k (by omega))) (PlC_fr h.2.2.2.2 (fun k k1 k2 => a3 k (by omega))) b1 (AR_Sy b2 hR) (Sy_KL b2) h.2.2.1
theorem st_lots (h : INV g) (z : Int32) : ST 136 249 [vi z] g := by
  obtain ⟨K, F, row, tp, n, fa, fp, rf, sd, oc, h⟩ := h
  obtain ⟨c2, a1, a2, a3⟩ := k136 (l := g.2.1) h.1 h.2.2.1 (iv_ge z) 39
  obtain ⟨hA, hKC⟩ := AC_SO h.1 a2 a3
  have hR := AR_fr (c2 := c2) h.2.1 (fun k hk => hKC k (by omega))
  obtain ⟨c3, l3, b1, b2, b3, b4⟩ := m249 (x := g.2.2.1) (y := g.2.2.2) hR h.2.2.1 (iv_ge z) 37
  rw [← iv_self z] at a1 b1
  have hsd := h.2.2.1.2.2.2.2.2.2.1
  have hV : VS K F row tp n fa fp (lotsR K F sd z.toInt).2 oc := by
    refine ⟨h.2.2.1.1, h.2.2.1.2.1, h.2.2.1.2.2.1, h.2.2.1.2.2.2.1, h.2.2.1.2.2.2.2.1, h.2.2.1.2.2.2.2.2.1, ?_, h.2.2.1.2.2.2.2.2.2.2⟩
    unfold lotsR
    split
    · exact (lotsS_bd _ _ hsd).1
    · exact hsd
  exact ST_mk a1 hA (ChC_fr h.2.2.2.1 (fun k k1 k2 => hKC k (by omega))) (PlC_fr h.2.2.2.2 (fun k k1 k2 => hKC k (by omega))) b1 (AR_LL (AR_Sy b2 hR) b3 b4) (Sy_KL b2) hV
theorem st_game (h : INV g) (w z : Int32) : ST 129 236 [vi w, vi z] g := by
  obtain ⟨K, F, row, tp, n, fa, fp, rf, sd, oc, h⟩ := h
  obtain ⟨c2, a1, a3⟩ := k129 (l := g.2.1) h.1 h.2.2.1 (iv_ge w) (iv_ge z) 28
  have hR := AR_fr (c2 := c2) h.2.1 (fun k hk => a3 k (by omega))
  obtain ⟨c3, b1, b2, b3⟩ := m236 (x := g.2.2.1) (y := g.2.2.2) hR h.2.2.1 (iv_ge w) (iv_ge z) 35
  rw [← iv_self z, ← iv_self w] at a1 b1
  exact ST_mk a1 (AC_fr h.1 (fun k hk => a3 k (by omega))) (ChC_fr h.2.2.2.1 (fun k k1 k2 => a3 k (by omega))) (PlC_fr h.2.2.2.2 (fun k k1 k2 => a3 k (by omega))) b1 b2 b3 h.2.2.1
theorem st_plan (h : INV g) (r s kd k : Int32) : ST 123 221 [vi r, vi s, vi kd, vi k] g := by
  obtain ⟨K, F, row, tp, n, fa, fp, rf, sd, oc, h⟩ := h
  obtain ⟨c2, a1, a3, a4⟩ := k123 (l := g.2.1) (y := g.2.2.2) h.1.1 h.2.2.2.2 (iv_ge r) (iv_ge s) (iv_ge kd) (iv_ge k) 23
  have hR := AR_fr (c2 := c2) h.2.1 (fun k hk => a3 k (by omega))
  obtain ⟨c3, b1, b2⟩ := m221 (x := g.2.2.1) (y := g.2.2.2) hR.1 (iv_ge r) (iv_ge s) (iv_ge kd) (iv_ge k) 35
  rw [← iv_self r, ← iv_self s, ← iv_self kd, ← iv_self k] at a1 b1
  exact ST_mk a1 (AC_fr h.1 (fun k hk => a3 k (by omega))) (ChC_fr h.2.2.2.1 (fun k k1 k2 => a3 k (by omega))) a4 b1 (AR_Sy b2 hR) (Sy_KL b2) h.2.2.1
theorem st_odds (h : INV g) (z : Int32) : ST 138 252 [vi z] g := by
  obtain ⟨K, F, row, tp, n, fa, fp, rf, sd, oc, h⟩ := h
  obtain ⟨c2, a1, a3, a4⟩ := k138 (l := g.2.1) (y := g.2.2.2) h.1.1 h.2.2.2.1 (iv_ge z) 23
  have hR := AR_fr (c2 := c2) h.2.1 (fun k hk => a3 k (by omega))
  obtain ⟨c3, b1, b2⟩ := m252 (x := g.2.2.1) (y := g.2.2.2) hR.1 (iv_ge z) 37
  rw [← iv_self z] at a1 b1
  exact ST_mk a1 (AC_fr h.1 (fun k hk => a3 k (by omega))) a4 (PlC_fr h.2.2.2.2 (fun k k1 k2 => a3 k (by omega))) b1 (AR_Sy b2 hR) (Sy_KL b2) h.2.2.1
theorem st_parts (h : INV g) (r s k : Int32) : ST 140 256 [vi r, vi s, vi k] g := by
  obtain ⟨K, F, row, tp, n, fa, fp, rf, sd, oc, h⟩ := h
  obtain ⟨c2, a1, a3, a4⟩ := k140 (l := g.2.1) (y := g.2.2.2) h.1.1 h.2.2.2.1 (iv_ge r) (iv_ge s) (iv_ge k) 23
  have hR := AR_fr (c2 := c2) h.2.1 (fun k hk => a3 k (by omega))
  obtain ⟨c3, b1, b2⟩ := m256 (x := g.2.2.1) (y := g.2.2.2) hR.1 (iv_ge r) (iv_ge s) (iv_ge k) 37
  rw [← iv_self r, ← iv_self s, ← iv_self k] at a1 b1
  exact ST_mk a1 (AC_fr h.1 (fun k hk => a3 k (by omega))) a4 (PlC_fr h.2.2.2.2 (fun k k1 k2 => a3 k (by omega))) b1 (AR_Sy b2 hR) (Sy_KL b2) h.2.2.1
theorem st_inn (h : INV g) (r s : Int32) : ST 141 257 [vi r, vi s] g := by
  obtain ⟨K, F, row, tp, n, fa, fp, rf, sd, oc, h⟩ := h
  obtain ⟨c2, a1, a3, a4⟩ := k141 (l := g.2.1) (y := g.2.2.2) h.1.1 h.2.2.2.1 (iv_ge r) (iv_ge s) 23
  have hR := AR_fr (c2 := c2) h.2.1 (fun k hk => a3 k (by omega))
  obtain ⟨c3, b1, b2⟩ := m257 (x := g.2.2.1) (y := g.2.2.2) hR.1 (iv_ge r) (iv_ge s) 37
  rw [← iv_self r, ← iv_self s] at a1 b1
  exact ST_mk a1 (AC_fr h.1 (fun k hk => a3 k (by omega))) a4 (PlC_fr h.2.2.2.2 (fun k k1 k2 => a3 k (by omega))) b1 (AR_Sy b2 hR) (Sy_KL b2) h.2.2.1
theorem st_ask (h : INV g) : ST 142 258 [] g := by
  obtain ⟨K, F, row, tp, n, fa, fp, rf, sd, oc, h⟩ := h
  obtain ⟨c2, a1, a2, a3, a4⟩ := k142 (l := g.2.1) h.1 h.2.2.1 4
  have hR := AR_fr (c2 := c2) h.2.1 (fun k hk => a4 k (by omega) (by omega) (by omega) (by omega))
  obtain ⟨c3, l3, b1, b2, b3⟩ := m258 (x := g.2.2.1) (y := g.2.2.2) hR h.2.2.1 35
  exact ST_mk a1 a2 (ChC_fr h.2.2.2.1 (fun k k1 k2 => a4 k (by omega) (by omega) (by omega) (by omega))) (PlC_fr h.2.2.2.2 (fun k k1 k2 => a4 k (by omega) (by omega) (by omega) (by omega))) b1 b2 b3 (VS_fault h.2.2.1 a3)
theorem st_line (h : INV g) (z : Int32) (is : Bool) : ST 116 199 [vi z, vi (iv (if is then 1 else 0))] g := by
  obtain ⟨K, F, row, tp, n, fa, fp, rf, sd, oc, h⟩ := h
  obtain ⟨c2, a1, a2, a3⟩ := k116 (l := g.2.1) h.1 h.2.2.1 (iv_ge z) is 41
  have hKR : ∀ k, 48 ≤ k → c2 k = g.1 k := by
    rcases a3 with ⟨-, -, q⟩ | ⟨-, q⟩
    · exact q
    · exact fun k hk => q k (by omega)
  have hR := AR_fr (c2 := c2) h.2.1 hKR
  obtain ⟨c3, b1, b2, b3⟩ := m199 (x := g.2.2.1) (y := g.2.2.2) hR h.2.2.1 (iv_ge z) is 43
  rw [← iv_self z] at a1 b1
  have hCP : ChC c2 K (linF K F z.toInt is) ∧ PlC c2 K (linF K F z.toInt is) := by
    rcases a3 with ⟨-, q, -⟩ | ⟨q1, q⟩
    · exact ⟨ChC_PF q h.2.2.1.1, PlC_PF q⟩
    · have e : linF K F z.toInt is = F := by
        unfold linF
        rw [q1]
        rfl
      rw [e]
      exact ⟨ChC_fr h.2.2.2.1 (fun k k1 k2 => q k (by omega)), PlC_fr h.2.2.2.2 (fun k k1 k2 => q k (by omega))⟩
  exact ST_mk a1 a2 hCP.1 hCP.2 b1 b2 b3 (VS_line h.2.2.1 _ _)
theorem st_restore (h : INV g) : ST 145 291 [] g := by
  obtain ⟨K, F, row, tp, n, fa, fp, rf, sd, oc, h⟩ := h
  obtain ⟨c2, a1, a2, a3⟩ := k145 (l := g.2.1) h.1 h.2.2.1 40
  have hKR : ∀ k, 48 ≤ k → c2 k = g.1 k := by
    rcases a3 with ⟨-, -, q⟩ | ⟨-, q⟩
    · exact q
    · exact fun k hk => q k (by omega)
  have hR := AR_fr (c2 := c2) h.2.1 hKR
  obtain ⟨c3, b1, b2, b3⟩ := m291 (x := g.2.2.1) (y := g.2.2.2) hR h.2.2.1 41
  have hCP : ChC c2 K (if imgOk K n tp then tp (n - 2) else F) ∧ PlC c2 K (if imgOk K n tp then tp (n - 2) else F) := by
    rcases a3 with ⟨-, q, -⟩ | ⟨q1, q⟩
    · exact ⟨ChC_PF q h.2.2.1.1, PlC_PF q⟩
    · rw [q1]
      exact ⟨ChC_fr h.2.2.2.1 (fun k k1 k2 => q k (by omega)), PlC_fr h.2.2.2.2 (fun k k1 k2 => q k (by omega))⟩
  exact ST_mk a1 a2 hCP.1 hCP.2 b1 b2 b3 (VS_restore h.2.2.1)
theorem st_text (h : INV g) : ST 103 149 [] g := by
  obtain ⟨K, F, row, tp, n, fa, fp, rf, sd, oc, h⟩ := h
  cases ho : (txtZ tp n).1 with
  | none =>
    obtain ⟨c2, a1, a2, a3⟩ := k103_no (l := g.2.1) h.1 h.2.2.1 ho 38
    obtain ⟨c4, -, q2, -⟩ := k24 (c := g.1) (l := g.2.1) h.1.2.1 (⟨h.1.2.2.2.2.1.1, h.1.2.2.2.2.1.2.2.2⟩ : TC g.1 tp n) h.2.2.1.2.2.2.1.1 h.2.2.1.2.2.2.1.2 0
    have hR := AR_fr (c2 := c2) h.2.1 (fun k hk => a3 k (by omega))
    obtain ⟨c3, l3, b1, b2, b3⟩ := m149_no (x := g.2.2.1) (y := g.2.2.2) hR h.2.2.1 ho 37
    have hKL : KL c2 c3 := fun k hk => funext fun i => funext fun j => b3.1 k i j (by unfold nTx; omega)
    exact ST_mk a1 a2 (ChC_fr h.2.2.2.1 (fun k k1 k2 => a3 k (by omega))) (PlC_fr h.2.2.2.2 (fun k k1 k2 => a3 k (by omega))) b1 b2 hKL (VS_fault h.2.2.1 q2)
  | some m =>
    obtain ⟨c2, a1, a2, a3, a4⟩ := k103_ok (l := g.2.1) h.1 h.2.2.1 ho 38
    have hR := AR_fr (c2 := c2) h.2.1 a4
    obtain ⟨c3, l3, b1, b2, b3⟩ := m149_ok (x := g.2.2.2) (y := g.2.2.1) hR h.2.2.1 ho 37
    have hKL : KL c2 c3 := fun k hk => funext fun i => funext fun j => b3.1 k i j (by unfold nTx; omega)
    have hV := VS_text h.2.2.1
    exact ST_mk a1 a2 (ChC_PF a3 hV.1) (PlC_PF a3) b1 b2 hKL hV
end
