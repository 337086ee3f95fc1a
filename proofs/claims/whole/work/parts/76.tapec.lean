/-! the class's tape -/
def TSt (c : Nat → Nat → Nat → Int32) (tp : Nat → Nat) (n : Nat) (s : Ts) : Prop := c 1 0 2 = iv (s.1 : Nat) ∧ c 1 0 3 = iv (lenT tp n s.1 : Nat) ∧ c 1 0 4 = iv (sgnT tp n s)
def FTf (c : Nat → Nat → Nat → Int32) (f : Option (Nat × Nat)) : Prop := match f with
  | none => c 1 0 5 = iv 0 ∧ c 1 0 6 = iv (-1)
  | some f => (c 1 0 5 = iv (f.1 : Nat) ∧ c 1 0 6 = iv (f.2 : Nat)) ∧ (1 ≤ f.1 ∧ f.1 ≤ 5) ∧ f.2 ≤ 1600
/-- the class's tape stands at z -/
def CZ (c : Nat → Nat → Nat → Int32) (tp : Nat → Nat) (n : Nat) (z : Tz) : Prop := TC c tp n ∧ z.1.1 ≤ n ∧ TSt c tp n z.1 ∧ FTf c z.2
/-- only the tape's own numbers change -/
def FZ (c c2 : Nat → Nat → Nat → Int32) : Prop := (∀ k, k ≠ 1 → c2 k = c k) ∧ ∀ i j, (j < 2 ∨ 6 < j) → c2 1 i j = c 1 i j
section
variable {c : Nat → Nat → Nat → Int32} {l : Nat → Nat → Int64} {x y : Nat} {tp : Nat → Nat} {n : Nat} {z : Tz}
theorem FZ.refl (c : Nat → Nat → Nat → Int32) : FZ c c := ⟨fun _ _ => rfl, fun _ _ _ => rfl⟩
theorem FZ.tr {c1 c2 c3 : Nat → Nat → Nat → Int32} (h : FZ c1 c2) (g : FZ c2 c3) : FZ c1 c3 := ⟨fun k hk => (g.1 k hk).trans (h.1 k hk), fun i j hj => (g.2 i j hj).trans (h.2 i j hj)⟩
theorem FZ.ui (j : Nat) (v : Int32) (h : 2 ≤ j ∧ j ≤ 6) : FZ c (am_ui c 1 0 j v) := ⟨fun k hk => ui_nk _ _ _ _ hk, fun i k hk => ui_ne _ _ _ _ (by omega)⟩
theorem FZ_TC {c2 : Nat → Nat → Nat → Int32} (h : FZ c c2) (g : TC c tp n) : TC c2 tp n := ⟨by rw [h.2 0 1 (by omega)]; exact g.1, fun i hi => by rw [h.1 2 (by omega)]; exact g.2 i hi⟩
theorem sb_eq {b : Nat} (hb : b < 256) {k : Nat} (hk : k < 128) : (sb b = (k : Int)) = (b = k) := by
  apply propext
  unfold sb
  split <;> omega
theorem e93 (hT : TC c tp n) (hn : n ≤ 1600) (ht : ∀ i, tp i < 256) {k : Nat} (hk : k ≤ n) (d : Nat) : E (d + 1) 93 [vr 1 0, vi (iv (k : Nat))] (c, l, x, y) = some (some (vi (iv (if k < n then ((clB (tp k) : Nat) : Int) else -1))), c, l, x, y) := by
  rw [q_93, hT.1]
  by_cases h : k < n
  · have hb := ht k
    have hc := hT.2 k (by omega)
    rw [if_pos h]
    simp (disch := omega) only [iv_add, iv_sub, iv_mul, iv_neg, iv_lt, iv_le, iv_eq, iv_nat, iv_L, iv_L2, am_bi_v, am_bv_v, am_bl_v, if_pos, if_neg, Int.toNat_natCast, Int.toNat_add, Int.toNat_mul, Int.reduceToNat, hc, sb_and]
    by_cases h1 : tp k < 97
    · by_cases h2 : tp k < 48
      · have e : clB (tp k) = tp k := by unfold clB; rw [if_neg (by omega), if_neg (by omega)]
        rw [e, if_pos (by omega), if_pos (by omega)]
      · by_cases h3 : 57 < tp k
        · have e : clB (tp k) = tp k := by unfold clB; rw [if_neg (by omega), if_neg (by omega)]
          rw [e, if_pos (by omega), if_neg (by omega), if_pos (by omega)]
        · have e : clB (tp k) = 48 := by unfold clB; rw [if_neg (by omega), if_pos (by omega)]
          rw [e, if_pos (by omega), if_neg (by omega), if_neg (by omega)]
          rfl
    · by_cases h2 : 122 < tp k
      · have e : clB (tp k) = tp k := by unfold clB; rw [if_neg (by omega), if_neg (by omega)]
        rw [e, if_neg (by omega), if_pos (by omega)]
      · have e : clB (tp k) = 97 := by unfold clB; rw [if_pos (by omega)]
        rw [e, if_neg (by omega), if_neg (by omega)]
        rfl
  · rw [if_neg h]
    simp (disch := omega) only [iv_add, iv_sub, iv_mul, iv_neg, iv_lt, iv_le, iv_eq, iv_nat, iv_L, iv_L2, am_bi_v, am_bv_v, am_bl_v, if_pos, if_neg, Int.toNat_natCast, Int.toNat_add, Int.toNat_mul, Int.reduceToNat]
    all_goals rfl
/-- on to the next token, from a token that ends at q -/
theorem e92q (hT : TC c tp n) (hn : n ≤ 1600) (ht : ∀ i, tp i < 256) {a b : Nat} {sg : Int} (ha : c 1 0 2 = iv (a : Nat)) (hb : c 1 0 3 = iv (b : Nat)) (hs : c 1 0 4 = iv sg) (hq : a + b ≤ n) (hsg : -1 ≤ sg ∧ sg < 256) (d : Nat) : ∃ c2 : Nat → Nat → Nat → Int32, E (d + 2) 92 [vr 1 0] (c, l, x, y) = some (none, c2, l, x, y) ∧ TSt c2 tp n (nxtQ tp n (a + b) (decide (sg = 97 ∨ sg = 48))) ∧ FZ c c2 ∧ c2 1 0 5 = c 1 0 5 ∧ c2 1 0 6 = c 1 0 6 := by
  -- the run of a word, of a number
  have k72 : ∀ (w : Bool) (q p k : Nat), (k = 97 ∨ k = 48) → q ≤ p → ∀ (m j : Nat) (c : Nat → Nat → Nat → Int32), p + j + m = n → TC c tp n → c 1 0 2 = iv (p : Nat) → c 1 0 3 = iv (j : Nat) → c 1 0 4 = iv (k : Nat) → ∃ c2 : Nat → Nat → Nat → Int32, X (d + 2) 92 72 [some (vr 1 0), some (vi (iv (if w then 1 else 0))), some (vi (iv (q : Nat)))] [] (c, l, x, y) = some (none, c2, l, x, y) ∧ (c2 1 0 2 = iv (p : Nat) ∧ c2 1 0 3 = iv ((j + runN tp k m (p + j) : Nat) : Int) ∧ c2 1 0 4 = iv (if w && decide (p = q) then 0 else (k : Int))) ∧ FZ c c2 ∧ c2 1 0 5 = c 1 0 5 ∧ c2 1 0 6 = c 1 0 6 := by
    intro w q p k hk hqp m
    -- what is done behind it
    have hend : ∀ (c : Nat → Nat → Nat → Int32) (v : Int32), c 1 0 2 = iv (p : Nat) → c 1 0 3 = v → c 1 0 4 = iv (k : Nat) → p ≤ n → ∃ c2 : Nat → Nat → Nat → Int32, (if iv (if w then 1 else 0) = iv 0 then (some (none, c, l, x, y) : Option mr) else if c 1 0 2 = iv (q : Nat) then some (none, am_ui c 1 0 4 (iv 0), l, x, y) else some (none, c, l, x, y)) = some (none, c2, l, x, y) ∧ (c2 1 0 2 = iv (p : Nat) ∧ c2 1 0 3 = v ∧ c2 1 0 4 = iv (if w && decide (p = q) then 0 else (k : Int))) ∧ FZ c c2 ∧ c2 1 0 5 = c 1 0 5 ∧ c2 1 0 6 = c 1 0 6 := by
      intro c v h2 h3 h4 hpn
      cases w with
      | false =>
        rw [if_neg Bool.false_ne_true, if_pos rfl]
        exact ⟨c, rfl, ⟨h2, h3, h4⟩, FZ.refl c, rfl, rfl⟩
      | true =>
        rw [if_pos rfl, if_neg (by decide), h2]
        by_cases e : p = q
        · rw [if_pos (by rw [e])]
          refine ⟨_, rfl, ⟨?_, ?_, ?_⟩, FZ.ui _ _ (by omega), ui_ne _ _ _ _ (by omega), ui_ne _ _ _ _ (by omega)⟩
          · rw [ui_ne _ _ _ _ (by omega)]; exact h2
          · rw [ui_ne _ _ _ _ (by omega)]; exact h3
          · rw [ui_self, e, decide_eq_true rfl]; rfl
        · rw [if_neg (by rw [iv_eq (by omega) (by omega)]; omega)]
          refine ⟨c, rfl, ⟨h2, h3, ?_⟩, FZ.refl c, rfl, rfl⟩
          rw [h4, decide_eq_false e]; rfl
    induction m with
    | zero =>
      intro j c hj hT h2 h3 h4
      obtain ⟨c2, g1, g2, g3⟩ := hend c _ h2 h3 h4 (by omega)
      refine ⟨c2, ?_, g2, g3⟩
      rw [q_92_72, hT.1]
      simp only [h2, h3]
      simp (disch := omega) only [iv_add, iv_lt, iv_L, if_neg]
      rw [h2] at g1
      exact g1
    | succ m ih =>
      intro j c hj hT h2 h3 h4
      have h93 := e93 (l := l) (x := x) (y := y) hT hn ht (k := p + j) (by omega) d
      rw [if_pos (by omega)] at h93
      have hcl := clB_lt (ht (p + j))
      have hrun : runN tp k (m + 1) (p + j) = if clB (tp (p + j)) = k then runN tp k m (p + j + 1) + 1 else 0 := rfl
      rw [q_92_72, hT.1]
      simp only [h2, h3]
      simp (disch := omega) only [iv_add, iv_lt, iv_L, if_pos]
      rw [show (p : Int) + (j : Int) = ((p + j : Nat) : Int) by omega, h93]
      simp only [am_bi_v, h4]
      rw [hrun]
      by_cases e : clB (tp (p + j)) = k
      · rw [if_pos (by rw [e]), if_pos e, h3, iv_add]
        obtain ⟨c2, g1, g2, g3, g4, g5⟩ := ih (j + 1) (am_ui c 1 0 3 (iv ((j : Int) + 1))) (by omega) (FZ_TC (FZ.ui _ _ (by omega)) hT) (by rw [ui_ne _ _ _ _ (by omega)]; exact h2) (ui_self _ _ _ _) (by rw [ui_ne _ _ _ _ (by omega)]; exact h4)
        refine ⟨c2, g1, ?_, (FZ.ui _ _ (by omega)).tr g3, ?_, ?_⟩
        · rw [show j + (runN tp k m (p + j + 1) + 1) = j + 1 + runN tp k m (p + (j + 1)) by rw [show p + (j + 1) = p + j + 1 by omega]; omega]
          exact g2
        · rw [g4, ui_ne _ _ _ _ (by omega)]
        · rw [g5, ui_ne _ _ _ _ (by omega)]
      · rw [if_neg (by rw [iv_eq (by omega) (by omega)]; omega), if_neg e, Nat.add_zero]
        obtain ⟨c2, g1, g2, g3⟩ := hend c _ h2 h3 h4 (by omega)
        exact ⟨c2, g1, g2, g3⟩
  -- behind the blanks
  have k47 : ∀ (w : Bool) (q p : Nat) (c : Nat → Nat → Nat → Int32), q ≤ p → p ≤ n → TC c tp n → c 1 0 2 = iv (p : Nat) → ∃ c2 : Nat → Nat → Nat → Int32, X (d + 2) 92 47 [some (vr 1 0), some (vi (iv (if w then 1 else 0))), some (vi (iv (q : Nat)))] [] (c, l, x, y) = some (none, c2, l, x, y) ∧ TSt c2 tp n (p, w && decide (p = q)) ∧ FZ c c2 ∧ c2 1 0 5 = c 1 0 5 ∧ c2 1 0 6 = c 1 0 6 := by
    intro w q p c hqp hp hT h2
    have h93 := e93 (l := l) (x := x) (y := y) hT hn ht (k := p) hp d
    have hcl := clB_lt (ht p)
    rw [q_92_47, h2, h93]
    simp only [am_bi_v, h2, hT.1]
    unfold TSt lenT sgnT
    dsimp only
    by_cases hpn : p < n
    · simp only [if_pos hpn]
      rw [if_pos (by rw [iv_lt (by omega) (by omega)]; omega)]
      have hgo : ∀ k : Nat, (k = 97 ∨ k = 48) → clB (tp p) = k → ∃ c2 : Nat → Nat → Nat → Int32, X (d + 2) 92 72 [some (vr 1 0), some (vi (iv (if w then 1 else 0))), some (vi (iv (q : Nat)))] [] (am_ui (am_ui c 1 0 4 (iv ((clB (tp p) : Nat) : Int))) 1 0 3 1, l, x, y) = some (none, c2, l, x, y) ∧ (c2 1 0 2 = iv (p : Nat) ∧ c2 1 0 3 = iv ((if clB (tp p) = 97 ∨ clB (tp p) = 48 then runN tp (clB (tp p)) (n - p) p else 1 : Nat) : Int) ∧ c2 1 0 4 = iv (if (clB (tp p) = 97 ∨ clB (tp p) = 48) ∧ (w && decide (p = q)) = true then 0 else ((clB (tp p) : Nat) : Int))) ∧ FZ c c2 ∧ c2 1 0 5 = c 1 0 5 ∧ c2 1 0 6 = c 1 0 6 := by
        intro k hk he
        obtain ⟨c2, g1, g2, g3, g4, g5⟩ := k72 w q p k hk hqp (n - p - 1) 1 (am_ui (am_ui c 1 0 4 (iv ((clB (tp p) : Nat) : Int))) 1 0 3 1) (by omega) (FZ_TC ((FZ.ui _ _ (by omega)).tr (FZ.ui _ _ (by omega))) hT) (by rw [ui_ne _ _ _ _ (by omega), ui_ne _ _ _ _ (by omega)]; exact h2) (ui_self _ _ _ _) (by rw [ui_ne _ _ _ _ (by omega), ui_self, he])
        refine ⟨c2, g1, ?_, ((FZ.ui _ _ (by omega)).tr (FZ.ui _ _ (by omega))).tr g3, ?_, ?_⟩
        · rw [he, if_pos hk]
          have hr : runN tp k (n - p) p = 1 + runN tp k (n - p - 1) (p + 1) := by
            obtain ⟨m, hm⟩ : ∃ m, n - p = m + 1 := ⟨n - p - 1, by omega⟩
            rw [hm, runN, if_pos he, show m + 1 - 1 = m by omega]
            omega
          rw [hr]
          refine ⟨g2.1, g2.2.1, ?_⟩
          rw [g2.2.2]
          congr 1
          cases hw : (w && decide (p = q)) with
          | false => rw [if_neg Bool.false_ne_true, if_neg (fun q => Bool.false_ne_true q.2)]
          | true => rw [if_pos rfl, if_pos ⟨hk, rfl⟩]
        · rw [g4, ui_ne _ _ _ _ (by omega), ui_ne _ _ _ _ (by omega)]
        · rw [g5, ui_ne _ _ _ _ (by omega), ui_ne _ _ _ _ (by omega)]
      by_cases e1 : clB (tp p) = 97
      · rw [if_pos (by rw [e1]; rfl)]
        exact hgo 97 (Or.inl rfl) e1
      · rw [if_neg (show ¬ iv ((clB (tp p) : Nat) : Int) = 97 by simp only [iv_L2]; rw [iv_eq (by omega) (by omega)]; omega)]
        by_cases e2 : clB (tp p) = 48
        · rw [if_pos (by rw [e2]; rfl)]
          exact hgo 48 (Or.inr rfl) e2
        · rw [if_neg (show ¬ iv ((clB (tp p) : Nat) : Int) = 48 by simp only [iv_L2]; rw [iv_eq (by omega) (by omega)]; omega)]
          refine ⟨_, rfl, ⟨?_, ?_, ?_⟩, (FZ.ui _ _ (by omega)).tr (FZ.ui _ _ (by omega)), ?_, ?_⟩
          · rw [ui_ne _ _ _ _ (by omega), ui_ne _ _ _ _ (by omega)]; exact h2
          · rw [ui_self, if_neg (by omega)]; rfl
          · rw [ui_ne _ _ _ _ (by omega), ui_self, if_neg (by omega)]
          · rw [ui_ne _ _ _ _ (by omega), ui_ne _ _ _ _ (by omega)]
          · rw [ui_ne _ _ _ _ (by omega), ui_ne _ _ _ _ (by omega)]
    · simp only [if_neg hpn]
      rw [if_neg (by rw [iv_lt (by omega) (by omega)]; omega), if_neg (by decide), if_neg (by decide)]
      refine ⟨_, rfl, ⟨?_, ?_, ?_⟩, (FZ.ui _ _ (by omega)).tr (FZ.ui _ _ (by omega)), ?_, ?_⟩
      · rw [ui_ne _ _ _ _ (by omega), ui_ne _ _ _ _ (by omega)]; exact h2
      · rw [ui_self]; rfl
      · rw [ui_ne _ _ _ _ (by omega), ui_self]
      · rw [ui_ne _ _ _ _ (by omega), ui_ne _ _ _ _ (by omega)]
      · rw [ui_ne _ _ _ _ (by omega), ui_ne _ _ _ _ (by omega)]
  -- blanks
  have k21 : ∀ (w : Bool) (q : Nat) (m p : Nat) (c : Nat → Nat → Nat → Int32), q ≤ p → p + m = n → TC c tp n → c 1 0 2 = iv (p : Nat) → ∃ c2 : Nat → Nat → Nat → Int32, X (d + 2) 92 21 [some (vr 1 0), some (vi (iv (if w then 1 else 0))), some (vi (iv (q : Nat)))] [] (c, l, x, y) = some (none, c2, l, x, y) ∧ TSt c2 tp n (skp tp m p, w && decide (skp tp m p = q)) ∧ FZ c c2 ∧ c2 1 0 5 = c 1 0 5 ∧ c2 1 0 6 = c 1 0 6 := by
    intro w q m
    induction m with
    | zero =>
      intro p c hqp hp hT h2
      obtain ⟨c2, g1, g2⟩ := k47 w q p c hqp (by omega) hT h2
      refine ⟨c2, ?_, g2⟩
      rw [q_92_21, h2, hT.1, if_neg (by rw [iv_lt (by omega) (by omega)]; omega)]
      exact g1
    | succ m ih =>
      intro p c hqp hp hT h2
      have hb := ht p
      have hc := hT.2 p (by omega)
      have hgo := ih (p + 1) (am_ui c 1 0 2 (iv ((p : Int) + 1))) (by omega) (by omega) (FZ_TC (FZ.ui _ _ (by omega)) hT) (ui_self _ _ _ _)
      have hgo2 : ∃ c2 : Nat → Nat → Nat → Int32, X (d + 2) 92 21 [some (vr 1 0), some (vi (iv (if w then 1 else 0))), some (vi (iv (q : Nat)))] [] (am_ui c 1 0 2 (iv ((p : Int) + 1)), l, x, y) = some (none, c2, l, x, y) ∧ TSt c2 tp n (skp tp m (p + 1), w && decide (skp tp m (p + 1) = q)) ∧ FZ c c2 ∧ c2 1 0 5 = c 1 0 5 ∧ c2 1 0 6 = c 1 0 6 := by
        obtain ⟨c2, g1, g2, g3, g4, g5⟩ := hgo
        exact ⟨c2, g1, g2, (FZ.ui _ _ (by omega)).tr g3, by rw [g4, ui_ne _ _ _ _ (by omega)], by rw [g5, ui_ne _ _ _ _ (by omega)]⟩
      rw [q_92_21]
      simp (disch := omega) only [iv_add, iv_sub, iv_mul, iv_neg, iv_lt, iv_le, iv_eq, iv_nat, iv_L, iv_L2, h2, hT.1, if_pos, if_neg, Int.toNat_natCast, hc]
      have e32 : (iv (sb (tp p)) = iv 32) = (tp p = 32) := by
        rw [iv_eq (by unfold sb; split <;> omega) (by omega)]
        exact sb_eq hb (by decide)
      have e10 : (iv (sb (tp p)) = iv 10) = (tp p = 10) := by
        rw [iv_eq (by unfold sb; split <;> omega) (by omega)]
        exact sb_eq hb (by decide)
      simp only [e32, e10]
      unfold skp
      by_cases b1 : tp p = 32
      · simp only [if_pos b1, if_pos (show tp p = 32 ∨ tp p = 10 from Or.inl b1)]
        exact hgo2
      · rw [if_neg b1]
        by_cases b2 : tp p = 10
        · simp only [if_pos b2, if_pos (show tp p = 32 ∨ tp p = 10 from Or.inr b2)]
          exact hgo2
        · rw [if_neg b2]
          simp only [if_neg (show ¬ (tp p = 32 ∨ tp p = 10) by omega)]
          exact k47 w q p c hqp (by omega) hT h2
  have hstart : ∀ w : Bool, ∃ c2 : Nat → Nat → Nat → Int32, X (d + 2) 92 21 [some (vr 1 0), some (vi (iv (if w then 1 else 0))), some (vi (iv ((a + b : Nat) : Int)))] [] (am_ui c 1 0 2 (iv ((a + b : Nat) : Int)), l, x, y) = some (none, c2, l, x, y) ∧ TSt c2 tp n (nxtQ tp n (a + b) w) ∧ FZ c c2 ∧ c2 1 0 5 = c 1 0 5 ∧ c2 1 0 6 = c 1 0 6 := by
    intro w
    obtain ⟨c2, g1, g2, g3, g4, g5⟩ := k21 w (a + b) (n - (a + b)) (a + b) (am_ui c 1 0 2 (iv ((a + b : Nat) : Int))) (by omega) (by omega) (FZ_TC (FZ.ui _ _ (by omega)) hT) (ui_self _ _ _ _)
    exact ⟨c2, g1, g2, (FZ.ui _ _ (by omega)).tr g3, by rw [g4, ui_ne _ _ _ _ (by omega)], by rw [g5, ui_ne _ _ _ _ (by omega)]⟩
  rw [q_92, ha, hb, hs, iv_add, show (a : Int) + (b : Int) = ((a + b : Nat) : Int) by omega]
  simp (disch := omega) only [iv_L, iv_L2, iv_eq]
  by_cases e1 : sg = 97
  · rw [if_pos e1, decide_eq_true (Or.inl e1)]
    exact hstart true
  · rw [if_neg e1]
    by_cases e2 : sg = 48
    · rw [if_pos e2, decide_eq_true (Or.inr e2)]
      exact hstart true
    · rw [if_neg e2, decide_eq_false (by omega)]
      exact hstart false
theorem e92 (h : CZ c tp n z) (hn : n ≤ 1600) (ht : ∀ i, tp i < 256) (d : Nat) : ∃ c2 : Nat → Nat → Nat → Int32, E (d + 2) 92 [vr 1 0] (c, l, x, y) = some (none, c2, l, x, y) ∧ CZ c2 tp n (avZ tp n z) ∧ FZ c c2 := by
  obtain ⟨h1, h2, h3, h4⟩ := h
  obtain ⟨c2, g1, g2, g3, g4, g5⟩ := e92q (l := l) (x := x) (y := y) h1 hn ht h3.1 h3.2.1 h3.2.2 (lenT_le h2) (sgn_bd ht z.1) d
  refine ⟨c2, g1, ⟨FZ_TC g3 h1, (nxtT_le h2).2, g2, ?_⟩, g3⟩
  unfold FTf at h4 ⊢
  show match z.2 with
    | none => c2 1 0 5 = iv 0 ∧ c2 1 0 6 = iv (-1)
    | some f => (c2 1 0 5 = iv (f.1 : Nat) ∧ c2 1 0 6 = iv (f.2 : Nat)) ∧ (1 ≤ f.1 ∧ f.1 ≤ 5) ∧ f.2 ≤ 1600
  rw [g4, g5]
  exact h4
theorem e91 (hT : TC c tp n) (hn : n ≤ 1600) (ht : ∀ i, tp i < 256) (d : Nat) : ∃ c2 : Nat → Nat → Nat → Int32, E (d + 3) 91 [vr 1 0] (c, l, x, y) = some (none, c2, l, x, y) ∧ CZ c2 tp n (nxtQ tp n 0 false, none) ∧ FZ c c2 := by
  have hf : FZ c (am_ui (am_ui (am_ui (am_ui (am_ui c 1 0 2 0) 1 0 3 0) 1 0 4 (-1)) 1 0 5 0) 1 0 6 (-1)) := ((((FZ.ui _ _ (by omega)).tr (FZ.ui _ _ (by omega))).tr (FZ.ui _ _ (by omega))).tr (FZ.ui _ _ (by omega))).tr (FZ.ui _ _ (by omega))
  obtain ⟨c2, g1, g2, g3, g4, g5⟩ := e92q (l := l) (x := x) (y := y) (a := 0) (b := 0) (sg := -1) (FZ_TC hf hT) hn ht (by
    rw [ui_ne _ _ _ _ (by omega), ui_ne _ _ _ _ (by omega), ui_ne _ _ _ _ (by omega), ui_ne _ _ _ _ (by omega), ui_self]; rfl) (by
    rw [ui_ne _ _ _ _ (by omega), ui_ne _ _ _ _ (by omega), ui_ne _ _ _ _ (by omega), ui_self]; rfl) (by
    rw [ui_ne _ _ _ _ (by omega), ui_ne _ _ _ _ (by omega), ui_self]; rfl) (by omega) (by omega) d
  refine ⟨c2, ?_, ⟨FZ_TC (hf.tr g3) hT, (nxtQ_le (Nat.zero_le n)).2, g2, ?_⟩, hf.tr g3⟩
  · rw [q_91, g1]
    rfl
  · show c2 1 0 5 = iv 0 ∧ c2 1 0 6 = iv (-1)
    rw [g4, g5, ui_self, ui_ne _ _ _ _ (by omega), ui_self]
    exact ⟨rfl, rfl⟩
theorem e95 (h : CZ c tp n z) {k p : Nat} (hk : 1 ≤ k ∧ k ≤ 5) (hp : p ≤ 1600) (d : Nat) : ∃ c2 : Nat → Nat → Nat → Int32, E (d + 1) 95 [vr 1 0, vi (iv (k : Nat)), vi (iv (p : Nat))] (c, l, x, y) = some (none, c2, l, x, y) ∧ CZ c2 tp n (flZ k p z) ∧ FZ c c2 := by
  obtain ⟨h1, h2, h3, h4⟩ := h
  rw [q_95]
  cases hz : z.2 with
  | none =>
    rw [hz] at h4
    have h4 : c 1 0 5 = iv 0 ∧ c 1 0 6 = iv (-1) := h4
    have hf : FZ c (am_ui (am_ui c 1 0 5 (iv (k : Nat))) 1 0 6 (iv (p : Nat))) := (FZ.ui _ _ (by omega)).tr (FZ.ui _ _ (by omega))
    refine ⟨_, by rw [h4.1, if_pos (by rfl)], ⟨FZ_TC hf h1, h2, ⟨?_, ?_, ?_⟩, ?_⟩, hf⟩
    · rw [ui_ne _ _ _ _ (by omega), ui_ne _ _ _ _ (by omega)]; exact h3.1
    · rw [ui_ne _ _ _ _ (by omega), ui_ne _ _ _ _ (by omega)]; exact h3.2.1
    · rw [ui_ne _ _ _ _ (by omega), ui_ne _ _ _ _ (by omega)]; exact h3.2.2
    · rw [flZ_none hz]
      exact ⟨⟨by rw [ui_ne _ _ _ _ (by omega), ui_self], ui_self _ _ _ _⟩, hk, hp⟩
  | some f =>
    rw [flZ_some (by rw [hz]; rfl)]
    have h5 := h4
    rw [hz] at h5
    have h5 : (c 1 0 5 = iv (f.1 : Nat) ∧ c 1 0 6 = iv (f.2 : Nat)) ∧ (1 ≤ f.1 ∧ f.1 ≤ 5) ∧ f.2 ≤ 1600 := h5
    refine ⟨c, ?_, ⟨h1, h2, h3, h4⟩, FZ.refl c⟩
    rw [h5.1.1]
    simp only [iv_L]
    rw [if_neg (by rw [iv_eq (by omega) (by omega)]; omega)]
/-- whether there is a fault -/
theorem flt_iff (h : CZ c tp n z) : (c 1 0 5 = iv 0) = (z.2 = none) := by
  apply propext
  have h4 := h.2.2.2
  cases hz : z.2 with
  | none => rw [hz] at h4; exact ⟨fun _ => rfl, fun _ => h4.1⟩
  | some f =>
    rw [hz] at h4
    have h4 : (c 1 0 5 = iv (f.1 : Nat) ∧ c 1 0 6 = iv (f.2 : Nat)) ∧ (1 ≤ f.1 ∧ f.1 ≤ 5) ∧ f.2 ≤ 1600 := h4
    rw [h4.1.1, iv_eq (by omega) (by omega)]
    constructor
    · intro q; omega
    · intro q; cases q
theorem e98 (h : CZ c tp n z) (hn : n ≤ 1600) (ht : ∀ i, tp i < 256) {sg : Int} (hsg : 0 ≤ sg ∧ sg < 256) (d : Nat) : ∃ c2 : Nat → Nat → Nat → Int32, E (d + 3) 98 [vr 1 0, vi (iv sg)] (c, l, x, y) = some (some (vi (iv (if z.2 = none ∧ sgnT tp n z.1 = sg then 1 else 0))), c2, l, x, y) ∧ CZ c2 tp n (tkZ tp n sg z) ∧ FZ c c2 := by
  have hs := sgn_bd (n := n) ht z.1
  have hp := h.2.1
  have hf := flt_iff h
  unfold tkZ
  rw [q_98]
  simp only [iv_L, hf, h.2.2.1.2.2, h.2.2.1.1]
  have hse : (iv (sgnT tp n z.1) = iv sg) = (sgnT tp n z.1 = sg) := iv_eq (by omega) (by omega)
  simp only [hse]
  obtain ⟨c2, g1, g2, g3⟩ := e95 (l := l) (x := x) (y := y) h (k := 1) (p := z.1.1) (by omega) (by omega) (d + 1)
  have g1 : E (d + 2) 95 [vr 1 0, vi (iv 1), vi (iv (z.1.1 : Nat))] (c, l, x, y) = some (none, c2, l, x, y) := g1
  by_cases e1 : z.2 = none
  · rw [if_pos e1]
    by_cases e2 : sgnT tp n z.1 = sg
    · rw [if_pos e2, if_pos ⟨e1, e2⟩, if_pos ⟨e1, e2⟩]
      obtain ⟨c3, k1, k2, k3⟩ := e92 (l := l) (x := x) (y := y) h hn ht d
      refine ⟨c3, ?_, k2, k3⟩
      rw [k1]
      rfl
    · rw [if_neg e2, if_neg (fun q => e2 q.2), if_neg (fun q => e2 q.2)]
      refine ⟨c2, ?_, g2, g3⟩
      rw [g1]
      rfl
  · rw [if_neg e1, if_neg (fun q => e1 q.1), if_neg (fun q => e1 q.1)]
    refine ⟨c2, ?_, g2, g3⟩
    rw [g1]
    rfl
theorem str_at : ∀ t, t < 2 → am_str t = (joinW (WL t)).map (fun a : Nat => iv (a : Int)) := by
  intro t ht
  rcases (show t = 0 ∨ t = 1 by omega) with rfl | rfl <;> decide +kernel
theorem join_lt : ∀ t, t < 2 → (joinW (WL t)).length < 200 ∧ ∀ a ∈ joinW (WL t), a < 128 := by decide +kernel
/-- which word of a list is here -/
theorem e94 (h : CZ c tp n z) (hn : n ≤ 1600) (ht : ∀ i, tp i < 256) {t : Nat} (ht2 : t < 2) (d : Nat) : E (d + 1) 94 [vr 1 0, vr 200 t] (c, l, x, y) = some (some (vi (iv (oi (lixT tp n t z.1)))), c, l, x, y) := by
  have hs := sgn_bd (n := n) ht z.1
  have hp := h.2.1
  have hln := lenT_le (tp := tp) hp
  have hstr := str_at t ht2
  have hj := join_lt t ht2
  unfold lixT
  rw [q_94, h.2.2.1.2.2]
  simp (disch := omega) only [iv_L, iv_L2, iv_eq, iv_neg]
  by_cases h97 : sgnT tp n z.1 = 97
  · rw [if_pos h97, if_pos h97, lixW_F ht2]
    have h1 := sgn_97 h97
    have key : ∀ (m i num : Nat) (al : Option Nat), i + m = (joinW (WL t)).length → num ≤ i → (∀ a, al = some a → a ≤ lenT tp n z.1.1) → X (d + 1) 94 12 [some (vr 1 0), some (vr 200 t), some (vi (iv (num : Nat))), some (vi (iv (oi al))), some (vi (iv (i : Nat))), none] [] (c, l, x, y) = some (some (vi (iv (oi (lstF (runT tp n z.1.1) ((joinW (WL t)).drop i) num al)))), c, l, x, y) := by
      intro m
      induction m with
      | zero =>
        intro i num al hi hnum hal
        rw [List.drop_of_length_le (by omega)]
        unfold lstF
        rw [q_94_12, hstr, List.length_map, show (Int32.ofNat (joinW (WL t)).length) = iv ((joinW (WL t)).length : Nat) from rfl, if_neg (by rw [iv_lt (by omega) (by omega)]; omega), h.2.2.1.2.1, runT_len]
        cases al with
        | none =>
          rw [if_neg (by rw [show oi none = -1 from rfl, iv_eq (by omega) (by omega)]; omega), if_neg (by simp)]
          rfl
        | some a =>
          have ha := hal a rfl
          by_cases e : a = lenT tp n z.1.1
          · rw [if_pos (by rw [e]; rfl), if_pos (by rw [e])]
            rfl
          · rw [if_neg (by rw [show oi (some a) = (a : Int) from rfl, iv_eq (by omega) (by omega)]; omega), if_neg (by rw [Option.some_inj]; exact e)]
            rfl
      | succ m ih =>
        intro i num al hi hnum hal
        have hil : i < (joinW (WL t)).length := by omega
        have hch := hj.2 _ (List.getElem_mem hil)
        have hgd : ((joinW (WL t)).map (fun a : Nat => iv (a : Int))).getD i (iv 0) = iv (((joinW (WL t))[i] : Nat) : Int) := by
          rw [List.getD_eq_getElem?_getD, List.getElem?_map, List.getElem?_eq_getElem hil]
          rfl
        rw [List.drop_eq_getElem_cons hil, lstF_cons]
        rw [q_94_12, hstr, List.length_map, show (Int32.ofNat (joinW (WL t)).length) = iv ((joinW (WL t)).length : Nat) from rfl, if_pos (by rw [iv_lt (by omega) (by omega)]; omega)]
        simp (disch := omega) only [iv_add, iv_sub, iv_mul, iv_neg, iv_lt, iv_le, iv_eq, iv_nat, iv_L, iv_L2, am_bi_v, am_bv_v, am_bl_v, if_pos, if_neg, Int.toNat_natCast, Int.toNat_add, Int.toNat_mul, Int.reduceToNat, hgd]
        generalize (joinW (WL t))[i] = ch at hch hgd ⊢
        rw [show (i : Int) + 1 = ((i + 1 : Nat) : Int) by omega, show (num : Int) + 1 = ((num + 1 : Nat) : Int) by omega, h.2.2.1.2.1]
        by_cases e32 : ch = 32
        · rw [if_pos (by omega), if_pos e32, runT_len]
          cases al with
          | none =>
            rw [if_neg (by rw [show oi none = -1 from rfl, iv_eq (by omega) (by omega)]; omega), if_neg (by simp)]
            exact ih (i + 1) (num + 1) (some 0) (by omega) (by omega) (fun a q => by cases q; omega)
          | some a =>
            have ha := hal a rfl
            by_cases e : a = lenT tp n z.1.1
            · rw [if_pos (by rw [e]; rfl), if_pos (by rw [e])]
              rfl
            · rw [if_neg (by rw [show oi (some a) = (a : Int) from rfl, iv_eq (by omega) (by omega)]; omega), if_neg (by rw [Option.some_inj]; exact e)]
              exact ih (i + 1) (num + 1) (some 0) (by omega) (by omega) (fun a q => by cases q; omega)
        · rw [if_neg (by omega), if_neg e32]
          have hno : X (d + 1) 94 42 [some (vr 1 0), some (vr 200 t), some (vi (iv (num : Nat))), some (vi (iv (oi al))), some (vi (iv (i : Nat))), none] [vi (iv 0)] (c, l, x, y) = some (some (vi (iv (oi (lstF (runT tp n z.1.1) ((joinW (WL t)).drop (i + 1)) num none)))), c, l, x, y) := by
            rw [q_94_42, if_pos (by rfl), show (1 : Int32) = iv 1 from rfl, iv_add, show (i : Int) + 1 = ((i + 1 : Nat) : Int) by omega]
            exact ih (i + 1) num none (by omega) (by omega) (fun a q => by cases q)
          cases al with
          | none =>
            rw [show oi none = -1 from rfl, if_pos rfl]
            exact hno
          | some a =>
            have ha := hal a rfl
            have hne : ¬ iv (oi (some a)) = iv (-1) := by rw [show oi (some a) = (a : Int) from rfl, iv_eq (by omega) (by omega)]; omega
            rw [if_neg hne]
            dsimp only
            by_cases e : a < lenT tp n z.1.1
            · rw [if_pos (by rw [show oi (some a) = (a : Int) from rfl, iv_lt (by omega) (by omega)]; omega), h.2.2.1.1, show oi (some a) = (a : Int) from rfl, runT_at e]
              have hcl := lenT_at h1.1 e
              rw [h1.2.1, clB_97] at hcl
              have hcell := h.1.2 (z.1.1 + a) (by omega)
              have hsb : sb (tp (z.1.1 + a)) = (tp (z.1.1 + a) : Int) := by unfold sb; rw [if_pos (by omega)]
              rw [hsb] at hcell
              simp (disch := omega) only [iv_add, iv_sub, iv_mul, iv_neg, iv_lt, iv_le, iv_eq, iv_nat, iv_L, iv_L2, am_bi_v, am_bv_v, am_bl_v, if_pos, if_neg, Int.toNat_natCast, Int.toNat_add, Int.toNat_mul, Int.reduceToNat]
              rw [hcell]
              by_cases e3 : tp (z.1.1 + a) = ch
              · rw [if_pos (by rw [e3]), if_pos (by rw [e3]), q_94_42, if_neg (by decide), show (1 : Int32) = iv 1 from rfl, iv_add, iv_add, show (i : Int) + 1 = ((i + 1 : Nat) : Int) by omega, show (a : Int) + 1 = ((a + 1 : Nat) : Int) by omega]
                exact ih (i + 1) num (some (a + 1)) (by omega) (by omega) (fun b q => by cases q; omega)
              · rw [if_neg (by rw [iv_eq (by omega) (by omega)]; omega), if_neg (by rw [Option.some_inj]; exact e3)]
                exact hno
            · rw [if_neg (by rw [show oi (some a) = (a : Int) from rfl, iv_lt (by omega) (by omega)]; omega)]
              have hnn : (runT tp n z.1.1)[a]? = none := by rw [List.getElem?_eq_none_iff, runT_len]; omega
              rw [hnn, if_neg (by simp)]
              exact hno
    exact key (joinW (WL t)).length 0 0 (some 0) (by omega) (by omega) (fun a q => by cases q; omega)
  · rw [if_neg h97, if_neg h97]
    rfl
end
