/-! the reference: text() -/
def cpC (c : Nat → Nat → Nat → Int32) (k O v M : Nat) : Nat → Nat → Nat → Int32 := fun k2 i j => if k2 = k ∧ i = 0 ∧ O + v ≤ j ∧ j < O + M then c k 0 (j - O) else c k2 i j
def cpL (l : Nat → Nat → Int64) (k O v M : Nat) : Nat → Nat → Int64 := fun k2 j => if k2 = k ∧ O + v ≤ j ∧ j < O + M then l k (j - O) else l k2 j
/-- what text() leaves -/
def nTx (k j : Nat) : Prop := ¬ (k = 48 ∧ (j = 1 ∨ j = 2 ∨ j = 3 ∨ j = 4 ∨ j = 5 ∨ j = 6 ∨ j = 7 ∨ j = 8 ∨ j = 27 ∨ j = 37 ∨ j = 38 ∨ j = 39 ∨ j = 42)) ∧ ¬ (k = 50 ∧ j = 1) ∧ ¬ k = 68 ∧ ¬ k = 70 ∧ ¬ (72 ≤ k ∧ k ≤ 76)
def KX (c : Nat → Nat → Nat → Int32) (l : Nat → Nat → Int64) (c2 : Nat → Nat → Nat → Int32) (l2 : Nat → Nat → Int64) : Prop := (∀ k i j, nTx k j → c2 k i j = c k i j) ∧ ∀ k, k ≠ 69 → k ≠ 71 → l2 k = l k
theorem KX.tr {c1 c2 c3 : Nat → Nat → Nat → Int32} {l1 l2 l3 : Nat → Nat → Int64} (h : KX c1 l1 c2 l2) (g : KX c2 l2 c3 l3) : KX c1 l1 c3 l3 := ⟨fun k i j h1 => (g.1 k i j h1).trans (h.1 k i j h1), fun k h1 h2 => (g.2 k h1 h2).trans (h.2 k h1 h2)⟩
theorem KX_FT {c c2 : Nat → Nat → Nat → Int32} {l l2 : Nat → Nat → Int64} (h : FT c l c2 l2) : KX c l c2 l2 := ⟨fun k i j h1 => h.1 k i j (by unfold nTx at h1; unfold nDr; omega) (by unfold nTx at h1; omega), fun k h1 h2 => funext fun j => h.2 k j (by omega) (by omega)⟩
theorem KX.ui {c : Nat → Nat → Nat → Int32} {l : Nat → Nat → Int64} (k i j : Nat) (v : Int32) (h : ¬ nTx k j) : KX c l (am_ui c k i j v) l := by
  refine ⟨fun k2 i2 j2 hk => ui_ne _ _ _ _ ?_, fun _ _ _ => rfl⟩
  by_cases q1 : k2 = k
  · by_cases q3 : j2 = j
    · subst q1 q3
      exact absurd hk h
    · exact Or.inr (Or.inr q3)
  · exact Or.inl q1
theorem cpC_step {c : Nat → Nat → Nat → Int32} {k O v M : Nat} (hv : v < M) (hO : M ≤ O) : cpC (am_ui c k 0 (O + v) (c k 0 v)) k O (v + 1) M = cpC c k O v M := by
  funext k2 i j
  unfold cpC
  by_cases A : k2 = k ∧ i = 0 ∧ O + v ≤ j ∧ j < O + M
  · rw [if_pos A]
    by_cases B : j = O + v
    · rw [if_neg (by omega), A.1, A.2.1, B, ui_self, show O + v - O = v by omega]
    · rw [if_pos (by omega), ui_ne _ _ _ _ (by omega)]
  · rw [if_neg A, if_neg (by omega), ui_ne _ _ _ _ (by omega)]
theorem cpL_step {l : Nat → Nat → Int64} {k O v M : Nat} (hv : v < M) (hO : M ≤ O) : cpL (am_ul l k (O + v) (l k v)) k O (v + 1) M = cpL l k O v M := by
  funext k2 j
  unfold cpL
  by_cases A : k2 = k ∧ O + v ≤ j ∧ j < O + M
  · rw [if_pos A]
    by_cases B : j = O + v
    · rw [if_neg (by omega), A.1, B, am_ul_self2, show O + v - O = v by omega]
    · rw [if_pos (by omega)]
      unfold am_ul
      rw [if_neg (by omega)]
  · rw [if_neg A, if_neg (by omega)]
    unfold am_ul
    rw [if_neg (by omega)]
theorem cpC_M (c : Nat → Nat → Nat → Int32) (k O M : Nat) : cpC c k O M M = c := by
  funext k2 i j
  unfold cpC
  rw [if_neg (by omega)]
theorem cpL_M (l : Nat → Nat → Int64) (k O M : Nat) : cpL l k O M M = l := by
  funext k2 j
  unfold cpL
  rw [if_neg (by omega)]
theorem cpC_in (c : Nat → Nat → Nat → Int32) {k O M j : Nat} (h : j < M) : cpC c k O 0 M k 0 (O + j) = c k 0 j := by
  unfold cpC
  rw [if_pos (by omega), show O + j - O = j by omega]
theorem cpC_nk (c : Nat → Nat → Nat → Int32) {k O v M k2 : Nat} (h : k2 ≠ k) : cpC c k O v M k2 = c k2 := by
  funext i j
  unfold cpC
  rw [if_neg (by omega)]
theorem cpL_in (l : Nat → Nat → Int64) {k O M j : Nat} (h : j < M) : cpL l k O 0 M k (O + j) = l k j := by
  unfold cpL
  rw [if_pos (by omega), show O + j - O = j by omega]
theorem cpL_nk (l : Nat → Nat → Int64) {k O v M k2 : Nat} (h : k2 ≠ k) : cpL l k O v M k2 = l k2 := by
  funext j
  unfold cpL
  rw [if_neg (by omega)]
section
variable {c : Nat → Nat → Nat → Int32} {l : Nat → Nat → Int64} {x y : Nat} {tp : Nat → Nat} {n : Nat} {z : Tz} {s : Ts} {K : Ct} {F : Nat} {row : List (Nat × Nat)} {fa fp : Int} {rf : Nat → Int32} {sd : Int} {oc : List Nat}
theorem cp_2 (d : Nat) : ∀ (m v : Nat) (c : Nat → Nat → Nat → Int32), v + m = 5 → X (d + 1) 176 2 [some (vr 48 0), some (vi (iv (v : Nat)))] [] (c, l, x, y) = X (d + 1) 176 19 [some (vr 48 0), some (vi 0)] [] (cpC c 68 5 v 5, l, x, y)
  | 0, v, c, h => by
    rw [show v = 5 by omega, cpC_M, q_176_2]
    simp (disch := omega) only [iv_add, iv_sub, iv_mul, iv_neg, iv_lt, iv_le, iv_eq, iv_nat, iv_L, iv_L2, am_bi_v, am_bv_v, am_bl_v, if_pos, if_neg, Int.toNat_natCast, Int.toNat_add, Int.toNat_mul, Int.reduceToNat]
    all_goals rfl
  | m + 1, v, c, h => by
    rw [← cpC_step (show v < 5 by omega) (by omega), ← cp_2 d m (v + 1) _ (by omega), q_176_2]
    simp (disch := omega) only [iv_add, iv_sub, iv_mul, iv_neg, iv_lt, iv_le, iv_eq, iv_nat, iv_L, iv_L2, am_bi_v, am_bv_v, am_bl_v, if_pos, if_neg, Int.toNat_natCast, Int.toNat_add, Int.toNat_mul, Int.reduceToNat]
    all_goals rfl
theorem cp_19 (d : Nat) : ∀ (m v : Nat) (c : Nat → Nat → Nat → Int32) (l : Nat → Nat → Int64), v + m = 20 → X (d + 1) 176 19 [some (vr 48 0), some (vi (iv (v : Nat)))] [] (c, l, x, y) = X (d + 1) 176 46 [some (vr 48 0), some (vi 0)] [] (cpC c 70 20 v 20, cpL l 69 20 v 20, x, y)
  | 0, v, c, l, h => by
    rw [show v = 20 by omega, cpC_M, cpL_M, q_176_19]
    simp (disch := omega) only [iv_add, iv_sub, iv_mul, iv_neg, iv_lt, iv_le, iv_eq, iv_nat, iv_L, iv_L2, am_bi_v, am_bv_v, am_bl_v, if_pos, if_neg, Int.toNat_natCast, Int.toNat_add, Int.toNat_mul, Int.reduceToNat]
    all_goals rfl
  | m + 1, v, c, l, h => by
    rw [← cpC_step (show v < 20 by omega) (by omega), ← cpL_step (show v < 20 by omega) (by omega), ← cp_19 d m (v + 1) _ _ (by omega), q_176_19]
    simp (disch := omega) only [iv_add, iv_sub, iv_mul, iv_neg, iv_lt, iv_le, iv_eq, iv_nat, iv_L, iv_L2, am_bi_v, am_bv_v, am_bl_v, if_pos, if_neg, Int.toNat_natCast, Int.toNat_add, Int.toNat_mul, Int.reduceToNat]
    all_goals rfl
theorem cp_46 (d : Nat) : ∀ (m v : Nat) (l : Nat → Nat → Int64), v + m = 7 → X (d + 1) 176 46 [some (vr 48 0), some (vi (iv (v : Nat)))] [] (c, l, x, y) = X (d + 1) 176 63 [some (vr 48 0), some (vi 0)] [] (c, cpL l 71 7 v 7, x, y)
  | 0, v, l, h => by
    rw [show v = 7 by omega, cpL_M, q_176_46]
    simp (disch := omega) only [iv_add, iv_sub, iv_mul, iv_neg, iv_lt, iv_le, iv_eq, iv_nat, iv_L, iv_L2, am_bi_v, am_bv_v, am_bl_v, if_pos, if_neg, Int.toNat_natCast, Int.toNat_add, Int.toNat_mul, Int.reduceToNat]
    all_goals rfl
  | m + 1, v, l, h => by
    rw [← cpL_step (show v < 7 by omega) (by omega), ← cp_46 d m (v + 1) _ (by omega), q_176_46]
    simp (disch := omega) only [iv_add, iv_sub, iv_mul, iv_neg, iv_lt, iv_le, iv_eq, iv_nat, iv_L, iv_L2, am_bi_v, am_bv_v, am_bl_v, if_pos, if_neg, Int.toNat_natCast, Int.toNat_add, Int.toNat_mul, Int.reduceToNat]
    all_goals rfl
theorem cp_63 (d : Nat) : ∀ (m v : Nat) (c : Nat → Nat → Nat → Int32), v + m = 18 → X (d + 1) 176 63 [some (vr 48 0), some (vi (iv (v : Nat)))] [] (c, l, x, y) = X (d + 1) 176 80 [some (vr 48 0), some (vi 0)] [] (cpC c 72 18 v 18, l, x, y)
  | 0, v, c, h => by
    rw [show v = 18 by omega, cpC_M, q_176_63]
    simp (disch := omega) only [iv_add, iv_sub, iv_mul, iv_neg, iv_lt, iv_le, iv_eq, iv_nat, iv_L, iv_L2, am_bi_v, am_bv_v, am_bl_v, if_pos, if_neg, Int.toNat_natCast, Int.toNat_add, Int.toNat_mul, Int.reduceToNat]
    all_goals rfl
  | m + 1, v, c, h => by
    rw [← cpC_step (show v < 18 by omega) (by omega), ← cp_63 d m (v + 1) _ (by omega), q_176_63]
    simp (disch := omega) only [iv_add, iv_sub, iv_mul, iv_neg, iv_lt, iv_le, iv_eq, iv_nat, iv_L, iv_L2, am_bi_v, am_bv_v, am_bl_v, if_pos, if_neg, Int.toNat_natCast, Int.toNat_add, Int.toNat_mul, Int.reduceToNat]
    all_goals rfl
theorem cp_80 (d : Nat) : ∀ (m v : Nat) (c : Nat → Nat → Nat → Int32), v + m = 48 → X (d + 1) 176 80 [some (vr 48 0), some (vi (iv (v : Nat)))] [] (c, l, x, y) = X (d + 1) 176 97 [some (vr 48 0), some (vi 0)] [] (cpC c 73 48 v 48, l, x, y)
  | 0, v, c, h => by
    rw [show v = 48 by omega, cpC_M, q_176_80]
    simp (disch := omega) only [iv_add, iv_sub, iv_mul, iv_neg, iv_lt, iv_le, iv_eq, iv_nat, iv_L, iv_L2, am_bi_v, am_bv_v, am_bl_v, if_pos, if_neg, Int.toNat_natCast, Int.toNat_add, Int.toNat_mul, Int.reduceToNat]
    all_goals rfl
  | m + 1, v, c, h => by
    rw [← cpC_step (show v < 48 by omega) (by omega), ← cp_80 d m (v + 1) _ (by omega), q_176_80]
    simp (disch := omega) only [iv_add, iv_sub, iv_mul, iv_neg, iv_lt, iv_le, iv_eq, iv_nat, iv_L, iv_L2, am_bi_v, am_bv_v, am_bl_v, if_pos, if_neg, Int.toNat_natCast, Int.toNat_add, Int.toNat_mul, Int.reduceToNat]
    all_goals rfl
theorem cp_97 (d : Nat) : ∀ (m v : Nat) (c : Nat → Nat → Nat → Int32), v + m = 49 → X (d + 1) 176 97 [some (vr 48 0), some (vi (iv (v : Nat)))] [] (c, l, x, y) = X (d + 1) 176 114 [some (vr 48 0), some (vi 0)] [] (cpC c 74 49 v 49, l, x, y)
  | 0, v, c, h => by
    rw [show v = 49 by omega, cpC_M, q_176_97]
    simp (disch := omega) only [iv_add, iv_sub, iv_mul, iv_neg, iv_lt, iv_le, iv_eq, iv_nat, iv_L, iv_L2, am_bi_v, am_bv_v, am_bl_v, if_pos, if_neg, Int.toNat_natCast, Int.toNat_add, Int.toNat_mul, Int.reduceToNat]
    all_goals rfl
  | m + 1, v, c, h => by
    rw [← cpC_step (show v < 49 by omega) (by omega), ← cp_97 d m (v + 1) _ (by omega), q_176_97]
    simp (disch := omega) only [iv_add, iv_sub, iv_mul, iv_neg, iv_lt, iv_le, iv_eq, iv_nat, iv_L, iv_L2, am_bi_v, am_bv_v, am_bl_v, if_pos, if_neg, Int.toNat_natCast, Int.toNat_add, Int.toNat_mul, Int.reduceToNat]
    all_goals rfl
theorem cp_114 (d : Nat) : ∀ (m v : Nat) (c : Nat → Nat → Nat → Int32), v + m = 72 → X (d + 1) 176 114 [some (vr 48 0), some (vi (iv (v : Nat)))] [] (c, l, x, y) = X (d + 1) 176 114 [some (vr 48 0), some (vi (iv 72))] [] (cpC c 75 72 v 72, l, x, y)
  | 0, v, c, h => by
    rw [show v = 72 by omega, cpC_M]
    rfl
  | m + 1, v, c, h => by
    rw [← cpC_step (show v < 72 by omega) (by omega), ← cp_114 d m (v + 1) _ (by omega), q_176_114]
    simp (disch := omega) only [iv_add, iv_sub, iv_mul, iv_neg, iv_lt, iv_le, iv_eq, iv_nat, iv_L, iv_L2, am_bi_v, am_bv_v, am_bl_v, if_pos, if_neg, Int.toNat_natCast, Int.toNat_add, Int.toNat_mul, Int.reduceToNat]
    all_goals rfl
theorem m176 (hd : RD c l K) (hK : VK K) (d : Nat) : ∃ (c2 : Nat → Nat → Nat → Int32) (l2 : Nat → Nat → Int64), E (d + 2) 176 [vr 48 0] (c, l, x, y) = some (none, c2, l2, x, y) ∧ RR c2 l2 K (2 ^ nL K - 1) ∧ c2 48 0 42 = iv 0 ∧ (∀ i j, j ≠ 38 → j ≠ 39 → j ≠ 42 → c2 48 i j = c 48 i j) ∧ (∀ k, k ≠ 48 → k ≠ 68 → k ≠ 70 → ¬ (72 ≤ k ∧ k ≤ 76) → c2 k = c k) ∧ ∀ k, k ≠ 69 → k ≠ 71 → l2 k = l k := by
  obtain ⟨g1, g2, g3, g4, g5, g6⟩ := hd
  have h6 := hK.2.1.1
  have h20 := hK.1.1
  have h16 := hK.2.2.1.1
  have h7 := hK.2.2.2.1.1
  have h8 := hK.2.2.2.2.1.1
  have a2 := cp_2 (x := x) (y := y) (l := l) (d + 1) 5 0 c rfl
  have a2 : X (d + 2) 176 2 [some (vr 48 0), some (vi 0)] [] (c, l, x, y) = _ := a2
  have a19 := fun c => cp_19 (x := x) (y := y) (d + 1) 20 0 c l rfl
  have a19 : ∀ c, X (d + 2) 176 19 [some (vr 48 0), some (vi 0)] [] (c, l, x, y) = _ := a19
  have a46 := fun c => cp_46 (x := x) (y := y) (c := c) (d + 1) 7 0 (cpL l 69 20 0 20) rfl
  have a46 : ∀ c, X (d + 2) 176 46 [some (vr 48 0), some (vi 0)] [] (c, cpL l 69 20 0 20, x, y) = _ := a46
  have a63 := fun c => cp_63 (x := x) (y := y) (l := cpL (cpL l 69 20 0 20) 71 7 0 7) (d + 1) 18 0 c rfl
  have a63 : ∀ c, X (d + 2) 176 63 [some (vr 48 0), some (vi 0)] [] (c, cpL (cpL l 69 20 0 20) 71 7 0 7, x, y) = _ := a63
  have a80 := fun c => cp_80 (x := x) (y := y) (l := cpL (cpL l 69 20 0 20) 71 7 0 7) (d + 1) 48 0 c rfl
  have a80 : ∀ c, X (d + 2) 176 80 [some (vr 48 0), some (vi 0)] [] (c, cpL (cpL l 69 20 0 20) 71 7 0 7, x, y) = _ := a80
  have a97 := fun c => cp_97 (x := x) (y := y) (l := cpL (cpL l 69 20 0 20) 71 7 0 7) (d + 1) 49 0 c rfl
  have a97 : ∀ c, X (d + 2) 176 97 [some (vr 48 0), some (vi 0)] [] (c, cpL (cpL l 69 20 0 20) 71 7 0 7, x, y) = _ := a97
  have a114 := fun c => cp_114 (x := x) (y := y) (l := cpL (cpL l 69 20 0 20) 71 7 0 7) (d + 1) 72 0 c rfl
  have a114 : ∀ c, X (d + 2) 176 114 [some (vr 48 0), some (vi 0)] [] (c, cpL (cpL l 69 20 0 20) 71 7 0 7, x, y) = _ := a114
  rw [q_176, a2, a19, a46, a63, a80, a97, a114]
  have hq : ∀ k, k ≠ 68 → k ≠ 70 → ¬ (72 ≤ k ∧ k ≤ 75) → cpC (cpC (cpC (cpC (cpC (cpC c 68 5 0 5) 70 20 0 20) 72 18 0 18) 73 48 0 48) 74 49 0 49) 75 72 0 72 k = c k := by
    intro k h1 h2 h3
    rw [cpC_nk _ (by omega), cpC_nk _ (by omega), cpC_nk _ (by omega), cpC_nk _ (by omega), cpC_nk _ (by omega), cpC_nk _ (by omega)]
  have q68 : ∀ j, j < 5 → cpC (cpC (cpC (cpC (cpC (cpC c 68 5 0 5) 70 20 0 20) 72 18 0 18) 73 48 0 48) 74 49 0 49) 75 72 0 72 68 0 (5 + j) = c 68 0 j := by
    intro j hj
    rw [cpC_nk _ (by omega), cpC_nk _ (by omega), cpC_nk _ (by omega), cpC_nk _ (by omega), cpC_nk _ (by omega), cpC_in _ hj]
  have q70 : ∀ j, j < 20 → cpC (cpC (cpC (cpC (cpC (cpC c 68 5 0 5) 70 20 0 20) 72 18 0 18) 73 48 0 48) 74 49 0 49) 75 72 0 72 70 0 (20 + j) = c 70 0 j := by
    intro j hj
    rw [cpC_nk _ (by omega), cpC_nk _ (by omega), cpC_nk _ (by omega), cpC_nk _ (by omega), cpC_in _ hj, cpC_nk _ (by omega)]
  have q72 : ∀ j, j < 18 → cpC (cpC (cpC (cpC (cpC (cpC c 68 5 0 5) 70 20 0 20) 72 18 0 18) 73 48 0 48) 74 49 0 49) 75 72 0 72 72 0 (18 + j) = c 72 0 j := by
    intro j hj
    rw [cpC_nk _ (by omega), cpC_nk _ (by omega), cpC_nk _ (by omega), cpC_in _ hj, cpC_nk _ (by omega), cpC_nk _ (by omega)]
  have q73 : ∀ j, j < 48 → cpC (cpC (cpC (cpC (cpC (cpC c 68 5 0 5) 70 20 0 20) 72 18 0 18) 73 48 0 48) 74 49 0 49) 75 72 0 72 73 0 (48 + j) = c 73 0 j := by
    intro j hj
    rw [cpC_nk _ (by omega), cpC_nk _ (by omega), cpC_in _ hj, cpC_nk _ (by omega), cpC_nk _ (by omega), cpC_nk _ (by omega)]
  have q74 : ∀ j, j < 49 → cpC (cpC (cpC (cpC (cpC (cpC c 68 5 0 5) 70 20 0 20) 72 18 0 18) 73 48 0 48) 74 49 0 49) 75 72 0 72 74 0 (49 + j) = c 74 0 j := by
    intro j hj
    rw [cpC_nk _ (by omega), cpC_in _ hj, cpC_nk _ (by omega), cpC_nk _ (by omega), cpC_nk _ (by omega), cpC_nk _ (by omega)]
  have q75 : ∀ j, j < 72 → cpC (cpC (cpC (cpC (cpC (cpC c 68 5 0 5) 70 20 0 20) 72 18 0 18) 73 48 0 48) 74 49 0 49) 75 72 0 72 75 0 (72 + j) = c 75 0 j := by
    intro j hj
    rw [cpC_in _ hj, cpC_nk _ (by omega), cpC_nk _ (by omega), cpC_nk _ (by omega), cpC_nk _ (by omega), cpC_nk _ (by omega)]
  have p69 : ∀ j, j < 20 → cpL (cpL l 69 20 0 20) 71 7 0 7 69 (20 + j) = l 69 j := by
    intro j hj
    rw [cpL_nk _ (by omega), cpL_in _ hj]
  have p71 : ∀ j, j < 7 → cpL (cpL l 69 20 0 20) 71 7 0 7 71 (7 + j) = l 71 j := by
    intro j hj
    rw [cpL_in _ hj, cpL_nk _ (by omega)]
  have pq : ∀ k, k ≠ 69 → k ≠ 71 → cpL (cpL l 69 20 0 20) 71 7 0 7 k = l k := by
    intro k h1 h2
    rw [cpL_nk _ h2, cpL_nk _ h1]
  generalize cpC (cpC (cpC (cpC (cpC (cpC c 68 5 0 5) 70 20 0 20) 72 18 0 18) 73 48 0 48) 74 49 0 49) 75 72 0 72 = ce at *
  generalize cpL (cpL l 69 20 0 20) 71 7 0 7 = le at *
  have h686 : ce 68 0 6 = iv (nL K) := by rw [show 6 = 5 + 1 from rfl, q68 1 (by omega)]; exact g2.1
  rw [q_176_114]
  simp (disch := omega) only [iv_add, iv_sub, iv_mul, iv_neg, iv_lt, iv_le, iv_eq, iv_nat, iv_L, iv_L2, am_bi_v, am_bv_v, am_bl_v, if_pos, if_neg, Int.toNat_natCast, Int.toNat_add, Int.toNat_mul, Int.reduceToNat]
  rw [q_177]
  simp (disch := omega) only [iv_add, iv_sub, iv_mul, iv_neg, iv_lt, iv_le, iv_eq, iv_nat, iv_L, iv_L2, am_bi_v, am_bv_v, am_bl_v, if_pos, if_neg, Int.toNat_natCast, Int.toNat_add, Int.toNat_mul, Int.reduceToNat]
  rw [ui_nk _ _ _ _ (by omega), ui_nk _ _ _ _ (by omega), h686, iv_m31 (by omega), show ((nL K : Int) % 32) = (nL K : Int) by omega, iv_shl (by omega) (by omega), iv_sub]
  have hp : 2 ^ nL K ≤ 2 ^ 6 := Nat.pow_le_pow_right (by decide) h6
  have hp0 := Nat.two_pow_pos (nL K)
  have hs : ∀ k, k ≠ 76 → k ≠ 48 → am_ui (am_ui (am_ui (am_ui (am_ui ce 76 0 2 (ce 76 0 0)) 76 0 3 (ce 76 0 1)) 48 0 39 (iv (1 * ((2 ^ (nL K : Int).toNat : Nat) : Int) - 1))) 48 0 42 (iv 0)) 48 0 38 (iv 1) k = ce k := by
    intro k h1 h2
    rw [ui_nk _ _ _ _ h2, ui_nk _ _ _ _ h2, ui_nk _ _ _ _ h2, ui_nk _ _ _ _ h1, ui_nk _ _ _ _ h1]
  refine ⟨_, _, rfl, ⟨⟨?_, ?_, ?_, ?_, ?_, ?_⟩, hK, by omega, ?_⟩, ?_, ?_, ?_, pq⟩
  · refine ⟨?_, fun w hw => ?_⟩
    · rw [hs 68 (by omega) (by omega)]; exact (q68 0 (by omega)).trans g1.1
    · rw [hs 70 (by omega) (by omega), q70 w (by omega), p69 w (by omega)]; exact g1.2 w hw
  · refine ⟨?_, fun i hi k hk => ?_⟩
    · rw [hs 68 (by omega) (by omega)]; exact h686
    · rw [hs 72 (by omega) (by omega), show 18 + 3 * i + k = 18 + (3 * i + k) by omega, q72 _ (by omega)]; exact g2.2 i hi k hk
  · refine ⟨?_, fun f hf => ?_⟩
    · rw [hs 68 (by omega) (by omega)]; exact (q68 2 (by omega)).trans g3.1
    · rw [hs 73 (by omega) (by omega), show 48 + 3 * f + 1 = 48 + (3 * f + 1) by omega, show 48 + 3 * f + 2 = 48 + (3 * f + 2) by omega, q73 _ (by omega), q73 _ (by omega), q73 _ (by omega)]; exact g3.2 f hf
  · refine ⟨?_, fun b hb => ?_⟩
    · rw [hs 68 (by omega) (by omega)]; exact (q68 3 (by omega)).trans g4.1
    · have hg := g4.2 b hb
      have hlen := (hK.2.2.2.1.2 b hb).2.2.2.2.1
      rw [hs 74 (by omega) (by omega), p71 b (by omega), show 49 + 7 * b + 1 = 49 + (7 * b + 1) by omega, show 49 + 7 * b + 2 = 49 + (7 * b + 2) by omega, q74 _ (by omega), q74 _ (by omega), q74 _ (by omega)]
      exact ⟨hg.1, hg.2.1, hg.2.2.1, hg.2.2.2.1, fun k hk => by rw [show 49 + 7 * b + 3 + k = 49 + (7 * b + 3 + k) by omega, q74 _ (by omega)]; exact hg.2.2.2.2 k hk⟩
  · refine ⟨?_, fun i hi => ?_⟩
    · rw [hs 68 (by omega) (by omega)]; exact (q68 4 (by omega)).trans g5.1
    · have hg := g5.2 i hi
      have hlen := (hK.2.2.2.2.1.2 i hi).2.1
      rw [hs 75 (by omega) (by omega), q75 _ (by omega)]
      exact ⟨hg.1, fun k hk => by rw [show 72 + 9 * i + 1 + k = 72 + (9 * i + 1 + k) by omega, q75 _ (by omega)]; exact hg.2 k hk⟩
  · have e2 : am_ui (am_ui (am_ui (am_ui (am_ui ce 76 0 2 (ce 76 0 0)) 76 0 3 (ce 76 0 1)) 48 0 39 (iv (1 * ((2 ^ (nL K : Int).toNat : Nat) : Int) - 1))) 48 0 42 (iv 0)) 48 0 38 (iv 1) 76 0 2 = iv (kAc K) := by
      rw [ui_nk _ _ _ _ (by omega), ui_nk _ _ _ _ (by omega), ui_nk _ _ _ _ (by omega), ui_ne _ _ _ _ (by omega), ui_self, hq 76 (by omega) (by omega) (by omega)]
      exact g6.1
    have e3 : am_ui (am_ui (am_ui (am_ui (am_ui ce 76 0 2 (ce 76 0 0)) 76 0 3 (ce 76 0 1)) 48 0 39 (iv (1 * ((2 ^ (nL K : Int).toNat : Nat) : Int) - 1))) 48 0 42 (iv 0)) 48 0 38 (iv 1) 76 0 3 = iv (kDe K) := by
      rw [ui_nk _ _ _ _ (by omega), ui_nk _ _ _ _ (by omega), ui_nk _ _ _ _ (by omega), ui_self, hq 76 (by omega) (by omega) (by omega)]
      exact g6.2
    refine ⟨?_, fun _ => ⟨e2, e3⟩⟩
    rw [e2, ui_self, if_neg (show ¬ iv 1 = 0 by decide)]
  · rw [ui_ne _ _ _ _ (by omega), ui_ne _ _ _ _ (by omega), ui_self, Int.toNat_natCast]
    congr 1
    generalize 2 ^ nL K = p at hp hp0 ⊢
    omega
  · rw [ui_ne _ _ _ _ (by omega), ui_self]
  · intro i j h1 h2 h3
    rw [ui_ne _ _ _ _ (by omega), ui_ne _ _ _ _ (by omega), ui_ne _ _ _ _ (by omega), ui_nk _ _ _ _ (by omega), ui_nk _ _ _ _ (by omega), hq 48 (by omega) (by omega) (by omega)]
  · intro k h1 h2 h3 h4
    rw [hs k (by omega) (by omega), hq k (by omega) (by omega) (by omega)]
end
