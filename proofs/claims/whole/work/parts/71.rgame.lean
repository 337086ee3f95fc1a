/-! the reference's contest, level by level -/
def okM (K : Ct) (t : Nat) (row : List (Nat × Nat)) : Nat → Bool
  | 0 => true
  | i + 1 => mvOK K t row i
def rwM (K : Ct) (row : List (Nat × Nat)) : Nat → List (Nat × Nat)
  | 0 => row
  | i + 1 => mvRow K row i
def wM (K : Ct) (F m t : Nat) (row : List (Nat × Nat)) (i : Nat) : Nat := valG K F m (t + 1) (rwM K row i)
def fM (K : Ct) (F m t : Nat) (row : List (Nat × Nat)) (n : Nat) : Option Nat := (List.range n).find? (fun j => okM K t row j && wM K F m t row j == 1 - t % 2)
/-- the best of the moves below i -/
def BS (c : Nat → Nat → Nat → Int32) (K : Ct) (F m t : Nat) (row : List (Nat × Nat)) (i : Nat) : Prop := (i = 0 → c 86 0 t = iv (-1)) ∧ (0 < i → c 86 0 t = iv (((fM K F m t row i).getD 0 : Nat) : Int) ∧ c 87 0 t = iv ((if (fM K F m t row i).isSome then 1 - t % 2 else t % 2 : Nat) : Int))
def GI (c : Nat → Nat → Nat → Int32) (l : Nat → Nat → Int64) (K : Ct) (F : Nat) (row : List (Nat × Nat)) : Prop := RR c l K F ∧ c 48 0 42 = iv row.length ∧ RowAt c 77 0 (wds row) ∧ RowAt c 78 0 (whs row)
def VR (K : Ct) (row : List (Nat × Nat)) : Prop := (whs row).Nodup ∧ ∀ p ∈ row, p.1 < nB K ∧ p.2 ∈ sayK K p.1
/-- what the contest may write -/
def SG (c c2 : Nat → Nat → Nat → Int32) : Prop := (∀ k, k ≠ 48 → k ≠ 77 → k ≠ 78 → k ≠ 85 → k ≠ 86 → k ≠ 87 → (k < 79 ∨ 83 < k) → c2 k = c k) ∧ ∀ i s, s ≠ 42 → s ≠ 44 → s ≠ 47 → s ≠ 48 → s ≠ 50 → c2 48 i s = c 48 i s
/-- levels below t -/
def LB (c c2 : Nat → Nat → Nat → Int32) (t : Nat) : Prop := ∀ j, j < t → c2 85 0 j = c 85 0 j ∧ c2 86 0 j = c 86 0 j ∧ c2 87 0 j = c 87 0 j
section
variable {c : Nat → Nat → Nat → Int32} {l : Nat → Nat → Int64} {x y : Nat} {K : Ct} {F : Nat} {row : List (Nat × Nat)} {tp : Nat → Nat} {n : Nat} {fa fp : Int} {rf : Nat → Int32} {sd : Int} {oc : List Nat}
theorem SG.refl (c : Nat → Nat → Nat → Int32) : SG c c := ⟨fun _ _ _ _ _ _ _ _ => rfl, fun _ _ _ _ _ _ _ => rfl⟩
theorem SG.tr {c1 c2 c3 : Nat → Nat → Nat → Int32} (h : SG c1 c2) (g : SG c2 c3) : SG c1 c3 := ⟨fun k h1 h2 h3 h4 h5 h6 h7 => (g.1 k h1 h2 h3 h4 h5 h6 h7).trans (h.1 k h1 h2 h3 h4 h5 h6 h7), fun i s h1 h2 h3 h4 h5 => (g.2 i s h1 h2 h3 h4 h5).trans (h.2 i s h1 h2 h3 h4 h5)⟩
theorem SG.ui (k i j : Nat) (v : Int32) (h : (k = 77 ∨ k = 78 ∨ k = 85 ∨ k = 86 ∨ k = 87) ∨ (k = 48 ∧ j = 42)) : SG c (am_ui c k i j v) := ⟨fun k2 h1 h2 h3 h4 h5 h6 h7 => ui_nk _ _ _ _ (by omega), fun i2 s h1 h2 h3 h4 h5 => ui_ne _ _ _ _ (by omega)⟩
theorem SG_Sx {c2 : Nat → Nat → Nat → Int32} (h : Sx c c2) : SG c c2 := ⟨fun k h1 h2 h3 h4 h5 h6 h7 => h.1 k h1 h7, fun i s h1 h2 h3 h4 h5 => h.2 i s h2 h3 h4 h5⟩
theorem LB.refl (c : Nat → Nat → Nat → Int32) (t : Nat) : LB c c t := fun _ _ => ⟨rfl, rfl, rfl⟩
theorem LB.tr {c1 c2 c3 : Nat → Nat → Nat → Int32} {t : Nat} (h : LB c1 c2 t) (g : LB c2 c3 t) : LB c1 c3 t := fun j hj => ⟨(g j hj).1.trans (h j hj).1, (g j hj).2.1.trans (h j hj).2.1, (g j hj).2.2.trans (h j hj).2.2⟩
theorem LB.mono {c2 : Nat → Nat → Nat → Int32} {t s : Nat} (h : LB c c2 t) (hs : s ≤ t) : LB c c2 s := fun j hj => h j (by omega)
theorem LB.ui (k i j : Nat) (v : Int32) {t : Nat} (h : k < 85 ∨ 87 < k ∨ t ≤ j) : LB c (am_ui c k i j v) t := fun q hq => ⟨ui_ne _ _ _ _ (by omega), ui_ne _ _ _ _ (by omega), ui_ne _ _ _ _ (by omega)⟩
theorem LB_Sx {c2 : Nat → Nat → Nat → Int32} (h : Sx c c2) (t : Nat) : LB c c2 t := fun j _ => ⟨by rw [h.1 85 (by decide) (by decide)], by rw [h.1 86 (by decide) (by decide)], by rw [h.1 87 (by decide) (by decide)]⟩
theorem SG_RR {c2 : Nat → Nat → Nat → Int32} (h : SG c c2) (g : RR c l K F) : RR c2 l K F := RR_fr g (fun k hk => h.1 k (by omega) (by omega) (by omega) (by omega) (by omega) (by omega) (by omega)) (h.2 0 38 (by decide) (by decide) (by decide) (by decide) (by decide)) (h.2 0 39 (by decide) (by decide) (by decide) (by decide) (by decide))
theorem GI_Sx {c2 : Nat → Nat → Nat → Int32} (h : Sx c c2) (g : GI c l K F row) : GI c2 l K F row := ⟨Sx_RR h g.1, by rw [h.2 0 42 (by decide) (by decide) (by decide) (by decide)]; exact g.2.1, RowAt_fr g.2.2.1 (h.1 77 (by decide) (by decide)), RowAt_fr g.2.2.2 (h.1 78 (by decide) (by decide))⟩
theorem GI_ui (k j : Nat) (v : Int32) (hk : k = 85 ∨ k = 86 ∨ k = 87) (g : GI c l K F row) : GI (am_ui c k 0 j v) l K F row := ⟨SG_RR (SG.ui _ _ _ _ (by omega)) g.1, by rw [ui_ne _ _ _ _ (by omega)]; exact g.2.1, RowAt_fr g.2.2.1 (ui_nk _ _ _ _ (by omega)), RowAt_fr g.2.2.2 (ui_nk _ _ _ _ (by omega))⟩
theorem VR_len (hK : VK K) (h : VR K row) : row.length ≤ nB K := by
  have := nodup_len (nB K) (whs row) h.1 (fun w hw => by
    obtain ⟨p, hp, rfl⟩ := List.mem_map.mp hw
    exact (h.2 p hp).1)
  rw [whs_len] at this
  exact this
theorem VR_wds (hK : VK K) (h : VR K row) : ∀ w ∈ wds row, w < nW K := by
  intro w hw
  obtain ⟨p, hp, rfl⟩ := List.mem_map.mp hw
  exact say_lt hK (h.2 p hp).1 _ (h.2 p hp).2
theorem VR_whs (hK : VK K) (h : VR K row) : ∀ w ∈ whs row, w < 1000 := by
  intro w hw
  obtain ⟨p, hp, rfl⟩ := List.mem_map.mp hw
  have := (h.2 p hp).1
  have := hK.2.2.2.1.1
  omega
theorem atR_con {ws : List Nat} {b : Nat} : (atR ws b = -1) = (ws.contains b = false) := by
  apply propext
  constructor
  · intro h
    have := atR_none h
    rw [← Bool.not_eq_true, List.contains_iff_mem]
    exact this
  · intro h
    rw [← Bool.not_eq_true, List.contains_iff_mem] at h
    unfold atR
    rw [List.findIdx?_eq_none_iff.mpr]
    · rfl
    · intro w hw
      rw [beq_eq_false_iff_ne]
      intro q
      have : w = b := by omega
      exact h (this ▸ hw)
theorem okM_at {t i : Nat} (h : okM K t row (i + 1) = true) : i % 4 < (sayK K (i / 4)).length ∧ (bnK K (i / 4)).2.2.1 = t % 2 ∧ (whs row).contains (i / 4) = false := by
  unfold okM mvOK at h
  rw [Bool.and_eq_true, Bool.and_eq_true, decide_eq_true_eq, decide_eq_true_eq, Bool.not_eq_true'] at h
  exact h
theorem VR_mv {t i : Nat} (h : VR K row) (hi : i ≤ 4 * nB K) (ho : okM K t row i = true) : VR K (rwM K row i) := by
  cases i with
  | zero => exact h
  | succ i =>
    obtain ⟨h1, h2, h3⟩ := okM_at ho
    have h4 : ¬ (i / 4) ∈ whs row := by rw [← List.contains_iff_mem, h3]; decide
    constructor
    · show (whs (mvRow K row i)).Nodup
      unfold mvRow
      rw [whs_snoc, List.nodup_append]
      exact ⟨h.1, by simp, fun a ha2 b hb => by rw [List.mem_singleton.mp hb]; intro q; rw [q] at ha2; exact h4 ha2⟩
    · intro p hp
      rcases List.mem_append.mp hp with q | q
      · exact h.2 p q
      · rw [List.mem_singleton.mp q]
        exact ⟨by show i / 4 < nB K; omega, show (sayK K (i / 4)).getD (i % 4) 0 ∈ sayK K (i / 4) from getD_mem h1⟩
theorem dec4 (i : Nat) (hi : i < 1000) : (iv ((i : Int) + 1) - iv 1) / iv 4 = iv ((i / 4 : Nat) : Int) ∧ (iv ((i : Int) + 1) - iv 1) - (iv ((i : Int) + 1) - iv 1) / iv 4 * iv 4 = iv ((i % 4 : Nat) : Int) := by
  rw [iv_sub, show (i : Int) + 1 - 1 = (i : Int) by omega]
  constructor
  · rw [iv_div (by omega) (by omega)]
    congr 1
  · rw [iv_mod (by omega) (by omega)]
    congr 1
theorem e239 (h : GI c l K F row) (hv : VR K row) {t i : Nat} (ht : t < 3) (hi : i ≤ 4 * nB K) (hc : c 85 0 t = iv (i : Nat)) (d : Nat) : E (d + 2) 239 [vr 48 0, vi (iv (t : Nat))] (c, l, x, y) = some (some (vi (iv (if okM K t row i then 1 else 0))), c, l, x, y) := by
  have hn := h.1.2.1.2.2.2.1.1
  have hlen := VR_len h.1.2.1 hv
  rw [q_239]
  cases i with
  | zero =>
    simp (disch := omega) only [iv_add, iv_sub, iv_mul, iv_neg, iv_lt, iv_le, iv_eq, iv_nat, iv_L, iv_L2, am_bi_v, am_bv_v, am_bl_v, if_pos, if_neg, Int.toNat_natCast, Int.toNat_add, Int.toNat_mul, Int.reduceToNat, if_true, if_false, hc]
    all_goals rfl
  | succ i =>
    have hb : i / 4 < nB K := by omega
    have hvb := h.1.2.1.2.2.2.1.2 _ hb
    have hd := dec4 i (by omega)
    have e1 := e187 (l := l) (x := x) (y := y) h.1 hb d
    have e2 := e224 (l := l) (x := x) (y := y) h.1 hb d
    have e3 := e192 (l := l) (x := x) (y := y) h.2.2.2 (by rw [whs_len]; exact h.2.1) (by rw [whs_len]; omega) (VR_whs h.1.2.1 hv) (z := ((i / 4 : Nat) : Int)) (by omega) d
    have hbd := atR_bd (whs row) ((i / 4 : Nat) : Int)
    rw [whs_len] at hbd
    have hc' : c 85 0 t = iv ((i : Int) + 1) := hc
    simp (disch := omega) only [iv_add, iv_sub, iv_mul, iv_neg, iv_lt, iv_le, iv_eq, iv_nat, iv_L, iv_L2, am_bi_v, am_bv_v, am_bl_v, if_pos, if_neg, Int.toNat_natCast, Int.toNat_add, Int.toNat_mul, Int.reduceToNat, hc']
    simp only [← iv_add] at hd ⊢
    simp only [iv_add] at hd ⊢
    rw [iv_sub, show (i : Int) + 1 - 1 = (i : Int) by omega] at hd
    rw [show (i : Int) + 1 - 1 = (i : Int) by omega]
    rw [hd.2, hd.1, e1]
    simp only [am_bi_v]
    rw [e2]
    simp only [am_bi_v]
    rw [e3]
    simp (disch := omega) only [am_bi_v, iv_lt, iv_eq, iv_neg]
    rw [par2 t (by omega)]
    have hok : okM K t row (i + 1) = (decide (i % 4 < (sayK K (i / 4)).length) && (decide ((bnK K (i / 4)).2.2.1 = t % 2) && !((whs row).contains (i / 4)))) := rfl
    rw [hok]
    have hs : (iv (((bnK K (i / 4)).2.2.1 : Nat) : Int) = iv ((t % 2 : Nat) : Int)) = ((bnK K (i / 4)).2.2.1 = t % 2) := by
      rw [iv_eq (by omega) (by omega)]
      apply propext
      omega
    simp only [hs, atR_con]
    by_cases q1 : i % 4 < (sayK K (i / 4)).length
    · rw [if_pos (by omega)]
      by_cases q2 : (bnK K (i / 4)).2.2.1 = t % 2
      · rw [if_pos q2]
        cases q3 : (whs row).contains (i / 4) with
        | true => simp
        | false => simp [q1, q2]
      · rw [if_neg q2]; simp [q2]
    · rw [if_neg (by omega)]; simp [q1]
theorem fM_succ (m t i : Nat) : fM K F m t row (i + 1) = (fM K F m t row i).or (if okM K t row i && wM K F m t row i == 1 - t % 2 then some i else none) := by
  unfold fM
  rw [List.range_succ, List.find?_append]
  congr 1
  rw [List.find?_cons]
  cases okM K t row i && wM K F m t row i == 1 - t % 2 <;> rfl
theorem fM_skip {m t i : Nat} (h : okM K t row i = false) : fM K F m t row (i + 1) = fM K F m t row i := by
  rw [fM_succ, h, Bool.false_and, if_neg (by decide), Option.or_none]
theorem e240 {m t i : Nat} (ht : t < 3) (hi : i < 1000) (hc : c 85 0 t = iv (i : Nat)) (hB : BS c K F m t row i) (ho : okM K t row i = true) (d : Nat) : ∃ c2 : Nat → Nat → Nat → Int32, E (d + 1) 240 [vr 48 0, vi (iv (t : Nat)), vi (iv (wM K F m t row i : Nat))] (c, l, x, y) = some (none, c2, l, x, y) ∧ BS c2 K F m t row (i + 1) ∧ (c2 = c ∨ c2 = am_ui (am_ui c 86 0 t (iv (i : Nat))) 87 0 t (iv (wM K F m t row i : Nat))) := by
  have hle : wM K F m t row i ≤ 1 := valG_le _ _ _
  have hs := fM_succ (K := K) (F := F) (row := row) m t i
  rw [ho, Bool.true_and] at hs
  generalize hw : wM K F m t row i = w at hs hle ⊢
  have hnew : (i = 0 ∨ (fM K F m t row i = none ∧ w = 1 - t % 2)) → BS (am_ui (am_ui c 86 0 t (iv (i : Nat))) 87 0 t (iv (w : Nat))) K F m t row (i + 1) := by
    intro hq
    refine ⟨fun q => absurd q (by omega), fun _ => ?_⟩
    rw [ui_ne _ _ _ _ (by omega), ui_self, ui_self, hs]
    rcases hq with rfl | ⟨hn, he⟩
    · have h0 : fM K F m t row 0 = none := rfl
      rw [h0, Option.none_or]
      by_cases e : w = 1 - t % 2
      · rw [if_pos (beq_iff_eq.mpr e)]
        exact ⟨rfl, by rw [e]; rfl⟩
      · rw [if_neg (by rw [beq_iff_eq]; exact e)]
        exact ⟨rfl, by rw [show w = t % 2 by omega]; rfl⟩
    · rw [hn, Option.none_or, if_pos (beq_iff_eq.mpr he)]
      exact ⟨rfl, by rw [he]; rfl⟩
  have hold : 0 < i → ((fM K F m t row i).isSome = true ∨ w ≠ 1 - t % 2) → BS c K F m t row (i + 1) := by
    intro h0 hq
    refine ⟨fun q => absurd q (by omega), fun _ => ?_⟩
    have := hB.2 h0
    rw [hs]
    cases hf : fM K F m t row i with
    | some j => rw [hf] at this; rw [Option.some_or]; exact this
    | none =>
      rw [hf] at this hq
      rw [if_neg (by rw [beq_iff_eq]; rcases hq with q | q; exact absurd q (by decide); exact q), Option.or_none]
      exact this
  rw [q_240]
  by_cases h0 : i = 0
  · refine ⟨_, ?_, hnew (Or.inl h0), Or.inr rfl⟩
    have h86 := hB.1 h0
    simp (disch := omega) only [iv_add, iv_sub, iv_mul, iv_neg, iv_lt, iv_le, iv_eq, iv_nat, iv_L, iv_L2, am_bi_v, am_bv_v, am_bl_v, if_pos, if_neg, Int.toNat_natCast, Int.toNat_add, Int.toNat_mul, Int.reduceToNat, if_true, if_false, h86]
    rw [q_240_30]
    simp (disch := omega) only [iv_add, iv_sub, iv_mul, iv_neg, iv_lt, iv_le, iv_eq, iv_nat, iv_L, iv_L2, am_bi_v, am_bv_v, am_bl_v, if_pos, if_neg, Int.toNat_natCast, Int.toNat_add, Int.toNat_mul, Int.reduceToNat, hc]
  · have h86 := hB.2 (by omega)
    have hj : (fM K F m t row i).getD 0 < 1000 := by
      cases hf : fM K F m t row i with
      | none => decide
      | some j =>
        have := List.mem_range.mp (List.mem_of_find?_eq_some hf)
        show j < 1000
        omega
    have hp := par2 t (by omega)
    simp (disch := omega) only [iv_add, iv_sub, iv_mul, iv_neg, iv_lt, iv_le, iv_eq, iv_nat, iv_L, iv_L2, am_bi_v, am_bv_v, am_bl_v, if_pos, if_neg, Int.toNat_natCast, Int.toNat_add, Int.toNat_mul, Int.reduceToNat, h86.1, h86.2]
    rw [hp]
    have hone : ((fM K F m t row i).isSome = true ∧ (if (fM K F m t row i).isSome then 1 - t % 2 else t % 2) = 1 - t % 2) ∨ (fM K F m t row i = none ∧ (if (fM K F m t row i).isSome then 1 - t % 2 else t % 2) = t % 2) := by
      cases fM K F m t row i with
      | none => exact Or.inr ⟨rfl, rfl⟩
      | some j => exact Or.inl ⟨rfl, rfl⟩
    generalize (if (fM K F m t row i).isSome then 1 - t % 2 else t % 2) = bw at hone ⊢
    by_cases h1 : t % 2 = 0
    · rw [h1, if_pos (by decide)]
      by_cases h2 : bw < w
      · refine ⟨_, ?_, hnew (Or.inr ⟨?_, ?_⟩), Or.inr rfl⟩
        · simp (disch := omega) only [iv_lt, if_pos]
          rw [q_240_30]
          simp (disch := omega) only [iv_add, iv_sub, iv_mul, iv_neg, iv_lt, iv_le, iv_eq, iv_nat, iv_L, iv_L2, am_bi_v, am_bv_v, am_bl_v, if_pos, if_neg, Int.toNat_natCast, Int.toNat_add, Int.toNat_mul, Int.reduceToNat, hc]
        · rcases hone with q | q
          · omega
          · exact q.1
        · omega
      · refine ⟨c, ?_, hold (by omega) ?_, Or.inl rfl⟩
        · simp (disch := omega) only [iv_lt, if_neg]
        · rcases hone with q | q
          · exact Or.inl q.1
          · right; omega
    · rw [if_neg (by rw [iv_eq (by omega) (by omega)]; omega)]
      by_cases h2 : w < bw
      · refine ⟨_, ?_, hnew (Or.inr ⟨?_, ?_⟩), Or.inr rfl⟩
        · simp (disch := omega) only [iv_lt, if_pos]
          rw [q_240_30]
          simp (disch := omega) only [iv_add, iv_sub, iv_mul, iv_neg, iv_lt, iv_le, iv_eq, iv_nat, iv_L, iv_L2, am_bi_v, am_bv_v, am_bl_v, if_pos, if_neg, Int.toNat_natCast, Int.toNat_add, Int.toNat_mul, Int.reduceToNat, hc]
        · rcases hone with q | q
          · omega
          · exact q.1
        · omega
      · refine ⟨c, ?_, hold (by omega) ?_, Or.inl rfl⟩
        · simp (disch := omega) only [iv_lt, if_neg]
        · rcases hone with q | q
          · exact Or.inl q.1
          · right; omega
theorem g214 (h : GI c l K F row) (hv : VR K row) (d : Nat) : ∃ c2 : Nat → Nat → Nat → Int32, E (d + 7) 214 [vr 48 0] (c, l, x, y) = some (some (vi (iv (rul K F (wds row)))), c2, l, x, y) ∧ Sx c c2 := by
  have hn := h.1.2.1.2.2.2.1.1
  have hlen := VR_len h.1.2.1 hv
  obtain ⟨c1, g1, g2, g3⟩ := e202 (l := l) (x := x) (y := y) h.2.2.1 (by rw [wds_len]; exact h.2.1) (by rw [wds_len]; omega) (sk := -1) (by omega) (d + 4)
  have hb : rowBut (wds row) (-1) = wds row := by unfold rowBut; rw [if_neg (by decide)]
  rw [hb] at g3
  obtain ⟨c2, k1, k2⟩ := e215 (x := x) (y := y) (Sx_RR g2 h.1) g3 (VR_wds h.1.2.1 hv) (by rw [wds_len]; omega) d
  refine ⟨c2, ?_, g2.tr k2⟩
  rw [q_214, show (-1 : Int32) = iv (-1) from rfl, g1]
  simp only [am_bv_v]
  rw [k1]
  rfl
theorem GI_add (h : GI c l K F row) (h7 : row.length < 8) (b w : Nat) (d : Nat) : ∃ c2 : Nat → Nat → Nat → Int32, E (d + 1) 196 [vr 48 0, vi (iv b), vi (iv w)] (c, l, x, y) = some (none, c2, l, x, y) ∧ GI c2 l K F (row ++ [(b, w)]) ∧ SG c c2 ∧ ∀ t, LB c c2 t := by
  refine ⟨am_ui (am_ui (am_ui c 78 0 row.length (iv b)) 77 0 row.length (iv w)) 48 0 42 (iv ((row.length : Int) + 1)), ?_, ⟨?_, ?_, ?_, ?_⟩, ?_, fun t => ?_⟩
  · rw [q_196, h.2.1]
    simp (disch := omega) only [iv_add, iv_sub, iv_mul, iv_neg, iv_lt, iv_le, iv_eq, iv_nat, iv_L, iv_L2, am_bi_v, am_bv_v, am_bl_v, if_pos, if_neg, Int.toNat_natCast, Int.toNat_add, Int.toNat_mul, Int.reduceToNat]
  · exact SG_RR (((SG.ui _ _ _ _ (by omega)).tr (SG.ui _ _ _ _ (by omega))).tr (SG.ui _ _ _ _ (by omega))) h.1
  · rw [ui_self, List.length_append]; rfl
  · rw [wds_snoc]
    refine RowAt_snoc (fun k hk => ?_) w ?_
    · rw [wds_len] at hk
      rw [ui_nk _ _ _ _ (by omega), ui_ne _ _ _ _ (by omega), ui_nk _ _ _ _ (by omega)]
      exact h.2.2.1 k (by rw [wds_len]; exact hk)
    · rw [ui_nk _ _ _ _ (by omega), wds_len, ui_self]
  · rw [whs_snoc]
    refine RowAt_snoc (fun k hk => ?_) b ?_
    · rw [whs_len] at hk
      rw [ui_nk _ _ _ _ (by omega), ui_nk _ _ _ _ (by omega), ui_ne _ _ _ _ (by omega)]
      exact h.2.2.2 k (by rw [whs_len]; exact hk)
    · rw [ui_nk _ _ _ _ (by omega), ui_nk _ _ _ _ (by omega), whs_len, ui_self]
  · exact ((SG.ui _ _ _ _ (by omega)).tr (SG.ui _ _ _ _ (by omega))).tr (SG.ui _ _ _ _ (by omega))
  · exact ((LB.ui _ _ _ _ (by omega)).tr (LB.ui _ _ _ _ (by omega))).tr (LB.ui _ _ _ _ (by omega))
theorem GI_back {p : Nat × Nat} (h : GI c l K F (row ++ [p])) : GI (am_ui c 48 0 42 (iv (row.length : Nat))) l K F row := by
  refine ⟨SG_RR (SG.ui _ _ _ _ (by omega)) h.1, ui_self _ _ _ _, fun k hk => ?_, fun k hk => ?_⟩
  · rw [ui_nk _ _ _ _ (by omega), h.2.2.1 k (by rw [wds_len, List.length_append]; rw [wds_len] at hk; omega), wds_snoc, getD_app_old hk]
  · rw [ui_nk _ _ _ _ (by omega), h.2.2.2 k (by rw [whs_len, List.length_append]; rw [whs_len] at hk; omega), whs_snoc, getD_app_old hk]
/-- what comes of the turns behind this one, m of them -/
def Leaf (K : Ct) (F : Nat) (l : Nat → Nat → Int64) (x y d n m t : Nat) : Prop := ∀ (row : List (Nat × Nat)) (c : Nat → Nat → Nat → Int32), GI c l K F row → VR K row → ∃ c2 : Nat → Nat → Nat → Int32, X (d + 9) 237 123 [some (vr 48 0), some (vi (iv (n : Nat))), some (vi (iv (t : Nat)))] [] (c, l, x, y) = am_bv (E (d + 8) 240 [vr 48 0, vi (iv (t : Nat)), vi (iv (valG K F m (t + 1) row : Nat))] (c2, l, x, y)) (fun g => X (d + 9) 237 20 [some (vr 48 0), some (vi (iv (n : Nat))), some (vi (iv (t : Nat)))] [] g) ∧ GI c2 l K F row ∧ SG c c2 ∧ LB c c2 (t + 1)
theorem leaf0 (d n t : Nat) (hn : n ≤ 3) (ht : t + 1 = n) : Leaf K F l x y d n 0 t := by
  intro row c h hv
  obtain ⟨c2, g1, g2⟩ := g214 (x := x) (y := y) h hv (d + 1)
  refine ⟨c2, ?_, GI_Sx g2 h, SG_Sx g2, LB_Sx g2 _⟩
  have h3 := rul_lt K F (wds row)
  rw [q_237_123]
  simp (disch := omega) only [iv_add, iv_sub, iv_mul, iv_neg, iv_lt, iv_le, iv_eq, iv_nat, iv_L, iv_L2, am_bi_v, am_bv_v, am_bl_v, if_pos, if_neg, Int.toNat_natCast, Int.toNat_add, Int.toNat_mul, Int.reduceToNat]
  rw [g1]
  simp (disch := omega) only [am_bi_v, iv_eq]
  rw [valG]
  by_cases e : rul K F (wds row) = 1
  · rw [if_pos (by omega), if_pos e]; rfl
  · rw [if_neg (by omega), if_neg e]; rfl
/-- a level from its first move on -/
theorem lvl (d n m t : Nat) (hn : n ≤ 3) (ht : t < n) (hL : Leaf K F l x y d n m t) (row : List (Nat × Nat)) (hv : VR K row) : ∀ (j i : Nat) (c : Nat → Nat → Nat → Int32), i + j = 4 * nB K + 1 → GI c l K F row → c 85 0 t = iv (i : Nat) → BS c K F m t row i → ∃ c2 : Nat → Nat → Nat → Int32, X (d + 9) 237 41 [some (vr 48 0), some (vi (iv (n : Nat))), some (vi (iv (t : Nat)))] [] (c, l, x, y) = X (d + 9) 237 (if t = 0 then 20 else 80) [some (vr 48 0), some (vi (iv (n : Nat))), some (vi (iv ((t : Int) - 1)))] [] (c2, l, x, y) ∧ GI c2 l K F row ∧ SG c c2 ∧ LB c c2 t ∧ BS c2 K F m t row (4 * nB K + 1) := by
  intro j
  induction j with
  | zero =>
    intro i c hi h hc hB
    have hnb := h.1.2.1.2.2.2.1.1
    refine ⟨am_ui c 85 0 t 0, ?_, GI_ui _ _ _ (by omega) h, SG.ui _ _ _ _ (by omega), LB.ui _ _ _ _ (by omega), ?_⟩
    · have h185 := e185 (l := l) (x := x) (y := y) h.1 (d + 7)
      rw [q_237_41, h185]
      simp (disch := omega) only [iv_add, iv_sub, iv_mul, iv_neg, iv_lt, iv_le, iv_eq, iv_nat, iv_L, iv_L2, am_bi_v, am_bv_v, am_bl_v, if_pos, if_neg, Int.toNat_natCast, Int.toNat_add, Int.toNat_mul, Int.reduceToNat, hc]
      rw [q_237_63, h185]
      simp (disch := omega) only [iv_add, iv_sub, iv_mul, iv_neg, iv_lt, iv_le, iv_eq, iv_nat, iv_L, iv_L2, am_bi_v, am_bv_v, am_bl_v, if_pos, if_neg, Int.toNat_natCast, Int.toNat_add, Int.toNat_mul, Int.reduceToNat, hc]
      rw [show (t : Int) + -1 = (t : Int) - 1 by omega, q_237_78]
      simp only [iv_L]
      by_cases h0 : t = 0
      · rw [if_pos (by rw [iv_lt (by omega) (by omega)]; omega), if_pos h0]
      · rw [if_neg (by rw [iv_lt (by omega) (by omega)]; omega), if_neg h0]
    · refine ⟨fun q => by omega, fun q => ?_⟩
      rw [ui_nk _ _ _ _ (by omega), ui_nk _ _ _ _ (by omega)]
      have := hB.2 (by omega)
      rw [show i = 4 * nB K + 1 by omega] at this
      exact this
  | succ j ih =>
    intro i c hi h hc hB
    have hnb := h.1.2.1.2.2.2.1.1
    have hlen := VR_len h.1.2.1 hv
    have h185 := e185 (l := l) (x := x) (y := y) h.1 (d + 7)
    have h239 := e239 (l := l) (x := x) (y := y) h hv (t := t) (i := i) (by omega) (by omega) hc (d + 6)
    rw [q_237_41, h185]
    simp (disch := omega) only [iv_add, iv_sub, iv_mul, iv_neg, iv_lt, iv_le, iv_eq, iv_nat, iv_L, iv_L2, am_bi_v, am_bv_v, am_bl_v, if_pos, if_neg, Int.toNat_natCast, Int.toNat_add, Int.toNat_mul, Int.reduceToNat, hc]
    rw [h239]
    simp only [am_bi_v]
    cases ho : okM K t row i with
    | false =>
      rw [if_neg (by decide : ¬ false = true), if_pos rfl, hc, iv_add]
      obtain ⟨c2, k1, k2, k3, k4, k5⟩ := ih (i + 1) (am_ui c 85 0 t (iv ((i : Int) + 1))) (by omega) (GI_ui _ _ _ (by omega) h) (ui_self _ _ _ _) (by
        have hi0 : 0 < i := by
          cases i with
          | zero => cases ho
          | succ i => omega
        refine ⟨fun q => by omega, fun _ => ?_⟩
        rw [ui_nk _ _ _ _ (by omega), ui_nk _ _ _ _ (by omega), fM_skip ho]
        exact hB.2 hi0)
      exact ⟨c2, k1, k2, (SG.ui _ _ _ _ (by omega)).tr k3, (LB.ui _ _ _ _ (by omega)).tr k4, k5⟩
    | true =>
      rw [if_pos rfl, if_neg (by decide)]
      rw [q_237_63, h185]
      simp (disch := omega) only [iv_add, iv_sub, iv_mul, iv_neg, iv_lt, iv_le, iv_eq, iv_nat, iv_L, iv_L2, am_bi_v, am_bv_v, am_bl_v, if_pos, if_neg, Int.toNat_natCast, Int.toNat_add, Int.toNat_mul, Int.reduceToNat, hc]
      have hVR := VR_mv hv (show i ≤ 4 * nB K by omega) ho
      -- the move is made
      have hmk : ∃ c1 : Nat → Nat → Nat → Int32, X (d + 9) 237 90 [some (vr 48 0), some (vi (iv (n : Nat))), some (vi (iv (t : Nat)))] [] (c, l, x, y) = X (d + 9) 237 123 [some (vr 48 0), some (vi (iv (n : Nat))), some (vi (iv (t : Nat)))] [] (c1, l, x, y) ∧ GI c1 l K F (rwM K row i) ∧ SG c c1 ∧ LB c c1 (t + 1) := by
        cases i with
        | zero =>
          refine ⟨c, ?_, h, SG.refl c, LB.refl c _⟩
          rw [q_237_90]
          simp (disch := omega) only [iv_add, iv_sub, iv_mul, iv_neg, iv_lt, iv_le, iv_eq, iv_nat, iv_L, iv_L2, am_bi_v, am_bv_v, am_bl_v, if_pos, if_neg, Int.toNat_natCast, Int.toNat_add, Int.toNat_mul, Int.reduceToNat, hc]
        | succ i =>
          obtain ⟨o1, o2, o3⟩ := okM_at ho
          have hb : i / 4 < nB K := by omega
          have hvb := h.1.2.1.2.2.2.1.2 _ hb
          have hd := dec4 i (by omega)
          have hsay := e188 (l := l) (x := x) (y := y) h.1 hb o1 (d + 7)
          obtain ⟨c1, g1, g2, g3, g4⟩ := GI_add (x := x) (y := y) h (by omega) (i / 4) ((sayK K (i / 4)).getD (i % 4) 0) (d + 7)
          refine ⟨c1, ?_, g2, g3, g4 _⟩
          have hc' : c 85 0 t = iv ((i : Int) + 1) := hc
          rw [q_237_90]
          simp (disch := omega) only [iv_add, iv_sub, iv_mul, iv_neg, iv_lt, iv_le, iv_eq, iv_nat, iv_L, iv_L2, am_bi_v, am_bv_v, am_bl_v, if_pos, if_neg, Int.toNat_natCast, Int.toNat_add, Int.toNat_mul, Int.reduceToNat, hc']
          rw [iv_sub] at hd
          rw [show (i : Int) + 1 - 1 = (i : Int) by omega] at hd ⊢
          rw [hd.2, hd.1, hsay]
          simp only [am_bi_v]
          rw [g1]
          simp only [am_bv_v]
      obtain ⟨c1, m1, m2, m3, m4⟩ := hmk
      rw [m1]
      obtain ⟨c2, l1, l2, l3, l4⟩ := hL (rwM K row i) c1 m2 hVR
      rw [l1]
      have l5 := (m4.tr l4) t (by omega)
      have hB2 : BS c2 K F m t row i := by
        unfold BS
        rw [l5.2.1, l5.2.2]
        exact hB
      obtain ⟨c3, w1, w2, w3⟩ := e240 (l := l) (x := x) (y := y) (by omega) (by omega) (by rw [l5.1]; exact hc) hB2 ho (d + 7)
      have hw : wM K F m t row i = valG K F m (t + 1) (rwM K row i) := rfl
      rw [hw] at w1
      rw [w1]
      simp only [am_bv_v]
      have f85 : c3 85 0 t = iv (i : Nat) := by
        have e0 : c2 85 0 t = iv (i : Nat) := by rw [l5.1]; exact hc
        rcases w3 with rfl | rfl
        · exact e0
        · rw [ui_nk _ _ _ _ (by omega), ui_nk _ _ _ _ (by omega)]; exact e0
      have f3 : GI c3 l K F (rwM K row i) := by
        rcases w3 with rfl | rfl
        · exact l2
        · exact GI_ui _ _ _ (by omega) (GI_ui _ _ _ (by omega) l2)
      have s3 : SG c2 c3 := by
        rcases w3 with rfl | rfl
        · exact SG.refl _
        · exact (SG.ui _ _ _ _ (by omega)).tr (SG.ui _ _ _ _ (by omega))
      have b3 : LB c2 c3 t := by
        rcases w3 with rfl | rfl
        · exact LB.refl _ _
        · exact (LB.ui _ _ _ _ (by omega)).tr (LB.ui _ _ _ _ (by omega))
      -- it is taken back
      have hbk : ∃ c4 : Nat → Nat → Nat → Int32, X (d + 9) 237 20 [some (vr 48 0), some (vi (iv (n : Nat))), some (vi (iv (t : Nat)))] [] (c3, l, x, y) = X (d + 9) 237 41 [some (vr 48 0), some (vi (iv (n : Nat))), some (vi (iv (t : Nat)))] [] (c4, l, x, y) ∧ GI c4 l K F row ∧ c4 85 0 t = iv ((i + 1 : Nat) : Int) ∧ SG c3 c4 ∧ LB c3 c4 t ∧ c4 86 = c3 86 ∧ c4 87 = c3 87 := by
        cases i with
        | zero =>
          refine ⟨am_ui c3 85 0 t (iv 1), ?_, GI_ui _ _ _ (by omega) f3, ui_self _ _ _ _, SG.ui _ _ _ _ (by omega), LB.ui _ _ _ _ (by omega), ui_nk _ _ _ _ (by omega), ui_nk _ _ _ _ (by omega)⟩
          rw [q_237_20]
          simp (disch := omega) only [iv_add, iv_sub, iv_mul, iv_neg, iv_lt, iv_le, iv_eq, iv_nat, iv_L, iv_L2, am_bi_v, am_bv_v, am_bl_v, if_pos, if_neg, Int.toNat_natCast, Int.toNat_add, Int.toNat_mul, Int.reduceToNat, if_true, if_false, f85]
          all_goals rfl
        | succ i =>
          have hl1 : c3 48 0 42 = iv ((row.length : Int) + 1) := by rw [f3.2.1]; show iv ((mvRow K row i).length : Nat) = _; unfold mvRow; rw [List.length_append]; rfl
          refine ⟨am_ui (am_ui c3 48 0 42 (iv (row.length : Nat))) 85 0 t (iv ((i : Int) + 1 + 1)), ?_, GI_ui _ _ _ (by omega) (GI_back f3), ui_self _ _ _ _, (SG.ui _ _ _ _ (by omega)).tr (SG.ui _ _ _ _ (by omega)), (LB.ui _ _ _ _ (by omega)).tr (LB.ui _ _ _ _ (by omega)), by rw [ui_nk _ _ _ _ (by omega), ui_nk _ _ _ _ (by omega)], by rw [ui_nk _ _ _ _ (by omega), ui_nk _ _ _ _ (by omega)]⟩
          have f85' : c3 85 0 t = iv ((i : Int) + 1) := f85
          rw [q_237_20]
          simp (disch := omega) only [iv_add, iv_sub, iv_mul, iv_neg, iv_lt, iv_le, iv_eq, iv_nat, iv_L, iv_L2, am_bi_v, am_bv_v, am_bl_v, if_pos, if_neg, Int.toNat_natCast, Int.toNat_add, Int.toNat_mul, Int.reduceToNat, f85', hl1]
          rw [show (row.length : Int) + 1 - 1 = (row.length : Int) by omega]
          rw [ui_nk _ _ _ _ (show (85 : Nat) ≠ 48 by decide), f85', iv_add]
      obtain ⟨c4, r1, r2, r3, r4, r5, r6, r7⟩ := hbk
      obtain ⟨c5, k1, k2, k3, k4, k5⟩ := ih (i + 1) c4 (by omega) r2 r3 (by unfold BS; rw [r6, r7]; exact w2)
      refine ⟨c5, ?_, k2, (((m3.tr l3).tr s3).tr r4).tr k3, ((((m4.tr l4).mono (by omega)).tr b3).tr r5).tr k4, k5⟩
      rw [r1]
      exact k1
theorem valG_fM (m t : Nat) : valG K F (m + 1) t row = if (fM K F m t row (4 * nB K + 1)).isSome then 1 - t % 2 else t % 2 := by
  rw [valG]
  unfold fM
  rw [List.range_succ_eq_map, List.find?_cons]
  have h0 : (okM K t row 0 && wM K F m t row 0 == 1 - t % 2) = (valG K F m (t + 1) row == 1 - t % 2) := rfl
  rw [h0]
  by_cases e : valG K F m (t + 1) row = 1 - t % 2
  · rw [if_pos e, show (valG K F m (t + 1) row == 1 - t % 2) = true from beq_iff_eq.mpr e]
    rfl
  · rw [if_neg e, show (valG K F m (t + 1) row == 1 - t % 2) = false from beq_eq_false_iff_ne.mpr e]
    dsimp only
    rw [List.find?_map, Option.isSome_map]
    rfl
theorem fst_fM (m t : Nat) : fstG K F (m + 1) t row = match fM K F m t row (4 * nB K + 1) with
    | some (i + 1) => some i
    | _ => none := by
  rw [fstG]
  unfold fM
  rw [List.range_succ_eq_map, List.find?_cons]
  have h0 : (okM K t row 0 && wM K F m t row 0 == 1 - t % 2) = (valG K F m (t + 1) row == 1 - t % 2) := rfl
  rw [h0]
  by_cases e : valG K F m (t + 1) row = 1 - t % 2
  · rw [if_pos e, show (valG K F m (t + 1) row == 1 - t % 2) = true from beq_iff_eq.mpr e]
  · rw [if_neg e, show (valG K F m (t + 1) row == 1 - t % 2) = false from beq_eq_false_iff_ne.mpr e]
    dsimp only
    rw [List.find?_map]
    have hf : ((fun j => okM K t row j && wM K F m t row j == 1 - t % 2) ∘ Nat.succ) = (fun i => mvOK K t row i && valG K F m (t + 1) (mvRow K row i) == 1 - t % 2) := rfl
    rw [hf]
    cases (List.range (4 * nB K)).find? (fun i => mvOK K t row i && valG K F m (t + 1) (mvRow K row i) == 1 - t % 2) <;> rfl
/-- a level that is just opened -/
theorem lvlO (d n m t : Nat) (hn : n ≤ 3) (ht : t < n) (hL : Leaf K F l x y d n m t) (row : List (Nat × Nat)) (hv : VR K row) (c : Nat → Nat → Nat → Int32) (h : GI c l K F row) (h85 : c 85 0 t = iv (-1)) (h86 : c 86 0 t = iv (-1)) : ∃ c2 : Nat → Nat → Nat → Int32, X (d + 9) 237 20 [some (vr 48 0), some (vi (iv (n : Nat))), some (vi (iv (t : Nat)))] [] (c, l, x, y) = X (d + 9) 237 (if t = 0 then 20 else 80) [some (vr 48 0), some (vi (iv (n : Nat))), some (vi (iv ((t : Int) - 1)))] [] (c2, l, x, y) ∧ GI c2 l K F row ∧ SG c c2 ∧ LB c c2 t ∧ BS c2 K F m t row (4 * nB K + 1) := by
  obtain ⟨c2, k1, k2, k3, k4, k5⟩ := lvl d n m t hn ht hL row hv (4 * nB K + 1) 0 (am_ui c 85 0 t (iv 0)) (by omega) (GI_ui _ _ _ (by omega) h) (ui_self _ _ _ _) ⟨fun _ => by rw [ui_nk _ _ _ _ (by omega)]; exact h86, fun q => absurd q (by omega)⟩
  refine ⟨c2, ?_, k2, (SG.ui _ _ _ _ (by omega)).tr k3, (LB.ui _ _ _ _ (by omega)).tr k4, k5⟩
  rw [q_237_20]
  simp (disch := omega) only [iv_add, iv_sub, iv_mul, iv_neg, iv_lt, iv_le, iv_eq, iv_nat, iv_L, iv_L2, am_bi_v, am_bv_v, am_bl_v, if_pos, if_neg, Int.toNat_natCast, Int.toNat_add, Int.toNat_mul, Int.reduceToNat, h85]
  exact k1
theorem leafs (d n : Nat) (hn : n ≤ 3) : ∀ (m t : Nat), t + 1 + m = n → Leaf K F l x y d n m t
  | 0, t, h => leaf0 d n t hn (by omega)
  | m + 1, t, h => by
    intro row c hG hv
    have hop : E (d + 8) 238 [vr 48 0, vi (iv ((t : Int) + 1))] (c, l, x, y) = some (none, am_ui (am_ui c 85 0 (t + 1) (iv (-1))) 86 0 (t + 1) (iv (-1)), l, x, y) := by
      rw [q_238]
      simp (disch := omega) only [iv_add, iv_sub, iv_mul, iv_neg, iv_lt, iv_le, iv_eq, iv_nat, iv_L, iv_L2, am_bi_v, am_bv_v, am_bl_v, if_pos, if_neg, Int.toNat_natCast, Int.toNat_add, Int.toNat_mul, Int.reduceToNat, if_true, if_false, iv_neg]
    obtain ⟨c2, k1, k2, k3, k4, k5⟩ := lvlO d n m (t + 1) hn (by omega) (leafs d n hn m (t + 1) (by omega)) row hv (am_ui (am_ui c 85 0 (t + 1) (iv (-1))) 86 0 (t + 1) (iv (-1))) (GI_ui _ _ _ (by omega) (GI_ui _ _ _ (by omega) hG)) (by rw [ui_nk _ _ _ _ (by omega), ui_self]) (ui_self _ _ _ _)
    refine ⟨c2, ?_, k2, ((SG.ui _ _ _ _ (by omega)).tr (SG.ui _ _ _ _ (by omega))).tr k3, ((LB.ui _ _ _ _ (by omega)).tr (LB.ui _ _ _ _ (by omega))).tr k4⟩
    rw [if_neg (by omega), show ((t + 1 : Nat) : Int) - 1 = (t : Int) by omega] at k1
    have h87 := (k5.2 (by omega)).2
    rw [← valG_fM] at h87
    rw [q_237_123]
    simp (disch := omega) only [iv_add, iv_sub, iv_mul, iv_neg, iv_lt, iv_le, iv_eq, iv_nat, iv_L, iv_L2, am_bi_v, am_bv_v, am_bl_v, if_pos, if_neg, Int.toNat_natCast, Int.toNat_add, Int.toNat_mul, Int.reduceToNat]
    rw [hop]
    simp only [am_bv_v]
    rw [show (t : Int) + 1 = ((t + 1 : Nat) : Int) by omega, k1, q_237_80]
    simp (disch := omega) only [iv_add, iv_sub, iv_mul, iv_neg, iv_lt, iv_le, iv_eq, iv_nat, iv_L, iv_L2, am_bi_v, am_bv_v, am_bl_v, if_pos, if_neg, Int.toNat_natCast, Int.toNat_add, Int.toNat_mul, Int.reduceToNat]
    rw [h87]
theorem AR_SG {c2 : Nat → Nat → Nat → Int32} (h : AR c l K F row tp n fa fp rf sd oc) (hs : SG c c2) (hg : GI c2 l K F row) : AR c2 l K F row tp n fa fp rf sd oc := by
  obtain ⟨g1, g2, g3, g4, g5, g6, g7⟩ := h
  have f48 : ∀ s, s ≠ 42 → s ≠ 44 → s ≠ 47 → s ≠ 48 → s ≠ 50 → c2 48 0 s = c 48 0 s := fun s => hs.2 0 s
  have fk : ∀ k, k ≠ 48 → k ≠ 77 → k ≠ 78 → (k < 79 ∨ 87 < k) → c2 k = c k := fun k h1 h2 h3 h4 => hs.1 k h1 h2 h3 (by omega) (by omega) (by omega) (by omega)
  refine ⟨hg.1, ⟨hg.2.1, hg.2.2⟩, ⟨?_, RowAt_fr g3.2 (fk 111 (by decide) (by decide) (by decide) (by decide))⟩, ?_, ?_, g6, CH_fr g7 (fun k hk => fk k (by omega) (by omega) (by omega) (by omega))⟩
  · rw [f48 88 (by decide) (by decide) (by decide) (by decide) (by decide)]; exact g3.1
  · rw [f48 1 (by decide) (by decide) (by decide) (by decide) (by decide), f48 7 (by decide) (by decide) (by decide) (by decide) (by decide), f48 8 (by decide) (by decide) (by decide) (by decide) (by decide), fk 49 (by decide) (by decide) (by decide) (by decide)]; exact g4
  · rw [fk 50 (by decide) (by decide) (by decide) (by decide)]; exact g5
theorem e237 (h : AR c l K F row tp n fa fp rf sd oc) (hv : VS K F row tp n fa fp sd oc) {m : Nat} (hm : m ≤ 3) (d : Nat) : ∃ c2 : Nat → Nat → Nat → Int32, E (d + 9) 237 [vr 48 0, vi (iv (m : Nat))] (c, l, x, y) = some (some (vi (iv (valG K F m 0 row : Nat))), c2, l, x, y) ∧ AR c2 l K F row tp n fa fp rf sd oc ∧ KL c c2 ∧ c2 86 0 0 = iv (match fstG K F m 0 row with
    | some i => (i : Int) + 1
    | none => 0) := by
  have hG : GI c l K F row := ⟨h.1, h.2.1⟩
  have hVR : VR K row := hv.2.2.1.2
  cases m with
  | zero =>
    obtain ⟨c2, g1, g2⟩ := g214 (x := x) (y := y) (GI_ui 86 0 0 (by omega) hG) hVR (d + 1)
    have hs := (SG.ui (c := c) 86 0 0 0 (by omega)).tr (SG_Sx g2)
    refine ⟨c2, ?_, AR_SG h hs (GI_Sx g2 (GI_ui 86 0 0 (by omega) hG)), ?_, ?_⟩
    · have h3 := rul_lt K F (wds row)
      rw [q_237]
      rw [if_pos (by rfl), g1]
      simp (disch := omega) only [am_bi_v, iv_L, iv_eq]
      rw [valG]
      by_cases e : rul K F (wds row) = 1
      · rw [if_pos (by omega), if_pos e]; rfl
      · rw [if_neg (by omega), if_neg e]; rfl
    · exact fun k hk => hs.1 k (by omega) (by omega) (by omega) (by omega) (by omega) (by omega) (by omega)
    · rw [g2.1 86 (by decide) (by decide), ui_self]
      rfl
  | succ m =>
    obtain ⟨c2, k1, k2, k3, k4, k5⟩ := lvlO (x := x) (y := y) d (m + 1) m 0 hm (by omega) (leafs d (m + 1) hm m 0 (by omega)) row hVR (am_ui (am_ui c 85 0 0 (iv (-1))) 86 0 0 (iv (-1))) (GI_ui _ _ _ (by omega) (GI_ui _ _ _ (by omega) hG)) (by rw [ui_nk _ _ _ _ (by omega), ui_self]) (ui_self _ _ _ _)
    have hs := ((SG.ui (c := c) 85 0 0 (iv (-1)) (by omega)).tr (SG.ui 86 0 0 (iv (-1)) (by omega))).tr k3
    refine ⟨c2, ?_, AR_SG h hs k2, fun k hk => hs.1 k (by omega) (by omega) (by omega) (by omega) (by omega) (by omega) (by omega), ?_⟩
    · have hop : E (d + 8) 238 [vr 48 0, vi (iv 0)] (c, l, x, y) = some (none, am_ui (am_ui c 85 0 0 (iv (-1))) 86 0 0 (iv (-1)), l, x, y) := by
        rw [q_238]
        simp (disch := omega) only [iv_add, iv_sub, iv_mul, iv_neg, iv_lt, iv_le, iv_eq, iv_nat, iv_L, iv_L2, am_bi_v, am_bv_v, am_bl_v, if_pos, if_neg, Int.toNat_natCast, Int.toNat_add, Int.toNat_mul, Int.reduceToNat, if_true, if_false, iv_neg]
      have h87 := (k5.2 (by omega)).2
      rw [← valG_fM] at h87
      rw [q_237]
      simp (disch := omega) only [iv_add, iv_sub, iv_mul, iv_neg, iv_lt, iv_le, iv_eq, iv_nat, iv_L, iv_L2, am_bi_v, am_bv_v, am_bl_v, if_pos, if_neg, Int.toNat_natCast, Int.toNat_add, Int.toNat_mul, Int.reduceToNat]
      rw [hop]
      simp only [am_bv_v]
      rw [if_pos rfl] at k1
      refine Eq.trans k1 ?_
      rw [q_237_20]
      simp (disch := omega) only [iv_add, iv_sub, iv_mul, iv_neg, iv_lt, iv_le, iv_eq, iv_nat, iv_L, iv_L2, am_bi_v, am_bv_v, am_bl_v, if_pos, if_neg, Int.toNat_natCast, Int.toNat_add, Int.toNat_mul, Int.reduceToNat]
      rw [h87]
    · rw [(k5.2 (by omega)).1, fst_fM]
      cases hf : fM K F m 0 row (4 * nB K + 1) with
      | none => rfl
      | some i =>
        cases i with
        | zero => rfl
        | succ i => rfl
theorem fstG_lt (m t i : Nat) (h : fstG K F m t row = some i) : i < 4 * nB K := by
  cases m with
  | zero => cases h
  | succ m =>
    rw [fstG] at h
    split at h
    · cases h
    · exact List.mem_range.mp (List.mem_of_find?_eq_some h)
theorem m236 (h : AR c l K F row tp n fa fp rf sd oc) (hv : VS K F row tp n fa fp sd oc) {u z : Int} (hu : -2147483648 ≤ u ∧ u < 2147483648) (hz : -2147483648 ≤ z ∧ z < 2147483648) (d : Nat) : ∃ c2 : Nat → Nat → Nat → Int32, E (d + 10) 236 [vr 48 0, vi (iv u), vi (iv z)] (c, l, x, y) = some (some (vi (iv (gamS K F row u z))), c2, l, x, y) ∧ AR c2 l K F row tp n fa fp rf sd oc ∧ KL c c2 := by
  have hnb := hv.1.2.2.2.1.1
  have a1 := e171 (c := c) (l := l) (x := x) (y := y) (p := u) (q := 0) (r := 3) (by omega) (by omega) (by omega) (d + 8)
  have a2 := e171 (c := c) (l := l) (x := x) (y := y) (p := z) (q := 0) (r := 2) (by omega) (by omega) (by omega) (d + 8)
  unfold gamS
  rw [q_236, jv_of hu, jv_of hz, jv_L.1, jv_L.2.2.1, jv_L.2.2.2.1, a1]
  simp only [am_bi_v]
  by_cases h1 : 0 ≤ u ∧ u ≤ 3
  · rw [if_pos h1, if_neg (by decide), a2]
    simp only [am_bi_v]
    by_cases h2 : 0 ≤ z ∧ z ≤ 2
    · rw [if_pos h2, if_neg (by decide), if_pos ⟨h1, h2⟩]
      obtain ⟨m, rfl⟩ := Int.eq_ofNat_of_zero_le h1.1
      obtain ⟨c2, g1, g2, g3, g4⟩ := e237 (x := x) (y := y) h hv (m := m) (by omega) d
      refine ⟨c2, ?_, g2, g3⟩
      rw [g1]
      simp only [am_bi_v, Int.toNat_natCast]
      rcases (show z = 0 ∨ z = 1 ∨ z = 2 by omega) with rfl | rfl | rfl
      · rw [if_pos (show iv 0 = (0 : Int32) from rfl), if_pos rfl]
      · rw [g4, if_neg (show ¬ iv 1 = (0 : Int32) by decide), if_neg (show ¬ (1 : Int) = 0 by decide)]
        cases hf : fstG K F m 0 row with
        | none =>
          dsimp only
          rw [if_pos (show iv 0 = (0 : Int32) from rfl)]
          rfl
        | some i =>
          have hi := fstG_lt _ _ _ hf
          have hd := dec4 i (by omega)
          dsimp only
          simp only [iv_L] at hd ⊢
          rw [if_neg (show ¬ iv ((i : Int) + 1) = iv 0 by rw [iv_eq (by omega) (by omega)]; omega)]
          simp only [if_true]
          rw [hd.1]
      · rw [g4, if_neg (show ¬ iv 2 = (0 : Int32) by decide), if_neg (show ¬ (2 : Int) = 0 by decide)]
        cases hf : fstG K F m 0 row with
        | none =>
          dsimp only
          rw [if_pos (show iv 0 = (0 : Int32) from rfl)]
          rfl
        | some i =>
          have hi := fstG_lt _ _ _ hf
          have hd := dec4 i (by omega)
          dsimp only
          simp only [iv_L] at hd ⊢
          rw [if_neg (show ¬ iv ((i : Int) + 1) = iv 0 by rw [iv_eq (by omega) (by omega)]; omega), if_neg (show ¬ iv 2 = iv 1 by decide), if_neg (show ¬ (2 : Int) = 1 by decide), hd.2]
    · rw [if_neg h2, if_pos (show iv 0 = (0 : Int32) from rfl), if_neg (by omega)]
      exact ⟨c, rfl, h, fun _ _ => rfl⟩
  · rw [if_neg h1, if_pos (show iv 0 = (0 : Int32) from rfl), if_neg (by omega)]
    exact ⟨c, rfl, h, fun _ _ => rfl⟩
end
