/-! the world of the cells -/
def am_cells : List (Nat × Nat) := [(0, 0), (1, 0), (2, 0), (3, 0), (4, 0), (5, 0), (6, 0), (7, 0), (8, 0), (8, 1), (8, 2), (8, 3), (8, 4), (8, 5), (9, 0), (10, 0), (11, 0), (11, 1), (11, 2), (11, 3), (11, 4), (11, 5), (12, 0), (13, 0), (13, 1), (13, 2), (13, 3), (13, 4), (13, 5), (13, 6), (13, 7), (13, 8), (13, 9), (13, 10), (13, 11), (13, 12), (13, 13), (13, 14), (13, 15), (14, 0), (15, 0), (16, 0), (16, 1), (16, 2), (16, 3), (16, 4), (16, 5), (16, 6), (16, 7), (17, 0), (18, 0), (19, 0), (18, 1), (19, 1), (18, 2), (19, 2), (18, 3), (19, 3), (18, 4), (19, 4), (18, 5), (19, 5), (18, 6), (19, 6), (20, 0), (21, 0), (22, 0), (4, 1), (5, 1), (6, 1), (7, 1), (8, 6), (8, 7), (8, 8), (8, 9), (8, 10), (8, 11), (9, 1), (10, 1), (11, 6), (11, 7), (11, 8), (11, 9), (11, 10), (11, 11), (12, 1), (13, 16), (13, 17), (13, 18), (13, 19), (13, 20), (13, 21), (13, 22), (13, 23), (13, 24), (13, 25), (13, 26), (13, 27), (13, 28), (13, 29), (13, 30), (13, 31), (14, 1), (15, 1), (16, 8), (16, 9), (16, 10), (16, 11), (16, 12), (16, 13), (16, 14), (16, 15), (17, 1), (18, 7), (19, 7), (18, 8), (19, 8), (18, 9), (19, 9), (18, 10), (19, 10), (18, 11), (19, 11), (18, 12), (19, 12), (18, 13), (19, 13), (23, 0), (24, 0), (25, 0), (26, 0), (27, 0), (28, 0), (29, 0), (30, 0), (30, 1), (30, 2), (30, 3), (30, 4), (30, 5), (31, 0), (32, 0), (32, 1), (32, 2), (32, 3), (32, 4), (32, 5), (33, 0), (34, 0), (35, 0), (36, 0), (37, 0), (38, 0), (39, 0), (39, 1), (39, 2), (40, 0), (41, 0), (41, 1), (41, 2), (42, 0), (43, 0), (44, 0), (45, 0), (46, 0), (47, 0), (48, 0), (49, 0), (50, 0), (51, 0), (52, 0), (53, 0), (54, 0), (55, 0), (56, 0), (57, 0), (58, 0), (59, 0), (60, 0), (61, 0), (62, 0), (63, 0), (64, 0), (65, 0), (66, 0), (67, 0), (68, 0), (69, 0), (70, 0), (71, 0), (72, 0), (73, 0), (74, 0), (75, 0), (76, 0), (77, 0), (78, 0), (79, 0), (80, 0), (81, 0), (82, 0), (83, 0), (84, 0), (85, 0), (86, 0), (87, 0), (88, 0), (89, 0), (90, 0), (91, 0), (92, 0), (93, 0), (94, 0), (95, 0), (96, 0), (97, 0), (98, 0), (99, 0), (100, 0), (101, 0), (102, 0), (103, 0), (104, 0), (105, 0), (106, 0), (107, 0), (108, 0), (109, 0), (110, 0), (111, 0)]
def am_offs : List (List Nat) := [[0], [1], [2], [3], [4, 67], [5, 68], [6, 69], [7, 70], [8, 9, 10, 11, 12, 13, 71, 72, 73, 74, 75, 76], [14, 77], [15, 78], [16, 17, 18, 19, 20, 21, 79, 80, 81, 82, 83, 84], [22, 85], [23, 24, 25, 26, 27, 28, 29, 30, 31, 32, 33, 34, 35, 36, 37, 38, 86, 87, 88, 89, 90, 91, 92, 93, 94, 95, 96, 97, 98, 99, 100, 101], [39, 102], [40, 103], [41, 42, 43, 44, 45, 46, 47, 48, 104, 105, 106, 107, 108, 109, 110, 111], [49, 112], [50, 52, 54, 56, 58, 60, 62, 113, 115, 117, 119, 121, 123, 125], [51, 53, 55, 57, 59, 61, 63, 114, 116, 118, 120, 122, 124, 126], [64], [65], [66], [127], [128], [129], [130], [131], [132], [133], [134, 135, 136, 137, 138, 139], [140], [141, 142, 143, 144, 145, 146], [147], [148], [149], [150], [151], [152], [153, 154, 155], [156], [157, 158, 159], [160], [161], [162], [163], [164], [165], [166], [167], [168], [169], [170], [171], [172], [173], [174], [175], [176], [177], [178], [179], [180], [181], [182], [183], [184], [185], [186], [187], [188], [189], [190], [191], [192], [193], [194], [195], [196], [197], [198], [199], [200], [201], [202], [203], [204], [205], [206], [207], [208], [209], [210], [211], [212], [213], [214], [215], [216], [217], [218], [219], [220], [221], [222], [223], [224], [225], [226], [227], [228], [229]]
def am_off (k i : Nat) : Nat := match am_nth am_offs k with
  | none => 0
  | some r => match am_nth r i with
    | some q => q
    | none => 0
theorem am_cells_at : ∀ k, k < 112 → ∀ i, i < am_cnt k → am_cells[am_off k i]? = some (k, i) := by decide +kernel
theorem am_cells_inv : ∀ q, q < 230 → ∃ k, k < 112 ∧ am_cells[q]?.map Prod.fst = some k := by
  intro q hq
  have h : (List.range 230).all (fun q => match am_cells[q]? with | some e => decide (e.1 < 112 ∧ e.2 < am_cnt e.1 ∧ am_off e.1 e.2 = q) | none => false) = true := by decide +kernel
  have h1 := List.all_eq_true.mp h q (List.mem_range.mpr hq)
  cases he : am_cells[q]? with
  | none => rw [he] at h1; cases h1
  | some e =>
    rw [he] at h1
    exact ⟨e.1, (of_decide_eq_true h1).1, rfl⟩
theorem am_cells_off {q : Nat} {e : Nat × Nat} (h : am_cells[q]? = some e) : e.1 < 112 ∧ e.2 < am_cnt e.1 ∧ am_off e.1 e.2 = q := by
  have hq : q < 230 := by
    have := (List.getElem?_eq_some_iff.mp h).1
    exact this
  have hh : (List.range 230).all (fun q => match am_cells[q]? with | some e => decide (e.1 < 112 ∧ e.2 < am_cnt e.1 ∧ am_off e.1 e.2 = q) | none => false) = true := by decide +kernel
  have h1 := List.all_eq_true.mp hh q (List.mem_range.mpr hq)
  rw [h] at h1
  exact of_decide_eq_true h1
theorem am_off_lt {k i : Nat} (hk : k < 112) (hi : i < am_cnt k) : am_off k i < 230 := (List.getElem?_eq_some_iff.mp (am_cells_at k hk i hi)).1
def am_ad (base : Nat) (adK : Nat → Nat) (k i : Nat) : Nat := if k = 200 then adK i else base + am_off k i
def am_t (base : Nat) (adK : Nat → Nat) : mv → Value
  | .inl x => .int x
  | .inr (.inl x) => .long x
  | .inr (.inr (k, i)) => .ref (am_ad base adK k i)
def am_fv (base : Nat) (f : Nat → Int32) (h : Nat → Int64) (x y k i C s : Nat) : Value := match am_fty C s with
  | 1 => .long (h s)
  | 2 => match ar k s i x y with
    | some r => .ref (base + am_off r.1 r.2)
    | none => .null
  | _ => .int (f s)
def am_ec (base : Nat) (f : Nat → Int32) (h : Nat → Int64) (k i : Nat) : (Nat → Int32) ⊕ (Nat → Int64) ⊕ (Nat → UInt32) ⊕ (Nat → UInt64) ⊕ (Nat → Option Nat) := match (af k).1 with
  | 21 => .inr (.inl h)
  | 25 => .inr (.inr (.inr (.inr (fun j => (ae k i j).map (fun r => base + am_off r.1 r.2)))))
  | 26 => .inr (.inr (.inr (.inr (fun j => (ae k i j).map (fun r => base + am_off r.1 r.2)))))
  | _ => .inl f
def am_e (aC : Nat → ClassId) (base : Nat) (f : Nat → Int32) (h : Nat → Int64) (x y k i : Nat) : va_E :=
  if (af k).1 < 13 then .inr ((af k).1, (List.range (af k).2).map (am_fv base f h x y k i (af k).1))
  else .inl (aC (af k).1, (af k).2, am_ec base f h k i)
def am_w (aC : Nat → ClassId) (base : Nat) (g : mg) : va_W := am_cells.mapIdx (fun q e => (base + q, am_e aC base (g.1 e.1 e.2) (g.2.1 e.1) g.2.2.1 g.2.2.2 e.1 e.2))
theorem am_w_at (aC : Nat → ClassId) (base : Nat) (g : mg) {k i : Nat} (hk : k < 112) (hi : i < am_cnt k) : (am_w aC base g)[am_off k i]? = some (base + am_off k i, am_e aC base (g.1 k i) (g.2.1 k) g.2.2.1 g.2.2.2 k i) := by
  unfold am_w
  rw [List.getElem?_mapIdx, am_cells_at k hk i hi]
  rfl
theorem am_w_get {aC : Nat → ClassId} {base : Nat} {g : mg} {q : Nat} {e : Nat × va_E} (h : (am_w aC base g)[q]? = some e) : ∃ k i, am_cells[q]? = some (k, i) ∧ e = (base + q, am_e aC base (g.1 k i) (g.2.1 k) g.2.2.1 g.2.2.2 k i) := by
  unfold am_w at h
  rw [List.getElem?_mapIdx] at h
  cases hc : am_cells[q]? with
  | none => rw [hc] at h; cases h
  | some p => rw [hc] at h; exact ⟨p.1, p.2, rfl, (Option.some.inj h).symm⟩
theorem am_w_D (aC : Nat → ClassId) (base : Nat) (g : mg) : va_D (fun q => base ≤ q) (am_w aC base g) := by
  refine ⟨fun i j p q hi hj hpq => ?_, fun k q hq => ?_⟩
  · obtain ⟨_, _, _, rfl⟩ := am_w_get hi
    obtain ⟨_, _, _, rfl⟩ := am_w_get hj
    dsimp only at hpq
    omega
  · obtain ⟨_, _, _, rfl⟩ := am_w_get hq
    exact Nat.le_add_right _ _
theorem am_w_set {aC : Nat → ClassId} {base : Nat} {g g2 : mg} {k i : Nat} {E : va_E} (hk : k < 112) (hi : i < am_cnt k) (hE : am_e aC base (g2.1 k i) (g2.2.1 k) g2.2.2.1 g2.2.2.2 k i = E) (hne : ∀ k2 i2, k2 < 112 → i2 < am_cnt k2 → (k2 ≠ k ∨ i2 ≠ i) → am_e aC base (g2.1 k2 i2) (g2.2.1 k2) g2.2.2.1 g2.2.2.2 k2 i2 = am_e aC base (g.1 k2 i2) (g.2.1 k2) g.2.2.1 g.2.2.2 k2 i2) :
    (am_w aC base g).set (am_off k i) (base + am_off k i, E) = am_w aC base g2 := by
  apply List.ext_getElem?
  intro q
  by_cases hq : q = am_off k i
  · subst hq
    rw [List.getElem?_set_self (List.getElem?_eq_some_iff.mp (am_w_at aC base g hk hi)).1, am_w_at aC base g2 hk hi, hE]
  · rw [List.getElem?_set_ne (Ne.symm hq)]
    unfold am_w
    rw [List.getElem?_mapIdx, List.getElem?_mapIdx]
    cases hc : am_cells[q]? with
    | none => rfl
    | some e =>
      obtain ⟨h1, h2, h3⟩ := am_cells_off hc
      have hd : e.1 ≠ k ∨ e.2 ≠ i := by
        by_cases h4 : e.1 = k
        · refine Or.inr fun h5 => hq ?_
          rw [← h3, h4, h5]
        · exact Or.inl h4
      show some (base + q, _) = some (base + q, _)
      rw [hne e.1 e.2 h1 h2 hd]
theorem am_ui_ne {c : Nat → Nat → Nat → Int32} {k i j : Nat} {v : Int32} {k2 i2 : Nat} (h : k2 ≠ k ∨ i2 ≠ i) : am_ui c k i j v k2 i2 = c k2 i2 := by
  funext j2
  unfold am_ui
  rw [if_neg]
  rintro ⟨h1, h2, -⟩
  rcases h with h | h
  · exact h h1
  · exact h h2
theorem am_ui_self {c : Nat → Nat → Nat → Int32} {k i j : Nat} {v : Int32} : am_ui c k i j v k i = upd (c k i) j v := by
  funext j2
  unfold am_ui upd
  by_cases h : j2 = j
  · rw [if_pos ⟨rfl, rfl, h⟩, if_pos h]
  · rw [if_neg (fun q => h q.2.2), if_neg h]
theorem am_ul_ne {l : Nat → Nat → Int64} {k j : Nat} {v : Int64} {k2 : Nat} (h : k2 ≠ k) : am_ul l k j v k2 = l k2 := by
  funext j2
  unfold am_ul
  rw [if_neg (fun q => h q.1)]
theorem am_ul_self {l : Nat → Nat → Int64} {k j : Nat} {v : Int64} : am_ul l k j v k = vp_updL (l k) j v := by
  funext j2
  unfold am_ul vp_updL
  by_cases h : j2 = j
  · rw [if_pos ⟨rfl, h⟩, if_pos h]
  · rw [if_neg (fun q => h q.2), if_neg h]
theorem am_map_set {N b : Nat} {F F2 : Nat → Value} {v : Value} (hb : b < N) (h1 : F2 b = v) (h2 : ∀ s, s ≠ b → F2 s = F s) : (List.range N).map F2 = ((List.range N).map F).set b v := by
  apply List.ext_getElem?
  intro q
  by_cases hq : q = b
  · subst hq
    rw [List.getElem?_set_self (by simp; exact hb), List.getElem?_map, List.getElem?_range hb]
    exact congrArg some h1
  · rw [List.getElem?_set_ne (Ne.symm hq), List.getElem?_map, List.getElem?_map]
    by_cases hqN : q < N
    · rw [List.getElem?_range hqN]
      exact congrArg some (h2 q hq)
    · rw [List.getElem?_eq_none (by rw [List.length_range]; omega)]
      rfl
/-! what the tables of families say, by the kernel -/
def am_okr (r : Nat × Nat) : Prop := r.1 < 112 ∧ r.2 < am_cnt r.1
theorem am_nth_mem {α : Type} : ∀ (l : List α) (n : Nat) (a : α), am_nth l n = some a → a ∈ l
  | [], _, _, h => by cases h
  | b :: l, 0, a, h => by cases h; exact List.mem_cons_self
  | b :: l, n + 1, a, h => List.mem_cons_of_mem _ (am_nth_mem l n a h)
def am_hw (k k2 h : Nat) : Prop := match h with
  | 0 => am_cnt k ≤ am_cnt k2
  | 1 => 0 < am_cnt k2
  | 2 => k2 = 4 ∧ k = 20
  | 3 => k2 = 4 ∧ k = 3
  | _ => False
theorem art_tab : ∀ k, k < 112 → ∀ s, s < 128 → ((match art k s with | none => true | some (k2, h) => decide (k2 < 112) && (match h with | 0 => decide (am_cnt k ≤ am_cnt k2) | 1 => decide (0 < am_cnt k2) | 2 => decide (k2 = 4 ∧ k = 20 ∧ s = 2) | 3 => decide (k2 = 4 ∧ k = 3 ∧ s = 1) | _ => false)) = true) := by decide +kernel
theorem art_lt {k s : Nat} {v : Nat × Nat} (h : art k s = some v) : s < 128 := by
  unfold art at h
  cases hb : Nat.blt s 128 with
  | true => exact Nat.le_of_ble_eq_true hb
  | false => rw [hb] at h; cases h
theorem am_rf_ent {k s : Nat} {k2 h : Nat} (hk : k < 112) (h2 : art k s = some (k2, h)) : k2 < 112 ∧ am_hw k k2 h ∧ (h = 2 → s = 2) ∧ (h = 3 → s = 1) := by
  have t := art_tab k hk s (art_lt h2)
  rw [h2] at t
  have t3 := Bool.and_eq_true_iff.mp t
  refine ⟨of_decide_eq_true t3.1, ?_⟩
  have t4 := t3.2
  match h, t4 with
  | 0, t4 => exact ⟨(of_decide_eq_true t4 : am_cnt k ≤ am_cnt k2), (fun q => by cases q), (fun q => by cases q)⟩
  | 1, t4 => exact ⟨(of_decide_eq_true t4 : 0 < am_cnt k2), (fun q => by cases q), (fun q => by cases q)⟩
  | 2, t4 =>
    have q : k2 = 4 ∧ k = 20 ∧ s = 2 := of_decide_eq_true t4
    exact ⟨⟨q.1, q.2.1⟩, fun _ => q.2.2, (fun q => by cases q)⟩
  | 3, t4 =>
    have q : k2 = 4 ∧ k = 3 ∧ s = 1 := of_decide_eq_true t4
    exact ⟨⟨q.1, q.2.1⟩, (fun q => by cases q), fun _ => q.2.2⟩
  | n + 4, t4 => cases t4
theorem am_cnt4 : am_cnt 4 = 2 := rfl
theorem am_rf_ok {k s i x y : Nat} {r : Nat × Nat} (hk : k < 112) (hi : i < am_cnt k) (hx : x < 2) (hy : y < 2) (h : ar k s i x y = some r) : am_okr r := by
  unfold ar at h
  split at h
  · rename_i k2 h2
    cases h
    obtain ⟨a, b, -⟩ := am_rf_ent hk h2
    exact ⟨a, Nat.lt_of_lt_of_le hi b⟩
  · rename_i k2 h2
    cases h
    obtain ⟨a, b, -⟩ := am_rf_ent hk h2
    exact ⟨a, b⟩
  · rename_i k2 h2
    cases h
    obtain ⟨a, b, -⟩ := am_rf_ent hk h2
    refine ⟨a, ?_⟩
    show x < am_cnt k2
    rw [b.1]; exact hx
  · rename_i k2 h2
    cases h
    obtain ⟨a, b, -⟩ := am_rf_ent hk h2
    refine ⟨a, ?_⟩
    show y < am_cnt k2
    rw [b.1]; exact hy
  · cases h
theorem am_re_tab : ∀ k, k < 112 → ((match aet k with | some (k2, n) => decide (k2 < 112 ∧ n = (af k).2 ∧ am_cnt k2 = n * am_cnt k) | _ => true) = true) := by decide +kernel
theorem am_re_ok {k i j : Nat} {r : Nat × Nat} (hk : k < 112) (hi : i < am_cnt k) (hj : j < (af k).2) (h : ae k i j = some r) : am_okr r := by
  have t := am_re_tab k hk
  unfold ae at h
  split at h
  · rename_i k2 n hn
    rw [hn] at t
    cases h
    obtain ⟨t1, t2, t3⟩ := of_decide_eq_true t
    refine ⟨t1, ?_⟩
    show j + i * n < am_cnt k2
    rw [t3]
    have hjn : j < n := by rw [t2]; exact hj
    calc j + i * n < n + i * n := Nat.add_lt_add_right hjn _
      _ = (i + 1) * n := by rw [Nat.add_mul, Nat.one_mul, Nat.add_comm]
      _ ≤ am_cnt k * n := Nat.mul_le_mul_right _ hi
      _ = n * am_cnt k := Nat.mul_comm _ _
  · cases h
/-- a family's type is a class that there is, with so many fields, or an array's -/
theorem af_tab : ∀ k, k < 112 → ((af k).1 < 13 ∧ (af k).2 = am_N (af k).1) ∨ (20 ≤ (af k).1 ∧ (af k).1 ≤ 26) := by decide +kernel
theorem af_long : ∀ k, k < 112 → ((af k).1 = 21 ∨ (af k).1 = 12) → am_cnt k = 1 := by decide +kernel
theorem am_fty_long : ∀ C, C < 13 → ∀ s, s < 89 → am_fty C s = 1 → C = 12 := by decide +kernel
