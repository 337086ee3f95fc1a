/-! the class: calls that change the row, the lines, the tape's length -/
def updR (rf : Nat → Int32) (k : Nat) : Nat → Int32 := fun i => if i = k then rf i + 1 else rf i
/-- what was found before stands, and all of the reference -/
def KC (c c2 : Nat → Nat → Nat → Int32) : Prop := ∀ k, (27 ≤ k ∧ k ≤ 33) ∨ (36 ≤ k ∧ k ≤ 43) ∨ 48 ≤ k → c2 k = c k
/-- all of the reference stands -/
def KR (c c2 : Nat → Nat → Nat → Int32) : Prop := ∀ k, 48 ≤ k → c2 k = c k
section
variable {c : Nat → Nat → Nat → Int32} {l : Nat → Nat → Int64} {x y : Nat} {K : Ct} {F : Nat} {row : List (Nat × Nat)} {tp : Nat → Nat} {n : Nat} {fa fp : Int} {rf : Nat → Int32} {sd : Int} {oc : List Nat}
theorem ac_ref (h : AC c x y K F row tp n fa fp rf sd oc) {k : Nat} (hk : k < 6) : AC (am_ui c 46 0 k (c 46 0 k + 1)) x y K F row tp n fa fp (updR rf k) sd oc ∧ KC c (am_ui c 46 0 k (c 46 0 k + 1)) := by
  obtain ⟨h1, h2, h3, h4, h5, h6, h7⟩ := h
  have hf : ∀ q, q ≠ 46 → am_ui c 46 0 k (c 46 0 k + 1) q = c q := fun q hq => ui_nk _ _ _ _ hq
  refine ⟨⟨JR_fr h1 (fun q _ _ => hf q (by omega)), h2, ⟨?_, RowAt_fr h3.2.1 (hf 24 (by omega)), RowAt_fr h3.2.2 (hf 25 (by omega))⟩, ⟨?_, RowAt_fr h4.2 (hf 26 (by omega))⟩, ?_, ?_, ?_⟩, fun q hq => hf q (by omega)⟩
  · rw [hf 23 (by omega)]; exact h3.1
  · rw [hf 23 (by omega)]; exact h4.1
  · rw [hf 1 (by omega), hf 2 (by omega)]; exact h5
  · intro j hj
    unfold updR
    by_cases e : j = k
    · subst e; rw [ui_self, if_pos rfl, h6 j hj]
    · rw [ui_ne _ _ _ _ (by omega), if_neg e]; exact h6 j hj
  · rw [hf 34 (by omega)]; exact h7
def oneMore (rf : Nat → Int32) (k : Nat) (b : Bool) : Nat → Int32 := if b then rf else updR rf k
theorem e21 (h : JR c x K F) {b k : Int} (hb : -2147483648 ≤ b ∧ b < 2147483648) (hk : -2147483648 ≤ k ∧ k < 2147483648) (d : Nat) : E (d + 2) 21 [vr 4 x, vi (iv b), vi (iv k)] (c, l, x, y) = some (some (vi (iv (if (0 ≤ b ∧ b < nB K) ∧ 0 ≤ k ∧ k < (sayK K b.toNat).length then 1 else 0))), c, l, x, y) := by
  have h7 := h.2.1.2.2.2.1
  rw [q_21, e19 h hb]
  by_cases e : 0 ≤ b ∧ b < nB K
  · obtain ⟨i, rfl⟩ := Int.eq_ofNat_of_zero_le e.1
    have hi : i < nB K := by omega
    have hl := (h7.2 i hi).2.2.2.2.1
    rw [if_pos e]
    simp (disch := omega) only [iv_add, iv_sub, iv_mul, iv_neg, iv_lt, iv_le, iv_eq, iv_nat, iv_L, iv_L2, am_bi_v, am_bv_v, am_bl_v, if_pos, if_neg, Int.toNat_natCast, Int.toNat_add, Int.toNat_mul, Int.reduceToNat, (h.1.2.2.2.1.2 i hi).1]
    by_cases e0 : k < 0
    · rw [if_pos e0, if_neg (by omega)]
    · by_cases e1 : k < ((sayK K i).length : Int)
      · rw [if_neg e0, if_pos e1, if_pos (by omega)]
      · rw [if_neg e0, if_neg e1, if_neg (by omega)]
  · rw [if_neg e, if_neg (fun q => e q.1)]
    rfl
theorem RowAt_snoc {kd : Nat} {ws : List Nat} (h : RowAt c kd 0 ws) (w : Nat) (hk : c kd 0 ws.length = iv w) : RowAt c kd 0 (ws ++ [w]) := by
  intro k hl
  rw [List.length_append, List.length_singleton] at hl
  by_cases e : k = ws.length
  · subst e; rw [getD_app_new]; exact hk
  · rw [getD_app_old (by omega)]; exact h k (by omega)
theorem wds_snoc (row : List (Nat × Nat)) (p : Nat × Nat) : wds (row ++ [p]) = wds row ++ [p.2] := by unfold wds; rw [List.map_append]; rfl
theorem whs_snoc (row : List (Nat × Nat)) (p : Nat × Nat) : whs (row ++ [p]) = whs row ++ [p.1] := by unfold whs; rw [List.map_append]; rfl
/-- one speaks -/
theorem e78 (h : AC c x y K F row tp n fa fp rf sd oc) (h7 : row.length < 7) (b w : Nat) (d : Nat) : ∃ c2 : Nat → Nat → Nat → Int32, E (d + 1) 78 [vr 23 0, vi (iv b), vi (iv w)] (c, l, x, y) = some (none, c2, l, x, y) ∧ AC c2 x y K F (row ++ [(b, w)]) tp n fa fp rf sd oc ∧ ∀ k, k < 23 ∨ 25 < k → c2 k = c k := by
  obtain ⟨h1, h2, h3, h4, h5, h6, h8⟩ := h
  refine ⟨am_ui (am_ui (am_ui c 25 0 row.length (iv b)) 24 0 row.length (iv w)) 23 0 3 (iv ((row.length : Int) + 1)), ?_, ?_, ?_⟩
  · rw [q_78, h3.1]
    simp (disch := omega) only [iv_add, iv_sub, iv_mul, iv_neg, iv_lt, iv_le, iv_eq, iv_nat, iv_L, iv_L2, am_bi_v, am_bv_v, am_bl_v, if_pos, if_neg, Int.toNat_natCast, Int.toNat_add, Int.toNat_mul, Int.reduceToNat]
  · have hf : ∀ q, q < 23 ∨ 25 < q → am_ui (am_ui (am_ui c 25 0 row.length (iv b)) 24 0 row.length (iv w)) 23 0 3 (iv ((row.length : Int) + 1)) q = c q := fun q hq => by rw [ui_nk _ _ _ _ (by omega), ui_nk _ _ _ _ (by omega), ui_nk _ _ _ _ (by omega)]
    refine ⟨JR_fr h1 (fun q _ _ => hf q (by omega)), h2, ⟨?_, ?_, ?_⟩, ⟨?_, RowAt_fr h4.2 (hf 26 (by omega))⟩, ?_, ?_, ?_⟩
    · rw [ui_self, List.length_append]; rfl
    · rw [wds_snoc]
      refine RowAt_snoc (fun k hk => ?_) w ?_
      · rw [wds_len] at hk
        rw [ui_ne _ _ _ _ (by omega), ui_ne _ _ _ _ (by omega), ui_ne _ _ _ _ (by omega)]
        exact h3.2.1 k (by rw [wds_len]; exact hk)
      · rw [wds_len, ui_ne _ _ _ _ (by omega), ui_self]
    · rw [whs_snoc]
      refine RowAt_snoc (fun k hk => ?_) b ?_
      · rw [whs_len] at hk
        rw [ui_ne _ _ _ _ (by omega), ui_ne _ _ _ _ (by omega), ui_ne _ _ _ _ (by omega)]
        exact h3.2.2 k (by rw [whs_len]; exact hk)
      · rw [whs_len, ui_ne _ _ _ _ (by omega), ui_ne _ _ _ _ (by omega), ui_self]
    · rw [ui_ne _ _ _ _ (by omega), ui_ne _ _ _ _ (by omega), ui_ne _ _ _ _ (by omega)]; exact h4.1
    · rw [hf 1 (by omega), hf 2 (by omega)]; exact h5
    · rw [hf 46 (by omega)]; exact h6
    · rw [hf 34 (by omega)]; exact h8
  · intro q hq
    rw [ui_nk _ _ _ _ (by omega), ui_nk _ _ _ _ (by omega), ui_nk _ _ _ _ (by omega)]
theorem nodup_len : ∀ (m : Nat) (L : List Nat), L.Nodup → (∀ w ∈ L, w < m) → L.length ≤ m
  | 0, L, _, h => by
    cases L with
    | nil => exact Nat.le_refl _
    | cons a L => exact absurd (h a List.mem_cons_self) (Nat.not_lt_zero _)
  | m + 1, L, hn, h => by
    have h1 := nodup_len m (L.filter (fun w => w != m)) (hn.filter _) (fun w hw => by
      have h2 := List.mem_filter.mp hw
      have h3 := h w h2.1
      have h4 : w ≠ m := by simpa using h2.2
      omega)
    have h2 : L.length = (L.filter (fun w => w != m)).length + L.countP (fun w => w == m) := by
      have := List.length_eq_countP_add_countP (fun w => w != m) (l := L)
      rw [this, List.countP_eq_length_filter]
      congr 1
      apply List.countP_congr
      intro a _
      simp
    have h3 : L.countP (fun w => w == m) ≤ 1 := List.nodup_iff_count.mp hn m
    omega
/-- whether a witness may say something -/
def maySy (K : Ct) (row : List (Nat × Nat)) (b k : Int) : Bool := decide (((0 ≤ b ∧ b < nB K) ∧ 0 ≤ k ∧ k < (sayK K b.toNat).length) ∧ atR (whs row) b = -1)
def sayRow (K : Ct) (row : List (Nat × Nat)) (b k : Int) : List (Nat × Nat) := if maySy K row b k then row ++ [(b.toNat, (sayK K b.toNat).getD k.toNat 0)] else row
theorem atR_none {ws : List Nat} {b : Nat} (h : atR ws b = -1) : b ∉ ws := by
  unfold atR at h
  cases hf : ws.findIdx? (fun w : Nat => (w : Int) == (b : Int)) with
  | none =>
    intro hb
    have := List.findIdx?_eq_none_iff.mp hf b hb
    simp at this
  | some i => rw [hf] at h; simp only [oi] at h; omega
theorem VS_say (hv : VS K F row tp n fa fp sd oc) (b k : Int) : VS K F (sayRow K row b k) tp n fa fp sd oc := by
  unfold sayRow
  cases hm : maySy K row b k with
  | false => exact hv
  | true =>
    obtain ⟨⟨⟨b1, b2⟩, k1, k2⟩, ha⟩ := of_decide_eq_true hm
    obtain ⟨i, rfl⟩ := Int.eq_ofNat_of_zero_le b1
    have hi : i < nB K := by omega
    rw [Int.toNat_natCast] at k2
    obtain ⟨v1, v2, ⟨v3, v4, v5⟩, v6⟩ := hv
    rw [if_pos rfl]
    have hni := atR_none ha
    have hnd : (whs row ++ [i]).Nodup := by
      rw [List.nodup_append]
      exact ⟨v4, by simp, fun a ha2 b hb => by rw [List.mem_singleton.mp hb]; intro q; rw [q] at ha2; exact hni ha2⟩
    have hmem : ∀ p ∈ row ++ [(i, (sayK K i).getD k.toNat 0)], p.1 < nB K ∧ p.2 ∈ sayK K p.1 := by
      intro p hp
      rcases List.mem_append.mp hp with q | q
      · exact v5 p q
      · rw [List.mem_singleton.mp q]
        exact ⟨hi, show (sayK K i).getD k.toNat 0 ∈ sayK K i from getD_mem (by omega)⟩
    refine ⟨v1, v2, ⟨?_, ?_, hmem⟩, v6⟩
    · have := nodup_len (nB K) (whs (row ++ [(i, (sayK K i).getD k.toNat 0)])) (by rw [whs_snoc]; exact hnd) (fun w hw => by
        obtain ⟨p, hp, rfl⟩ := List.mem_map.mp hw
        exact (hmem p hp).1)
      rw [whs_len] at this
      exact this
    · rw [whs_snoc]; exact hnd
theorem k113 (h : AC c x y K F row tp n fa fp rf sd oc) (hv : VS K F row tp n fa fp sd oc) {b k : Int} (hb : -2147483648 ≤ b ∧ b < 2147483648) (hk : -2147483648 ≤ k ∧ k < 2147483648) (d : Nat) : ∃ c2 : Nat → Nat → Nat → Int32, E (d + 3) 113 [vr 0 0, vi (iv b), vi (iv k)] (c, l, x, y) = some (some (vi (iv (if maySy K row b k then (row.length : Int) + 1 else -1))), c2, l, x, y) ∧ AC c2 x y K F (sayRow K row b k) tp n fa fp (oneMore rf 2 (maySy K row b k)) sd oc ∧ KC c c2 := by
  have h7 := row7 hv
  have hbd := atR_bd (whs row) b
  rw [whs_len] at hbd
  obtain ⟨r1, r2⟩ := ac_ref h (k := 2) (by decide)
  rw [q_113, e21 h.1 hb hk]
  unfold sayRow oneMore maySy
  by_cases e : (0 ≤ b ∧ b < nB K) ∧ 0 ≤ k ∧ k < (sayK K b.toNat).length
  · rw [if_pos e]
    simp (disch := omega) only [am_bi_v, iv_L, iv_eq, if_neg]
    rw [spokeC h hv hb]
    by_cases ha : atR (whs row) b = -1
    · have hd : decide (((0 ≤ b ∧ b < nB K) ∧ 0 ≤ k ∧ k < (sayK K b.toNat).length) ∧ atR (whs row) b = -1) = true := decide_eq_true ⟨e, ha⟩
      have hv2 := VS_say hv b k
      unfold sayRow maySy at hv2
      rw [hd, if_pos rfl] at hv2
      rw [hd]
      simp only [if_true]
      obtain ⟨⟨b1, b2⟩, k1, k2⟩ := e
      obtain ⟨i, rfl⟩ := Int.eq_ofNat_of_zero_le b1
      obtain ⟨j, rfl⟩ := Int.eq_ofNat_of_zero_le k1
      have hi : i < nB K := by omega
      rw [Int.toNat_natCast] at k2 hv2 ⊢
      rw [Int.toNat_natCast] at hv2 ⊢
      have hl := (hv.1.2.2.2.1.2 i hi).2.2.2.2.1
      have hr7 := row7 hv2
      rw [List.length_append, List.length_singleton] at hr7
      have h70 := hv.1.2.2.2.1.1
      obtain ⟨c2, g1, g2, g3⟩ := e78 (l := l) h (by omega) i ((sayK K i).getD j 0) (d + 1)
      refine ⟨c2, ?_, g2, fun q hq => g3 q (by omega)⟩
      rw [ha]
      simp (disch := omega) only [am_bi_v, iv_neg, if_true, iv_lt, iv_nat, if_neg, Int.toNat_natCast, Int.toNat_add, Int.toNat_mul, Int.reduceToNat, say_row h.1 hi j (by omega), g1, am_bv_v, g2.2.2.1.1]
      rw [List.length_append]
      rfl
    · have hd : decide (((0 ≤ b ∧ b < nB K) ∧ 0 ≤ k ∧ k < (sayK K b.toNat).length) ∧ atR (whs row) b = -1) = false := decide_eq_false (fun q => ha q.2)
      rw [hd]
      refine ⟨_, ?_, r1, r2⟩
      simp (disch := omega) only [am_bi_v, iv_neg, iv_eq, if_neg]
      rfl
  · have hd : decide (((0 ≤ b ∧ b < nB K) ∧ 0 ≤ k ∧ k < (sayK K b.toNat).length) ∧ atR (whs row) b = -1) = false := decide_eq_false (fun q => e q.1)
    rw [hd, if_neg e]
    exact ⟨_, rfl, r1, r2⟩
/-- the row's length alone changes -/
theorem ac_len (h : AC c x y K F row tp n fa fp rf sd oc) (m : Nat) (hm : m ≤ row.length) : AC (am_ui c 23 0 3 (iv m)) x y K F (row.take m) tp n fa fp rf sd oc ∧ KC c (am_ui c 23 0 3 (iv m)) := by
  obtain ⟨h1, h2, h3, h4, h5, h6, h8⟩ := h
  have hf : ∀ q, q ≠ 23 → am_ui c 23 0 3 (iv m) q = c q := fun q hq => ui_nk _ _ _ _ hq
  have ht : ∀ (ws : List Nat) (kd : Nat), RowAt c kd 0 ws → RowAt c kd 0 (ws.take m) := by
    intro ws kd hr k hk
    rw [List.length_take] at hk
    rw [hr k (by omega), List.getD_eq_getElem?_getD, List.getD_eq_getElem?_getD, List.getElem?_take_of_lt (by omega)]
  refine ⟨⟨JR_fr h1 (fun q _ _ => hf q (by omega)), h2, ⟨?_, ?_, ?_⟩, ⟨?_, RowAt_fr h4.2 (hf 26 (by omega))⟩, ?_, ?_, ?_⟩, fun q hq => hf q (by omega)⟩
  · rw [ui_self, List.length_take, Nat.min_eq_left hm]
  · unfold wds; rw [List.map_take]; exact RowAt_fr (ht _ _ h3.2.1) (hf 24 (by omega))
  · unfold whs; rw [List.map_take]; exact RowAt_fr (ht _ _ h3.2.2) (hf 25 (by omega))
  · rw [ui_ne _ _ _ _ (by omega)]; exact h4.1
  · rw [hf 1 (by omega), hf 2 (by omega)]; exact h5
  · rw [hf 46 (by omega)]; exact h6
  · rw [hf 34 (by omega)]; exact h8
theorem VS_take (hv : VS K F row tp n fa fp sd oc) (m : Nat) : VS K F (row.take m) tp n fa fp sd oc := by
  obtain ⟨v1, v2, ⟨v3, v4, v5⟩, v6⟩ := hv
  refine ⟨v1, v2, ⟨?_, ?_, fun p hp => v5 p (List.mem_of_mem_take hp)⟩, v6⟩
  · rw [List.length_take]; omega
  · unfold whs; rw [List.map_take]; exact v4.sublist (List.take_sublist _ _)
theorem k114 (h : AC c x y K F row tp n fa fp rf sd oc) (hv : VS K F row tp n fa fp sd oc) (d : Nat) : ∃ c2 : Nat → Nat → Nat → Int32, E (d + 1) 114 [vr 0 0] (c, l, x, y) = some (some (vi (iv (if row.length = 0 then 0 else 1))), c2, l, x, y) ∧ AC c2 x y K F (row.take (row.length - 1)) tp n fa fp (oneMore rf 2 (decide (row.length ≠ 0))) sd oc ∧ KC c c2 := by
  have h7 := row7 hv
  rw [q_114, h.2.2.1.1]
  simp (disch := omega) only [iv_L, iv_eq, iv_sub]
  by_cases e : row.length = 0
  · obtain ⟨r1, r2⟩ := ac_ref h (k := 2) (by decide)
    refine ⟨_, by rw [if_pos (by omega), if_pos e]; rfl, ?_, r2⟩
    rw [show decide (row.length ≠ 0) = false by simp [e], show row.take (row.length - 1) = row by rw [List.take_of_length_le (by omega)]]
    exact r1
  · obtain ⟨r1, r2⟩ := ac_len h (row.length - 1) (by omega)
    refine ⟨_, by rw [if_neg (by omega), if_neg e, show ((row.length : Int) - 1) = ((row.length - 1 : Nat) : Int) by omega], ?_, r2⟩
    rw [show decide (row.length ≠ 0) = true by simp [e]]
    exact r1
theorem k115 (h : AC c x y K F row tp n fa fp rf sd oc) (d : Nat) : ∃ c2 : Nat → Nat → Nat → Int32, E (d + 1) 115 [vr 0 0] (c, l, x, y) = some (some (vi (iv row.length)), c2, l, x, y) ∧ AC c2 x y K F [] tp n fa fp rf sd oc ∧ KC c c2 := by
  obtain ⟨r1, r2⟩ := ac_len h 0 (by omega)
  refine ⟨_, by rw [q_115, h.2.2.1.1]; rfl, r1, r2⟩
theorem k137 (h : AC c x y K F row tp n fa fp rf sd oc) {z : Int} (hz : -2147483648 ≤ z ∧ z < 2147483648) (d : Nat) : ∃ c2 : Nat → Nat → Nat → Int32, E (d + 1) 137 [vr 0 0, vi (iv z)] (c, l, x, y) = some (some (vi (iv (if z < 0 then 0 else 1))), c2, l, x, y) ∧ AC c2 x y K F row tp n fa fp (oneMore rf 4 (decide (0 ≤ z))) (if z < 0 then sd else z) oc ∧ KC c c2 := by
  rw [q_137]
  simp (disch := omega) only [iv_L, iv_lt]
  by_cases e : z < 0
  · obtain ⟨r1, r2⟩ := ac_ref h (k := 4) (by decide)
    refine ⟨_, by rw [if_pos e, if_pos e]; rfl, ?_, r2⟩
    rw [show decide (0 ≤ z) = false by simp; omega, if_pos e]
    exact r1
  · obtain ⟨h1, h2, h3, h4, h5, h6, h8⟩ := h
    have hf : ∀ q, q ≠ 34 → am_ui c 34 0 2 (iv z) q = c q := fun q hq => ui_nk _ _ _ _ hq
    refine ⟨am_ui c 34 0 2 (iv z), by rw [if_neg e, if_neg e], ?_, fun q hq => hf q (by omega)⟩
    rw [show decide (0 ≤ z) = true by simp; omega, if_neg e]
    refine ⟨JR_fr h1 (fun q _ _ => hf q (by omega)), h2, ⟨?_, RowAt_fr h3.2.1 (hf 24 (by omega)), RowAt_fr h3.2.2 (hf 25 (by omega))⟩, ⟨?_, RowAt_fr h4.2 (hf 26 (by omega))⟩, ?_, ?_, ui_self _ _ _ _⟩
    · rw [hf 23 (by omega)]; exact h3.1
    · rw [hf 23 (by omega)]; exact h4.1
    · rw [hf 1 (by omega), hf 2 (by omega)]; exact h5
    · rw [hf 46 (by omega)]; exact h6
theorem k144 (h : AC c x y K F row tp n fa fp rf sd oc) (hv : VS K F row tp n fa fp sd oc) {z : Int} (hz : -2147483648 ≤ z ∧ z < 2147483648) (d : Nat) : E (d + 1) 144 [vr 0 0, vi (iv z)] (c, l, x, y) = some (some (vi (iv (if 0 ≤ z ∧ z < oc.length then ((oc.getD z.toNat 0 : Nat) : Int) else -1))), c, l, x, y) := by
  have h17 := hv.2.2.2.2.2.2.2.1
  rw [q_144, h.2.2.2.1.1]
  by_cases e : 0 ≤ z ∧ z < oc.length
  · obtain ⟨k, rfl⟩ := Int.eq_ofNat_of_zero_le e.1
    rw [if_pos e]
    simp (disch := omega) only [iv_add, iv_sub, iv_mul, iv_neg, iv_lt, iv_le, iv_eq, iv_nat, iv_L, iv_L2, am_bi_v, am_bv_v, am_bl_v, if_pos, if_neg, Int.toNat_natCast, Int.toNat_add, Int.toNat_mul, Int.reduceToNat, h.2.2.2.1.2 k (by omega)]
  · rw [if_neg e]
    by_cases e1 : z < 0
    · simp (disch := omega) only [iv_add, iv_sub, iv_mul, iv_neg, iv_lt, iv_le, iv_eq, iv_nat, iv_L, iv_L2, am_bi_v, am_bv_v, am_bl_v, if_pos, if_neg, Int.toNat_natCast, Int.toNat_add, Int.toNat_mul, Int.reduceToNat]
    · simp (disch := omega) only [iv_add, iv_sub, iv_mul, iv_neg, iv_lt, iv_le, iv_eq, iv_nat, iv_L, iv_L2, am_bi_v, am_bv_v, am_bl_v, if_pos, if_neg, Int.toNat_natCast, Int.toNat_add, Int.toNat_mul, Int.reduceToNat]
theorem k146 (h : AC c x y K F row tp n fa fp rf sd oc) {z : Int} (hz : -2147483648 ≤ z ∧ z < 2147483648) (d : Nat) : E (d + 1) 146 [vr 0 0, vi (iv z)] (c, l, x, y) = some (some (vi (if 0 ≤ z ∧ z < 6 then rf z.toNat else iv (-1))), c, l, x, y) := by
  rw [q_146]
  by_cases e : 0 ≤ z ∧ z < 6
  · obtain ⟨k, rfl⟩ := Int.eq_ofNat_of_zero_le e.1
    rw [if_pos e]
    simp (disch := omega) only [iv_add, iv_sub, iv_mul, iv_neg, iv_lt, iv_le, iv_eq, iv_nat, iv_L, iv_L2, am_bi_v, am_bv_v, am_bl_v, if_pos, if_neg, Int.toNat_natCast, Int.toNat_add, Int.toNat_mul, Int.reduceToNat, h.2.2.2.2.2.1 k (by omega)]
  · rw [if_neg e]
    by_cases e1 : z < 0
    · simp (disch := omega) only [iv_add, iv_sub, iv_mul, iv_neg, iv_lt, iv_le, iv_eq, iv_nat, iv_L, iv_L2, am_bi_v, am_bv_v, am_bl_v, if_pos, if_neg, Int.toNat_natCast, Int.toNat_add, Int.toNat_mul, Int.reduceToNat]
    · simp (disch := omega) only [iv_add, iv_sub, iv_mul, iv_neg, iv_lt, iv_le, iv_eq, iv_nat, iv_L, iv_L2, am_bi_v, am_bv_v, am_bl_v, if_pos, if_neg, Int.toNat_natCast, Int.toNat_add, Int.toNat_mul, Int.reduceToNat]
theorem k102 (h : AC c x y K F row tp n fa fp rf sd oc) (hv : VS K F row tp n fa fp sd oc) {z : Int} (hz : -2147483648 ≤ z ∧ z < 2147483648) (d : Nat) : ∃ c2 : Nat → Nat → Nat → Int32, E (d + 1) 102 [vr 0 0, vi (iv z)] (c, l, x, y) = some (some (vi (iv (if 0 ≤ z ∧ z ≤ n then 1 else 0))), c2, l, x, y) ∧ AC c2 x y K F row tp (if 0 ≤ z ∧ z ≤ n then z.toNat else n) fa fp (oneMore rf 0 (decide (0 ≤ z ∧ z ≤ n))) sd oc ∧ KC c c2 := by
  have hn := hv.2.2.2.1.1
  obtain ⟨r1, r2⟩ := ac_ref h (k := 0) (by decide)
  rw [q_102, h.2.2.2.2.1.1]
  simp (disch := omega) only [iv_L, iv_lt]
  by_cases e : 0 ≤ z ∧ z ≤ n
  · obtain ⟨h1, h2, h3, h4, h5, h6, h8⟩ := h
    have hf : ∀ q, q ≠ 1 → am_ui c 1 0 1 (iv z) q = c q := fun q hq => ui_nk _ _ _ _ hq
    refine ⟨am_ui c 1 0 1 (iv z), by rw [if_neg (by omega), if_neg (by omega), if_pos e], ?_, fun q hq => hf q (by omega)⟩
    rw [decide_eq_true e, if_pos e]
    refine ⟨JR_fr h1 (fun q _ _ => hf q (by omega)), h2, ⟨?_, RowAt_fr h3.2.1 (hf 24 (by omega)), RowAt_fr h3.2.2 (hf 25 (by omega))⟩, ⟨?_, RowAt_fr h4.2 (hf 26 (by omega))⟩, ⟨?_, ?_, ?_, ?_⟩, ?_, ?_⟩
    · rw [hf 23 (by omega)]; exact h3.1
    · rw [hf 23 (by omega)]; exact h4.1
    · rw [ui_self, Int.toNat_of_nonneg e.1]
    · rw [ui_ne _ _ _ _ (by omega)]; exact h5.2.1
    · rw [ui_ne _ _ _ _ (by omega)]; exact h5.2.2.1
    · rw [hf 2 (by omega)]; exact h5.2.2.2
    · rw [hf 46 (by omega)]; exact h6
    · rw [hf 34 (by omega)]; exact h8
  · rw [decide_eq_false e, if_neg e, if_neg e]
    by_cases e1 : z < 0
    · exact ⟨_, by rw [if_pos e1]; rfl, r1, r2⟩
    · exact ⟨_, by rw [if_neg e1, if_pos (by omega)]; rfl, r1, r2⟩
end
