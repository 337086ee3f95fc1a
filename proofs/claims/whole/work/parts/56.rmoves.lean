/-! the reference: calls that change the row, the lines, the tape -/
/-- all of the class stands -/
def KL (c c2 : Nat → Nat → Nat → Int32) : Prop := ∀ k, k < 48 → c2 k = c k
section
variable {c : Nat → Nat → Nat → Int32} {l : Nat → Nat → Int64} {x y : Nat} {K : Ct} {F : Nat} {row : List (Nat × Nat)} {tp : Nat → Nat} {n : Nat} {fa fp : Int} {rf : Nat → Int32} {sd : Int} {oc : List Nat}
theorem Sx_KL {c2 : Nat → Nat → Nat → Int32} (h : Sx c c2) : KL c c2 := fun k hk => h.1 k (by omega) (by omega)
theorem Sy_KL {c2 : Nat → Nat → Nat → Int32} (h : Sy c c2) : KL c c2 := fun k hk => h.1 k (by omega) (by omega)
theorem KL.tr {c1 c2 c3 : Nat → Nat → Nat → Int32} (h : KL c1 c2) (g : KL c2 c3) : KL c1 c3 := fun k hk => (g k hk).trans (h k hk)
theorem KL_ui (k i j : Nat) (v : Int32) (h : 48 ≤ k) : KL c (am_ui c k i j v) := fun q hq => ui_nk _ _ _ _ (by omega)
theorem RR_fr {c2 : Nat → Nat → Nat → Int32} (h : RR c l K F) (hf : ∀ k, (k = 68 ∨ k = 70 ∨ (72 ≤ k ∧ k ≤ 76)) → c2 k = c k) (h38 : c2 48 0 38 = c 48 0 38) (h39 : c2 48 0 39 = c 48 0 39) : RR c2 l K F := by
  unfold RR RS at h ⊢
  rw [hf 68 (by omega), hf 70 (by omega), hf 72 (by omega), hf 73 (by omega), hf 74 (by omega), hf 75 (by omega), hf 76 (by omega), h38, h39]
  exact h
/-- of the reference one cell of 48, or one of another array, changes -/
theorem ar_ref (h : AR c l K F row tp n fa fp rf sd oc) {k : Nat} (hk : k < 6) : AR (am_ui c 50 0 k (c 50 0 k + 1)) l K F row tp n fa fp (updR rf k) sd oc ∧ KL c (am_ui c 50 0 k (c 50 0 k + 1)) := by
  obtain ⟨g1, g2, g3, g4, g5, g6, g7⟩ := h
  have hf : ∀ q, q ≠ 50 → am_ui c 50 0 k (c 50 0 k + 1) q = c q := fun q hq => ui_nk _ _ _ _ hq
  refine ⟨⟨RR_fr g1 (fun q hq => hf q (by omega)) (by rw [hf 48 (by omega)]) (by rw [hf 48 (by omega)]), ⟨by rw [hf 48 (by omega)]; exact g2.1, RowAt_fr g2.2.1 (hf 77 (by omega)), RowAt_fr g2.2.2 (hf 78 (by omega))⟩, ⟨by rw [hf 48 (by omega)]; exact g3.1, RowAt_fr g3.2 (hf 111 (by omega))⟩, by rw [hf 48 (by omega), hf 49 (by omega)]; exact g4, ?_, g6, CH_fr g7 (fun q hq => hf q (by omega))⟩, KL_ui _ _ _ _ (by omega)⟩
  intro j hj
  unfold updR
  by_cases e : j = k
  · subst e; rw [ui_self, if_pos rfl, g5 j hj]
  · rw [ui_ne _ _ _ _ (by omega), if_neg e]; exact g5 j hj
theorem ar_len (h : AR c l K F row tp n fa fp rf sd oc) (m : Nat) (hm : m ≤ row.length) : AR (am_ui c 48 0 42 (iv m)) l K F (row.take m) tp n fa fp rf sd oc ∧ KL c (am_ui c 48 0 42 (iv m)) := by
  obtain ⟨g1, g2, g3, g4, g5, g6, g7⟩ := h
  have hf : ∀ q, q ≠ 48 → am_ui c 48 0 42 (iv m) q = c q := fun q hq => ui_nk _ _ _ _ hq
  have h48 : ∀ s, s ≠ 42 → am_ui c 48 0 42 (iv m) 48 0 s = c 48 0 s := fun s hs => ui_ne _ _ _ _ (by omega)
  have ht : ∀ (ws : List Nat) (kd : Nat), RowAt c kd 0 ws → RowAt c kd 0 (ws.take m) := by
    intro ws kd hr k hk
    rw [List.length_take] at hk
    rw [hr k (by omega), List.getD_eq_getElem?_getD, List.getD_eq_getElem?_getD, List.getElem?_take_of_lt (by omega)]
  refine ⟨⟨RR_fr g1 (fun q hq => hf q (by omega)) (h48 _ (by omega)) (h48 _ (by omega)), ⟨?_, ?_, ?_⟩, ⟨by rw [h48 _ (by omega)]; exact g3.1, RowAt_fr g3.2 (hf 111 (by omega))⟩, by rw [h48 _ (by omega), h48 _ (by omega), h48 _ (by omega), hf 49 (by omega)]; exact g4, by rw [hf 50 (by omega)]; exact g5, g6, CH_fr g7 (fun q hq => hf q (by omega))⟩, KL_ui _ _ _ _ (by omega)⟩
  · rw [ui_self, List.length_take, Nat.min_eq_left hm]
  · unfold wds; rw [List.map_take]; exact RowAt_fr (ht _ _ g2.2.1) (hf 77 (by omega))
  · unfold whs; rw [List.map_take]; exact RowAt_fr (ht _ _ g2.2.2) (hf 78 (by omega))
theorem e196 (h : AR c l K F row tp n fa fp rf sd oc) (h7 : row.length < 8) (b w : Nat) (d : Nat) : ∃ c2 : Nat → Nat → Nat → Int32, E (d + 1) 196 [vr 48 0, vi (iv b), vi (iv w)] (c, l, x, y) = some (none, c2, l, x, y) ∧ AR c2 l K F (row ++ [(b, w)]) tp n fa fp rf sd oc ∧ (∀ k, k ≠ 48 → k ≠ 77 → k ≠ 78 → c2 k = c k) ∧ ∀ i s, s ≠ 42 → c2 48 i s = c 48 i s := by
  obtain ⟨g1, g2, g3, g4, g5, g6, g7⟩ := h
  have hf : ∀ q, q ≠ 48 → q ≠ 77 → q ≠ 78 → am_ui (am_ui (am_ui c 78 0 row.length (iv b)) 77 0 row.length (iv w)) 48 0 42 (iv ((row.length : Int) + 1)) q = c q := fun q q1 q2 q3 => by rw [ui_nk _ _ _ _ q1, ui_nk _ _ _ _ q2, ui_nk _ _ _ _ q3]
  have h48 : ∀ i s, s ≠ 42 → am_ui (am_ui (am_ui c 78 0 row.length (iv b)) 77 0 row.length (iv w)) 48 0 42 (iv ((row.length : Int) + 1)) 48 i s = c 48 i s := fun i s hs => by rw [ui_ne _ _ _ _ (by omega), ui_ne _ _ _ _ (by omega), ui_ne _ _ _ _ (by omega)]
  refine ⟨am_ui (am_ui (am_ui c 78 0 row.length (iv b)) 77 0 row.length (iv w)) 48 0 42 (iv ((row.length : Int) + 1)), ?_, ⟨RR_fr g1 (fun q hq => hf q (by omega) (by omega) (by omega)) (h48 _ _ (by omega)) (h48 _ _ (by omega)), ⟨?_, ?_, ?_⟩, ⟨by rw [h48 _ _ (by omega)]; exact g3.1, RowAt_fr g3.2 (hf 111 (by omega) (by omega) (by omega))⟩, by rw [h48 _ _ (by omega), h48 _ _ (by omega), h48 _ _ (by omega), hf 49 (by omega) (by omega) (by omega)]; exact g4, by rw [hf 50 (by omega) (by omega) (by omega)]; exact g5, g6, CH_fr g7 (fun q hq => hf q (by omega) (by omega) (by omega))⟩, hf, h48⟩
  · rw [q_196, g2.1]
    simp (disch := omega) only [iv_add, iv_sub, iv_mul, iv_neg, iv_lt, iv_le, iv_eq, iv_nat, iv_L, iv_L2, am_bi_v, am_bv_v, am_bl_v, if_pos, if_neg, Int.toNat_natCast, Int.toNat_add, Int.toNat_mul, Int.reduceToNat]
  · rw [ui_self, List.length_append]; rfl
  · rw [wds_snoc]
    refine RowAt_snoc (fun k hk => ?_) w ?_
    · rw [wds_len] at hk
      rw [ui_ne _ _ _ _ (by omega), ui_ne _ _ _ _ (by omega), ui_ne _ _ _ _ (by omega)]
      exact g2.2.1 k (by rw [wds_len]; exact hk)
    · rw [wds_len, ui_ne _ _ _ _ (by omega), ui_self]
  · rw [whs_snoc]
    refine RowAt_snoc (fun k hk => ?_) b ?_
    · rw [whs_len] at hk
      rw [ui_ne _ _ _ _ (by omega), ui_ne _ _ _ _ (by omega), ui_ne _ _ _ _ (by omega)]
      exact g2.2.2 k (by rw [whs_len]; exact hk)
    · rw [whs_len, ui_ne _ _ _ _ (by omega), ui_ne _ _ _ _ (by omega), ui_self]
theorem m195 (h : AR c l K F row tp n fa fp rf sd oc) (hv : VS K F row tp n fa fp sd oc) {b k : Int} (hb : -2147483648 ≤ b ∧ b < 2147483648) (hk : -2147483648 ≤ k ∧ k < 2147483648) (d : Nat) : ∃ c2 : Nat → Nat → Nat → Int32, E (d + 3) 195 [vr 48 0, vi (iv b), vi (iv k)] (c, l, x, y) = some (some (vi (iv (if maySy K row b k then (row.length : Int) + 1 else -1))), c2, l, x, y) ∧ AR c2 l K F (sayRow K row b k) tp n fa fp (oneMore rf 2 (maySy K row b k)) sd oc ∧ KL c c2 := by
  have h7 := row7 hv
  have hbd := atR_bd (whs row) b
  rw [whs_len] at hbd
  obtain ⟨r1, r2⟩ := ar_ref h (k := 2) (by decide)
  rw [q_195, e191 h.1 hb]
  unfold sayRow oneMore maySy
  by_cases e : 0 ≤ b ∧ b < nB K
  · obtain ⟨i, rfl⟩ := Int.eq_ofNat_of_zero_le e.1
    have hi : i < nB K := by omega
    have hl := (hv.1.2.2.2.1.2 i hi).2.2.2.2.1
    rw [if_pos e, Int.toNat_natCast]
    simp (disch := omega) only [am_bi_v, iv_L, iv_eq, if_neg, e187 h.1 hi, iv_sub, jv_of, jv_L, jv_neg, jv_add, jv_sub, e171]
    by_cases ek : 0 ≤ k ∧ k < ((sayK K i).length : Int)
    · rw [if_pos (show 0 ≤ k ∧ k ≤ ((sayK K i).length : Int) - 1 by omega), if_neg (by decide), spokeR h hv hb]
      simp (disch := omega) only [am_bi_v, iv_neg, iv_eq]
      by_cases ha : atR (whs row) i = -1
      · have hd : decide ((((0 : Int) ≤ i ∧ (i : Int) < nB K) ∧ 0 ≤ k ∧ k < ((sayK K i).length : Int)) ∧ atR (whs row) i = -1) = true := decide_eq_true ⟨⟨e, ek⟩, ha⟩
        obtain ⟨j, rfl⟩ := Int.eq_ofNat_of_zero_le ek.1
        obtain ⟨c2, g1, g2, g3, g4⟩ := e196 (x := x) (y := y) h (by omega) i ((sayK K i).getD j 0) (d + 1)
        rw [hd]
        refine ⟨c2, ?_, g2, fun q hq => g3 q (by omega) (by omega) (by omega)⟩
        rw [if_pos ha, e188 h.1 hi (by omega)]
        simp only [am_bi_v]
        rw [g1]
        simp only [am_bv_v, g2.2.1.1, if_true]
        rw [List.length_append]
        rfl
      · have hd : decide ((((0 : Int) ≤ i ∧ (i : Int) < nB K) ∧ 0 ≤ k ∧ k < ((sayK K i).length : Int)) ∧ atR (whs row) i = -1) = false := decide_eq_false (fun q => ha q.2)
        rw [hd]
        refine ⟨_, ?_, r1, r2⟩
        rw [if_neg ha]
        rfl
    · have hd : decide ((((0 : Int) ≤ i ∧ (i : Int) < nB K) ∧ 0 ≤ k ∧ k < ((sayK K i).length : Int)) ∧ atR (whs row) i = -1) = false := decide_eq_false (fun q => ek q.1.2)
      rw [hd]
      refine ⟨_, ?_, r1, r2⟩
      rw [if_neg (show ¬ (0 ≤ k ∧ k ≤ ((sayK K i).length : Int) - 1) by omega), if_pos (by decide)]
      rfl
  · have hd : decide (((0 ≤ b ∧ b < nB K) ∧ 0 ≤ k ∧ k < (sayK K b.toNat).length) ∧ atR (whs row) b = -1) = false := decide_eq_false (fun q => e q.1.1)
    rw [hd, if_neg e]
    exact ⟨_, rfl, r1, r2⟩
theorem m197 (h : AR c l K F row tp n fa fp rf sd oc) (hv : VS K F row tp n fa fp sd oc) (d : Nat) : ∃ c2 : Nat → Nat → Nat → Int32, E (d + 1) 197 [vr 48 0] (c, l, x, y) = some (some (vi (iv (if row.length = 0 then 0 else 1))), c2, l, x, y) ∧ AR c2 l K F (row.take (row.length - 1)) tp n fa fp (oneMore rf 2 (decide (row.length ≠ 0))) sd oc ∧ KL c c2 := by
  have h7 := row7 hv
  rw [q_197, h.2.1.1]
  simp (disch := omega) only [iv_L, iv_eq, iv_sub]
  by_cases e : row.length = 0
  · obtain ⟨r1, r2⟩ := ar_ref h (k := 2) (by decide)
    refine ⟨_, by rw [if_pos (by omega), if_pos e]; rfl, ?_, r2⟩
    rw [show decide (row.length ≠ 0) = false by simp [e], show row.take (row.length - 1) = row by rw [List.take_of_length_le (by omega)]]
    exact r1
  · obtain ⟨r1, r2⟩ := ar_len h (row.length - 1) (by omega)
    refine ⟨_, by rw [if_neg (by omega), if_neg e, show ((row.length : Int) - 1) = ((row.length - 1 : Nat) : Int) by omega], ?_, r2⟩
    rw [show decide (row.length ≠ 0) = true by simp [e]]
    exact r1
theorem m198 (h : AR c l K F row tp n fa fp rf sd oc) (d : Nat) : ∃ c2 : Nat → Nat → Nat → Int32, E (d + 1) 198 [vr 48 0] (c, l, x, y) = some (some (vi (iv row.length)), c2, l, x, y) ∧ AR c2 l K F [] tp n fa fp rf sd oc ∧ KL c c2 := by
  obtain ⟨r1, r2⟩ := ar_len h 0 (by omega)
  refine ⟨_, by rw [q_198, h.2.1.1]; rfl, r1, r2⟩
theorem ar_F (h : AR c l K F row tp n fa fp rf sd oc) {G : Nat} (hG : G < 64) : AR (am_ui c 48 0 39 (iv G)) l K G row tp n fa fp rf sd oc ∧ KL c (am_ui c 48 0 39 (iv G)) := by
  obtain ⟨g1, g2, g3, g4, g5, g6, g7⟩ := h
  have hf : ∀ q, q ≠ 48 → am_ui c 48 0 39 (iv G) q = c q := fun q hq => ui_nk _ _ _ _ hq
  have h48 : ∀ s, s ≠ 39 → am_ui c 48 0 39 (iv G) 48 0 s = c 48 0 s := fun s hs => ui_ne _ _ _ _ (by omega)
  exact ⟨⟨RR_F g1 hG, ⟨by rw [h48 _ (by omega)]; exact g2.1, RowAt_fr g2.2.1 (hf 77 (by omega)), RowAt_fr g2.2.2 (hf 78 (by omega))⟩, ⟨by rw [h48 _ (by omega)]; exact g3.1, RowAt_fr g3.2 (hf 111 (by omega))⟩, by rw [h48 _ (by omega), h48 _ (by omega), h48 _ (by omega), hf 49 (by omega)]; exact g4, by rw [hf 50 (by omega)]; exact g5, g6, CH_fr g7 (fun q hq => hf q (by omega))⟩, KL_ui _ _ _ _ (by omega)⟩
theorem m199 (h : AR c l K F row tp n fa fp rf sd oc) (hv : VS K F row tp n fa fp sd oc) {i : Int} (hi : -2147483648 ≤ i ∧ i < 2147483648) (is : Bool) (d : Nat) : ∃ c2 : Nat → Nat → Nat → Int32, E (d + 2) 199 [vr 48 0, vi (iv i), vi (iv (if is then 1 else 0))] (c, l, x, y) = some (some (vi (iv (if mayLn K F i is then 1 else 0))), c2, l, x, y) ∧ AR c2 l K (linF K F i is) row tp n fa fp (oneMore rf 3 (mayLn K F i is)) sd oc ∧ KL c c2 := by
  have hF := F64 hv
  have h6 := hv.1.2.1.1
  obtain ⟨r1, r2⟩ := ar_ref h (k := 3) (by decide)
  rw [q_199, q_177, h.1.1.2.1.1]
  simp (disch := omega) only [am_bi_v, iv_L, iv_L2, iv_sub, jv_of, jv_L, jv_neg, jv_add, jv_sub, e171, h.1.2.2.2]
  unfold linF oneMore mayLn
  by_cases e : 0 ≤ i ∧ i < nL K
  · obtain ⟨k, rfl⟩ := Int.eq_ofNat_of_zero_le e.1
    rw [if_pos (show (0 : Int) ≤ k ∧ (k : Int) ≤ (nL K : Int) - 1 by omega), if_neg (by decide), iv_m31 (by omega), show ((k : Int) % 32) = k by omega, iv_bit (by omega) (by omega), Int.toNat_natCast, Int.toNat_natCast]
    have hp6 : 2 ^ k ≤ 2 ^ 6 := Nat.pow_le_pow_right (by decide) (by omega)
    have hp7 : ((2 ^ k : Nat) : Int) ≤ 64 := Int.ofNat_le.mpr hp6
    have hsh : iv 1 <<< (iv (k : Int) &&& iv 31) = iv ((2 ^ k : Nat) : Int) := shl1 k (by omega)
    have hG : F ^^^ 2 ^ k < 64 := toggle_lt (m := 6) hF (by omega)
    have go : ∀ s : Bool, s = F.testBit k → ∃ c2 : Nat → Nat → Nat → Int32, X (d + 2) 199 21 [some (vr 48 0), some (vi (iv k)), some (vi (iv (if is then 1 else 0)))] [vi (iv (if s then 1 else 0))] (c, l, x, y) = some (some (vi (iv (if decide (((0 : Int) ≤ k ∧ (k : Int) < nL K) ∧ F.testBit k ≠ is) then 1 else 0))), c2, l, x, y) ∧ AR c2 l K (if decide (((0 : Int) ≤ k ∧ (k : Int) < nL K) ∧ F.testBit k ≠ is) then F ^^^ 2 ^ k else F) row tp n fa fp (if decide (((0 : Int) ≤ k ∧ (k : Int) < nL K) ∧ F.testBit k ≠ is) then rf else updR rf 3) sd oc ∧ KL c c2 := by
      intro s hs
      rw [q_199_21, h.1.2.2.2, ← hs]
      simp only [iv_L, iv_L2]
      by_cases hb : s = is
      · have hd : decide (((0 : Int) ≤ k ∧ (k : Int) < nL K) ∧ s ≠ is) = false := decide_eq_false (fun q => q.2 hb)
        rw [hd, hb]
        refine ⟨_, ?_, r1, r2⟩
        rw [if_pos rfl]
        rfl
      · have hd : decide (((0 : Int) ≤ k ∧ (k : Int) < nL K) ∧ s ≠ is) = true := decide_eq_true ⟨e, hb⟩
        rw [hd]
        obtain ⟨s1, s2⟩ := ar_F h hG
        refine ⟨_, ?_, s1, s2⟩
        have hne : ¬ (iv (if s = true then 1 else 0) = iv (if is = true then 1 else 0)) := by
          cases s <;> cases is
          · exact absurd rfl hb
          · decide
          · decide
          · exact absurd rfl hb
        rw [if_neg hne, hsh, iv_xor (by omega) ⟨Int.natCast_nonneg _, Int.lt_of_le_of_lt hp7 (by decide)⟩, Int.toNat_natCast, Int.toNat_natCast]
        rfl
    by_cases ht : F.testBit k = true
    · obtain ⟨c2, a1, a2, a3⟩ := go true ht.symm
      exact ⟨c2, by rw [if_pos (by rw [if_pos ht])]; exact a1, a2, a3⟩
    · obtain ⟨c2, a1, a2, a3⟩ := go false (by simpa using ht)
      exact ⟨c2, by rw [if_neg (by rw [if_neg ht]; decide)]; exact a1, a2, a3⟩
  · have hd : decide ((0 ≤ i ∧ i < nL K) ∧ F.testBit i.toNat ≠ is) = false := decide_eq_false (fun q => e q.1)
    rw [hd, if_neg (show ¬ (0 ≤ i ∧ i ≤ (nL K : Int) - 1) by omega)]
    exact ⟨_, rfl, r1, r2⟩
theorem am_ul_self2 (k j : Nat) (v : Int64) : am_ul l k j v k j = v := by unfold am_ul; rw [if_pos ⟨rfl, rfl⟩]
theorem am_ul_nk (k j : Nat) (v : Int64) {k2 : Nat} (h : k2 ≠ k) : am_ul l k j v k2 = l k2 := am_ul_ne h
theorem RR_l {l2 : Nat → Nat → Int64} (h : RR c l K F) (h69 : l2 69 = l 69) (h71 : l2 71 = l 71) : RR c l2 K F := by
  unfold RR RS at h ⊢
  rw [h69, h71]
  exact h
theorem m248 (h : AR c l K F row tp n fa fp rf sd oc) {z : Int} (hz : -2147483648 ≤ z ∧ z < 2147483648) (d : Nat) : ∃ (c2 : Nat → Nat → Nat → Int32) (l2 : Nat → Nat → Int64), E (d + 1) 248 [vr 48 0, vi (iv z)] (c, l, x, y) = some (some (vi (iv (if z < 0 then 0 else 1))), c2, l2, x, y) ∧ AR c2 l2 K F row tp n fa fp (oneMore rf 4 (decide (0 ≤ z))) (if z < 0 then sd else z) oc ∧ KL c c2 := by
  rw [q_248]
  simp (disch := omega) only [iv_L, iv_lt, jv_of]
  by_cases e : z < 0
  · obtain ⟨r1, r2⟩ := ar_ref h (k := 4) (by decide)
    refine ⟨_, l, by rw [if_pos e, if_pos e]; rfl, ?_, r2⟩
    rw [show decide (0 ≤ z) = false by simp; omega, if_pos e]
    exact r1
  · obtain ⟨g1, g2, g3, g4, g5, g6, g7⟩ := h
    refine ⟨c, am_ul l 48 57 (jv z), by rw [if_neg e, if_neg e], ?_, fun _ _ => rfl⟩
    rw [show decide (0 ≤ z) = true by simp; omega, if_neg e]
    exact ⟨RR_l g1 (am_ul_nk _ _ _ (by decide)) (am_ul_nk _ _ _ (by decide)), g2, g3, g4, g5, am_ul_self2 _ _ _, g7⟩
theorem m290 (h : AR c l K F row tp n fa fp rf sd oc) (hv : VS K F row tp n fa fp sd oc) {z : Int} (hz : -2147483648 ≤ z ∧ z < 2147483648) (d : Nat) : E (d + 1) 290 [vr 48 0, vi (iv z)] (c, l, x, y) = some (some (vi (iv (if 0 ≤ z ∧ z < oc.length then ((oc.getD z.toNat 0 : Nat) : Int) else -1))), c, l, x, y) := by
  have h17 := hv.2.2.2.2.2.2.2.1
  rw [q_290, h.2.2.1.1]
  by_cases e : 0 ≤ z ∧ z < oc.length
  · obtain ⟨k, rfl⟩ := Int.eq_ofNat_of_zero_le e.1
    rw [if_pos e]
    simp (disch := omega) only [iv_add, iv_sub, iv_mul, iv_neg, iv_lt, iv_le, iv_eq, iv_nat, iv_L, iv_L2, am_bi_v, am_bv_v, am_bl_v, if_pos, if_neg, Int.toNat_natCast, Int.toNat_add, Int.toNat_mul, Int.reduceToNat, h.2.2.1.2 k (by omega)]
  · rw [if_neg e]
    by_cases e1 : z < 0
    · simp (disch := omega) only [iv_add, iv_sub, iv_mul, iv_neg, iv_lt, iv_le, iv_eq, iv_nat, iv_L, iv_L2, am_bi_v, am_bv_v, am_bl_v, if_pos, if_neg, Int.toNat_natCast, Int.toNat_add, Int.toNat_mul, Int.reduceToNat]
    · simp (disch := omega) only [iv_add, iv_sub, iv_mul, iv_neg, iv_lt, iv_le, iv_eq, iv_nat, iv_L, iv_L2, am_bi_v, am_bv_v, am_bl_v, if_pos, if_neg, Int.toNat_natCast, Int.toNat_add, Int.toNat_mul, Int.reduceToNat]
theorem m293 (h : AR c l K F row tp n fa fp rf sd oc) {z : Int} (hz : -2147483648 ≤ z ∧ z < 2147483648) (d : Nat) : E (d + 2) 293 [vr 48 0, vi (iv z)] (c, l, x, y) = some (some (vi (if 0 ≤ z ∧ z < 6 then rf z.toNat else iv (-1))), c, l, x, y) := by
  rw [q_293]
  simp (disch := omega) only [iv_L, iv_neg, jv_of, jv_L, jv_neg, jv_add, jv_sub, e171, am_bi_v]
  by_cases e : 0 ≤ z ∧ z < 6
  · obtain ⟨k, rfl⟩ := Int.eq_ofNat_of_zero_le e.1
    rw [if_pos (show (0 : Int) ≤ k ∧ (k : Int) ≤ 5 by omega), if_pos e, if_neg (by decide)]
    simp (disch := omega) only [iv_add, iv_sub, iv_mul, iv_neg, iv_lt, iv_le, iv_eq, iv_nat, iv_L, iv_L2, am_bi_v, am_bv_v, am_bl_v, if_pos, if_neg, Int.toNat_natCast, Int.toNat_add, Int.toNat_mul, Int.reduceToNat, h.2.2.2.2.1 k (by omega)]
  · rw [if_neg (show ¬ (0 ≤ z ∧ z ≤ 5) by omega), if_neg e, if_pos (by decide)]
theorem ar_n (h : AR c l K F row tp n fa fp rf sd oc) (m : Nat) : AR (am_ui c 48 0 1 (iv m)) l K F row tp m fa fp rf sd oc ∧ KL c (am_ui c 48 0 1 (iv m)) := by
  obtain ⟨g1, g2, g3, g4, g5, g6, g7⟩ := h
  have hf : ∀ q, q ≠ 48 → am_ui c 48 0 1 (iv m) q = c q := fun q hq => ui_nk _ _ _ _ hq
  have h48 : ∀ s, s ≠ 1 → am_ui c 48 0 1 (iv m) 48 0 s = c 48 0 s := fun s hs => ui_ne _ _ _ _ (by omega)
  exact ⟨⟨RR_fr g1 (fun q hq => hf q (by omega)) (h48 _ (by omega)) (h48 _ (by omega)), ⟨by rw [h48 _ (by omega)]; exact g2.1, RowAt_fr g2.2.1 (hf 77 (by omega)), RowAt_fr g2.2.2 (hf 78 (by omega))⟩, ⟨by rw [h48 _ (by omega)]; exact g3.1, RowAt_fr g3.2 (hf 111 (by omega))⟩, ⟨ui_self _ _ _ _, by rw [h48 _ (by omega)]; exact g4.2.1, by rw [h48 _ (by omega)]; exact g4.2.2.1, by rw [hf 49 (by omega)]; exact g4.2.2.2⟩, by rw [hf 50 (by omega)]; exact g5, g6, CH_fr g7 (fun q hq => hf q (by omega))⟩, KL_ui _ _ _ _ (by omega)⟩
theorem m148 (h : AR c l K F row tp n fa fp rf sd oc) (hv : VS K F row tp n fa fp sd oc) {z : Int} (hz : -2147483648 ≤ z ∧ z < 2147483648) (d : Nat) : ∃ c2 : Nat → Nat → Nat → Int32, E (d + 1) 148 [vr 48 0, vi (iv z)] (c, l, x, y) = some (some (vi (iv (if 0 ≤ z ∧ z ≤ n then 1 else 0))), c2, l, x, y) ∧ AR c2 l K F row tp (if 0 ≤ z ∧ z ≤ n then z.toNat else n) fa fp (oneMore rf 0 (decide (0 ≤ z ∧ z ≤ n))) sd oc ∧ KL c c2 := by
  have hn := hv.2.2.2.1.1
  obtain ⟨r1, r2⟩ := ar_ref h (k := 0) (by decide)
  rw [q_148, h.2.2.2.1.1]
  simp (disch := omega) only [iv_L, iv_lt]
  by_cases e : 0 ≤ z ∧ z ≤ n
  · obtain ⟨m, rfl⟩ := Int.eq_ofNat_of_zero_le e.1
    obtain ⟨s1, s2⟩ := ar_n h m
    refine ⟨am_ui c 48 0 1 (iv m), by rw [if_neg (by omega), if_neg (by omega), if_pos e], ?_, s2⟩
    rw [decide_eq_true e, if_pos e]
    exact s1
  · rw [decide_eq_false e, if_neg e, if_neg e]
    by_cases e1 : z < 0
    · exact ⟨_, by rw [if_pos e1]; rfl, r1, r2⟩
    · exact ⟨_, by rw [if_neg e1, if_pos (by omega)]; rfl, r1, r2⟩
theorem ar_put (h : AR c l K F row tp n fa fp rf sd oc) (b : Nat) : AR (am_ui (am_ui c 49 0 n (iv b)) 48 0 1 (iv ((n + 1 : Nat) : Int))) l K F row (put1 tp n b) (n + 1) fa fp rf sd oc ∧ KL c (am_ui (am_ui c 49 0 n (iv b)) 48 0 1 (iv ((n + 1 : Nat) : Int))) := by
  obtain ⟨g1, g2, g3, g4, g5, g6, g7⟩ := h
  have hf : ∀ q, q ≠ 48 → q ≠ 49 → am_ui (am_ui c 49 0 n (iv b)) 48 0 1 (iv ((n + 1 : Nat) : Int)) q = c q := fun q q1 q2 => by rw [ui_nk _ _ _ _ q1, ui_nk _ _ _ _ q2]
  have h48 : ∀ s, s ≠ 1 → am_ui (am_ui c 49 0 n (iv b)) 48 0 1 (iv ((n + 1 : Nat) : Int)) 48 0 s = c 48 0 s := fun s hs => by rw [ui_ne _ _ _ _ (by omega), ui_ne _ _ _ _ (by omega)]
  refine ⟨⟨RR_fr g1 (fun q hq => hf q (by omega) (by omega)) (h48 _ (by omega)) (h48 _ (by omega)), ⟨by rw [h48 _ (by omega)]; exact g2.1, RowAt_fr g2.2.1 (hf 77 (by omega) (by omega)), RowAt_fr g2.2.2 (hf 78 (by omega) (by omega))⟩, ⟨by rw [h48 _ (by omega)]; exact g3.1, RowAt_fr g3.2 (hf 111 (by omega) (by omega))⟩, ⟨ui_self _ _ _ _, by rw [h48 _ (by omega)]; exact g4.2.1, by rw [h48 _ (by omega)]; exact g4.2.2.1, ?_⟩, by rw [hf 50 (by omega) (by omega)]; exact g5, g6, CH_fr g7 (fun q hq => hf q (by omega) (by omega))⟩, (KL_ui _ _ _ _ (by omega)).tr (KL_ui _ _ _ _ (by omega))⟩
  intro i hi
  unfold put1
  by_cases e : i = n
  · subst e; rw [ui_ne _ _ _ _ (by omega), ui_self, if_pos rfl]
  · rw [ui_ne _ _ _ _ (by omega), ui_ne _ _ _ _ (by omega), if_neg e]; exact g4.2.2.2 i hi
theorem m147 (h : AR c l K F row tp n fa fp rf sd oc) (hv : VS K F row tp n fa fp sd oc) {z1 z2 z3 z4 z5 : Int} (h1 : -2147483648 ≤ z1 ∧ z1 < 2147483648) (h2 : -2147483648 ≤ z2 ∧ z2 < 2147483648) (h3 : -2147483648 ≤ z3 ∧ z3 < 2147483648) (h4 : -2147483648 ≤ z4 ∧ z4 < 2147483648) (h5 : -2147483648 ≤ z5 ∧ z5 < 2147483648) (d : Nat) : ∃ c2 : Nat → Nat → Nat → Int32, E (d + 1) 147 [vr 48 0, vi (iv z1), vi (iv z2), vi (iv z3), vi (iv z4), vi (iv z5)] (c, l, x, y) = some (some (vi (iv (if n + 20 ≤ 1600 then (n : Int) + 20 else -1))), c2, l, x, y) ∧ AR c2 l K F row (if n + 20 ≤ 1600 then feedT tp n z1 z2 z3 z4 z5 20 else tp) (if n + 20 ≤ 1600 then n + 20 else n) fa fp (oneMore rf 0 (decide (n + 20 ≤ 1600))) sd oc ∧ KL c c2 := by
  have hn := hv.2.2.2.1.1
  obtain ⟨r1, r2⟩ := ar_ref h (k := 0) (by decide)
  rw [q_147, h.2.2.2.1.1]
  by_cases e : n + 20 ≤ 1600
  · have put : ∀ (k : Nat) (z : Int) (c1 : Nat → Nat → Nat → Int32), k < 20 → (-2147483648 ≤ z ∧ z < 2147483648) → z = pick5 z1 z2 z3 z4 z5 k → AR c1 l K F row (feedT tp n z1 z2 z3 z4 z5 k) (n + k) fa fp rf sd oc → ∃ c2 : Nat → Nat → Nat → Int32, X (d + 1) 147 42 [some (vr 48 0), some (vi (iv z1)), some (vi (iv z2)), some (vi (iv z3)), some (vi (iv z4)), some (vi (iv z5)), some (vi (iv (k : Nat))), none] [vi (iv z)] (c1, l, x, y) = X (d + 1) 147 18 [some (vr 48 0), some (vi (iv z1)), some (vi (iv z2)), some (vi (iv z3)), some (vi (iv z4)), some (vi (iv z5)), some (vi (iv ((k + 1 : Nat) : Int))), none] [] (c2, l, x, y) ∧ AR c2 l K F row (feedT tp n z1 z2 z3 z4 z5 (k + 1)) (n + (k + 1)) fa fp rf sd oc ∧ KL c1 c2 := by
      intro k z c1 hk hz hzk h
      obtain ⟨s1, s2⟩ := ar_put h (byI z (k % 4))
      refine ⟨_, ?_, ?_, s2⟩
      · have hb := byte_sh hz (k := k % 4) (by omega)
        rw [q_147_42, h.2.2.2.1.1]
        simp (disch := omega) only [iv_L, iv_L2, iv_add, iv_sub, iv_mul, iv_div, iv_lt, iv_nat, if_neg, Int.toNat_natCast, Int.toNat_add, Int.toNat_mul, Int.reduceToNat, iv_m31]
        rw [show (8 * (3 - ((k : Int) - (k : Int) / 4 * 4)) % 32) = ((8 * (3 - k % 4) : Nat) : Int) by omega, hb]
        rfl
      · have : feedT tp n z1 z2 z3 z4 z5 (k + 1) = put1 (feedT tp n z1 z2 z3 z4 z5 k) (n + k) (byI z (k % 4)) := by
          unfold feedT
          rw [List.range_succ, List.foldl_append, hzk]
          rfl
        rw [this]
        exact s1
    have loop : ∀ (m k : Nat) (c1 : Nat → Nat → Nat → Int32), k + m = 20 → AR c1 l K F row (feedT tp n z1 z2 z3 z4 z5 k) (n + k) fa fp rf sd oc → ∃ c2 : Nat → Nat → Nat → Int32, X (d + 1) 147 18 [some (vr 48 0), some (vi (iv z1)), some (vi (iv z2)), some (vi (iv z3)), some (vi (iv z4)), some (vi (iv z5)), some (vi (iv (k : Nat))), none] [] (c1, l, x, y) = some (some (vi (iv ((n + 20 : Nat) : Int))), c2, l, x, y) ∧ AR c2 l K F row (feedT tp n z1 z2 z3 z4 z5 20) (n + 20) fa fp rf sd oc ∧ KL c1 c2 := by
      intro m
      induction m with
      | zero =>
        intro k c1 hk h
        have hk20 : k = 20 := by omega
        subst hk20
        refine ⟨c1, ?_, h, fun _ _ => rfl⟩
        rw [q_147_18, h.2.2.2.1.1]
        simp (disch := omega) only [iv_L, iv_lt, if_neg]
      | succ m ih =>
        intro k c1 hk h
        have fin : ∀ z, (-2147483648 ≤ z ∧ z < 2147483648) → z = pick5 z1 z2 z3 z4 z5 k → ∃ c2 : Nat → Nat → Nat → Int32, X (d + 1) 147 42 [some (vr 48 0), some (vi (iv z1)), some (vi (iv z2)), some (vi (iv z3)), some (vi (iv z4)), some (vi (iv z5)), some (vi (iv (k : Nat))), none] [vi (iv z)] (c1, l, x, y) = some (some (vi (iv ((n + 20 : Nat) : Int))), c2, l, x, y) ∧ AR c2 l K F row (feedT tp n z1 z2 z3 z4 z5 20) (n + 20) fa fp rf sd oc ∧ KL c1 c2 := by
          intro z hz hzk
          obtain ⟨c2, a1, a2, a3⟩ := put k z c1 (by omega) hz hzk h
          obtain ⟨c3, b1, b2, b3⟩ := ih (k + 1) c2 (by omega) a2
          exact ⟨c3, a1.trans b1, b2, a3.tr b3⟩
        unfold pick5 at fin
        rw [q_147_18]
        simp (disch := omega) only [iv_L, iv_lt, if_pos]
        by_cases k4 : k < 4
        · obtain ⟨c2, a1, a2, a3⟩ := fin z1 h1 (by rw [if_pos k4])
          exact ⟨c2, by rw [if_pos (by omega)]; exact a1, a2, a3⟩
        by_cases k8 : k < 8
        · obtain ⟨c2, a1, a2, a3⟩ := fin z2 h2 (by rw [if_neg k4, if_pos k8])
          exact ⟨c2, by rw [if_neg (by omega), if_pos (by omega)]; exact a1, a2, a3⟩
        by_cases k12 : k < 12
        · obtain ⟨c2, a1, a2, a3⟩ := fin z3 h3 (by rw [if_neg k4, if_neg k8, if_pos k12])
          exact ⟨c2, by rw [if_neg (by omega), if_neg (by omega), if_pos (by omega)]; exact a1, a2, a3⟩
        by_cases k16 : k < 16
        · obtain ⟨c2, a1, a2, a3⟩ := fin z4 h4 (by rw [if_neg k4, if_neg k8, if_neg k12, if_pos k16])
          exact ⟨c2, by rw [if_neg (by omega), if_neg (by omega), if_neg (by omega), if_pos (by omega)]; exact a1, a2, a3⟩
        · obtain ⟨c2, a1, a2, a3⟩ := fin z5 h5 (by rw [if_neg k4, if_neg k8, if_neg k12, if_neg k16])
          exact ⟨c2, by rw [if_neg (by omega), if_neg (by omega), if_neg (by omega), if_neg (by omega)]; exact a1, a2, a3⟩
    obtain ⟨c2, b1, b2, b3⟩ := loop 20 0 c (by decide) h
    refine ⟨c2, ?_, ?_, b3⟩
    · rw [if_pos e, show (20 : Int32) = iv 20 from rfl, show (1600 : Int32) = iv 1600 from rfl, iv_add]
      simp (disch := omega) only [iv_lt, if_neg]
      exact b1
    · rw [if_pos e, if_pos e, decide_eq_true e]
      exact b2
  · rw [if_neg e, if_neg e, if_neg e, decide_eq_false e]
    refine ⟨_, ?_, r1, r2⟩
    rw [show (20 : Int32) = iv 20 from rfl, show (1600 : Int32) = iv 1600 from rfl, iv_add]
    simp (disch := omega) only [iv_lt, if_pos]
    rfl
end
