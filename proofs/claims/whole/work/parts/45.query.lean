/-! calls of the class that ask what a row means -/
def telR (K : Ct) (F : Nat) (ws : List Nat) (k what : Int) : Int := match mnR K F ws with
  | some cs => if 0 ≤ k then telC cs k.toNat what else -1
  | none => -1
def exaR (K : Ct) (F : Nat) (ws : List Nat) (what : Int) : Int := if 0 ≤ what ∧ what ≤ 2 then (match mnR K F ws with
  | some cs => if allSo K what.toNat cs then 1 else 0
  | none => -1) else -1
def rlgS (K : Ct) (F : Nat) (ws : List Nat) (what : Int) : Int := if what = 0 then rul K F ws else if what = 1 then tru K else if what = 2 then (if rul K F ws = tru K then 1 else 0) else -1
def insS (K : Ct) (F : Nat) (i what : Int) : Int := if 0 ≤ i ∧ i < nC K then (if what = 0 then (rul K F (csK K i.toNat) : Int) else if what = 1 then senR K F (csK K i.toNat) else if what = 2 then ((csK K i.toNat).length : Int) else -1) else -1
/-- whether a word put at a place undoes the row -/
def undB (K : Ct) (F : Nat) (ws : List Nat) (p w : Nat) : Bool := rul K F (insAt ws p w) != rul K F ws
def allW (K : Ct) (F : Nat) (ws : List Nat) (p : Nat) (a : Nat × Nat × Nat) (w : Nat) : Nat × Nat × Nat := if undB K F ws p w then (a.1 + 1, a.2.1, a.2.2 ||| 2 ^ w) else a
def allP (K : Ct) (F : Nat) (ws : List Nat) (a : Nat × Nat × Nat) (p : Nat) : Nat × Nat × Nat :=
  (((List.range (nW K)).foldl (allW K F ws p) a).1, a.2.1 + (if a.1 < ((List.range (nW K)).foldl (allW K F ws p) a).1 then 1 else 0), ((List.range (nW K)).foldl (allW K F ws p) a).2.2)
def allA (K : Ct) (F : Nat) (ws : List Nat) : Nat × Nat × Nat := (List.range (ws.length + 1)).foldl (allP K F ws) (0, 0, 0)
def undL (K : Ct) (F : Nat) (ws : List Nat) (p : Nat) (l : List Nat) : List Nat := (l.filter (undB K F ws p)).map (fun w => 100 * p + w)
def oneL (K : Ct) (F : Nat) (ws : List Nat) (ps : List Nat) : List Nat := ps.flatMap (fun p => undL K F ws p (List.range (nW K)))
def pick (L : List Nat) (k : Int) : Int := if 0 ≤ k then oi L[k.toNat]? else -1
def oneS (K : Ct) (F : Nat) (ws : List Nat) (k : Int) : Int := pick (oneL K F ws (List.range (ws.length + 1))) k
def illS (K : Ct) (F : Nat) (row : List (Nat × Nat)) (b : Int) : Int := if atR (whs row) b = -1 then -1 else rul K F (rowBut (wds row) (atR (whs row) b))
def betS (K : Ct) (F : Nat) (ws : List Nat) (p w : Int) : Int := if (0 ≤ p ∧ p ≤ ws.length) ∧ 0 ≤ w ∧ w < nW K then rul K F (insAt ws p.toNat w.toNat) else -1
def plcS (K : Ct) (F : Nat) (p : Int) : Int := if 0 ≤ p ∧ p < 8 then ((List.range (nC K)).countP (fun i => rul K F (rowBut (csK K i) p) != rul K F (csK K i)) : Nat) else -1
def casS (K : Ct) (F : Nat) (r : Int) : Int := if 0 ≤ r ∧ r < 3 then ((List.range (nC K)).countP (fun i => (rul K F (csK K i) : Int) == r) : Nat) else -1
def turS (K : Ct) (F : Nat) (i : Int) : Int := if 0 ≤ i ∧ i < nL K then (if F.testBit i.toNat then ((List.range (nC K)).countP (fun j => rul K (F ^^^ 2 ^ i.toNat) (csK K j) != rul K F (csK K j)) : Nat) else 0) else -1
section
variable {c : Nat → Nat → Nat → Int32} {l : Nat → Nat → Int64} {x y : Nat} {K : Ct} {F : Nat} {row : List (Nat × Nat)} {tp : Nat → Nat} {n : Nat} {fa fp : Int} {rf : Nat → Int32} {sd : Int} {oc : List Nat}
theorem rul_lt (K : Ct) (F : Nat) (ws : List Nat) : rul K F ws < 3 := by
  unfold rul rulO
  split
  · unfold rulC
    split
    · omega
    split <;> omega
  · omega
theorem tru_lt (K : Ct) : tru K < 3 := by
  unfold tru
  split
  · omega
  split <;> omega
theorem e23 (h : JR c x K F) (d : Nat) : E (d + 2) 23 [vr 4 x] (c, l, x, y) = some (some (vi (iv (tru K))), c, l, x, y) := by
  have hv := h.2.1.2.2.2.2.2
  have hn20 := h.2.1.1.1
  have hc := h.1.2.2.2.2.2
  rw [q_23, hc.1, hc.2]
  simp (disch := omega) only [iv_L, iv_neg, iv_eq]
  unfold tru
  by_cases ha : kAc K = -1
  · rw [if_pos ha, if_pos ha]; rfl
  · rw [if_neg ha, if_neg ha, e22 h (by omega) (by omega) (by omega)]
    simp only [am_bi_v]
    cases isF K (kAc K) (kDe K) (-1) with
    | true => rfl
    | false => rfl
theorem k117 (h : AC c x y K F row tp n fa fp rf sd oc) (hv : VS K F row tp n fa fp sd oc) (d : Nat) : E (d + 6) 117 [vr 0 0] (c, l, x, y) = some (some (vi (iv (senR K F (wds row)))), c, l, x, y) := by
  have e := e39 (l := l) (y := y) h.1 (Or.inl rfl) (wds_lt hv) h.2.2.1.2.1 (by rw [wds_len]; exact row7 hv) d
  rw [wds_len] at e
  rw [q_117, h.2.2.1.1, e]
  rfl
theorem k120 (h : AC c x y K F row tp n fa fp rf sd oc) (hv : VS K F row tp n fa fp sd oc) (d : Nat) : E (d + 6) 120 [vr 0 0] (c, l, x, y) = some (some (vi (iv (encO K (hearA K F (wds row))))), c, l, x, y) := by
  have e := e49 (l := l) (y := y) h.1 (Or.inl rfl) (wds_lt hv) h.2.2.1.2.1 (by rw [wds_len]; exact row7 hv) (sk := -1) (by omega) d
  rw [wds_len] at e
  rw [q_120, h.2.2.1.1]
  simp only [iv_L, iv_neg]
  rw [e]
  rfl
theorem k118 (h : AC c x y K F row tp n fa fp rf sd oc) (hv : VS K F row tp n fa fp sd oc) {k z : Int} (hk : -2147483648 ≤ k ∧ k < 2147483648) (hz : -2147483648 ≤ z ∧ z < 2147483648) (d : Nat) : E (d + 7) 118 [vr 0 0, vi (iv k), vi (iv z)] (c, l, x, y) = some (some (vi (iv (telR K F (wds row) k z))), c, l, x, y) := by
  have hs := senR_iff (K := K) (F := F) (wds row)
  have hh := nosR_hi (K := K) (F := F) (wds row) 0 startS (-1) (by omega)
  have h7 := row7 hv
  rw [wds_len] at hh
  change senR K F (wds row) ≤ _ at hh
  rw [q_118, k117 h hv]
  simp (disch := omega) only [am_bi_v, iv_L, iv_lt, iv_neg, iv_eq]
  unfold telR
  by_cases e0 : k < 0
  · rw [if_pos e0]
    cases mnR K F (wds row) with
    | none => rfl
    | some cs => simp only; rw [if_neg (by omega)]
  · rw [if_neg e0]
    cases hm : mnR K F (wds row) with
    | none =>
      rw [hm] at hs
      rw [if_neg (fun q => by have := hs.1.mp q; cases this)]
    | some cs =>
      rw [hm] at hs
      rw [if_pos (hs.1.mpr rfl), h.2.2.1.1]
      obtain ⟨j, rfl⟩ := Int.eq_ofNat_of_zero_le (show 0 ≤ k by omega)
      have e := e47 (l := l) (y := y) h.1 (Or.inl rfl) (wds_lt hv) h.2.2.1.2.1 (by rw [wds_len]; exact h7) (cs := cs) hm (k := j) (by omega) hz (d + 1)
      rw [wds_len] at e
      simp only
      rw [if_pos (by omega), e]
      rfl
theorem bits_at (K : Ct) (cs : List Cs) : ∀ k, k < 3 → (iv (bitsC K cs) >>> iv (k : Nat)) &&& iv 1 = iv (if allSo K k cs then 1 else 0) := by
  intro k hk
  unfold bitsC
  rcases (show k = 0 ∨ k = 1 ∨ k = 2 by omega) with rfl | rfl | rfl
  · cases allSo K 0 cs <;> cases allSo K 1 cs <;> cases allSo K 2 cs <;> rfl
  · cases allSo K 0 cs <;> cases allSo K 1 cs <;> cases allSo K 2 cs <;> rfl
  · cases allSo K 0 cs <;> cases allSo K 1 cs <;> cases allSo K 2 cs <;> rfl
theorem k119 (h : AC c x y K F row tp n fa fp rf sd oc) (hv : VS K F row tp n fa fp sd oc) {z : Int} (hz : -2147483648 ≤ z ∧ z < 2147483648) (d : Nat) : E (d + 7) 119 [vr 0 0, vi (iv z)] (c, l, x, y) = some (some (vi (iv (exaR K F (wds row) z))), c, l, x, y) := by
  have hb := bitsO_bd K (meanO K F (hearA K F (wds row)))
  rw [q_119, k120 h hv]
  simp only [am_bi_v]
  rw [e43O h.1 (WO_hearA hv.1 _ (wds_lt hv))]
  simp (disch := omega) only [am_bi_v, iv_L, iv_L2, iv_lt, iv_neg, iv_eq]
  unfold exaR mnR
  by_cases e0 : z < 0
  · rw [if_pos e0, if_neg (show ¬ (0 ≤ z ∧ z ≤ 2) by omega)]
  · by_cases e1 : 2 < z
    · rw [if_neg e0, if_pos e1, if_neg (show ¬ (0 ≤ z ∧ z ≤ 2) by omega)]
    · rw [if_neg e0, if_neg e1, if_pos (show 0 ≤ z ∧ z ≤ 2 by omega)]
      obtain ⟨k, rfl⟩ := Int.eq_ofNat_of_zero_le (show 0 ≤ z by omega)
      cases hm : meanO K F (hearA K F (wds row)) with
      | none => rfl
      | some cs =>
        rw [hm] at hb
        rw [if_neg (by simp only [bitsO] at hb ⊢; omega), iv_m31 (by omega), show ((k : Int) % 32) = (k : Int) by omega]
        have e3 := bits_at K cs k (by omega)
        rw [show bitsO K (some cs) = (bitsC K cs : Int) from rfl, e3]
        rfl
theorem rulC_now (h : AC c x y K F row tp n fa fp rf sd oc) (hv : VS K F row tp n fa fp sd oc) (d : Nat) : E (d + 4) 50 [vr 20 0, vi (iv (encO K (hearA K F (wds row))))] (c, l, x, y) = some (some (vi (iv (rul K F (wds row)))), c, l, x, y) := e50 h.1 (WO_hearA hv.1 _ (wds_lt hv)) d
theorem k121 (h : AC c x y K F row tp n fa fp rf sd oc) (hv : VS K F row tp n fa fp sd oc) {z : Int} (hz : -2147483648 ≤ z ∧ z < 2147483648) (d : Nat) : E (d + 7) 121 [vr 0 0, vi (iv z)] (c, l, x, y) = some (some (vi (iv (rlgS K F (wds row) z))), c, l, x, y) := by
  have hr := rul_lt K F (wds row)
  have ht := tru_lt K
  rw [q_121, k120 h hv]
  simp only [am_bi_v]
  rw [rulC_now h hv]
  simp only [am_bi_v]
  rw [e23 h.1]
  simp (disch := omega) only [am_bi_v, iv_L, iv_neg, iv_eq]
  unfold rlgS
  by_cases z0 : z = 0
  · simp only [if_pos z0]
  by_cases z1 : z = 1
  · simp only [if_neg z0, if_pos z1]
  by_cases z2 : z = 2
  · simp only [if_neg z0, if_neg z1, if_pos z2]
    by_cases e : rul K F (wds row) = tru K
    · rw [if_pos (by omega), if_pos e]
    · rw [if_neg (by omega), if_neg e]
  · simp only [if_neg z0, if_neg z1, if_neg z2]
theorem k122 (h : AC c x y K F row tp n fa fp rf sd oc) (hv : VS K F row tp n fa fp sd oc) {i z : Int} (hi : -2147483648 ≤ i ∧ i < 2147483648) (hz : -2147483648 ≤ z ∧ z < 2147483648) (d : Nat) : E (d + 7) 122 [vr 0 0, vi (iv i), vi (iv z)] (c, l, x, y) = some (some (vi (iv (insS K F i z))), c, l, x, y) := by
  have h8 := hv.1.2.2.2.2.1
  have hc := h.1.1.2.2.2.2.1
  rw [q_122, hc.1]
  unfold insS
  by_cases e0 : 0 ≤ i ∧ i < nC K
  · rw [if_pos e0]
    obtain ⟨k, rfl⟩ := Int.eq_ofNat_of_zero_le e0.1
    have hk : k < nC K := by omega
    simp (disch := omega) only [iv_add, iv_sub, iv_mul, iv_neg, iv_lt, iv_le, iv_eq, iv_nat, iv_L, iv_L2, am_bi_v, am_bv_v, am_bl_v, if_pos, if_neg, Int.toNat_natCast, Int.toNat_add, Int.toNat_mul, Int.reduceToNat, Int.ofNat_eq_natCast, e51 h.1 hk, (hc.2 k hk).1, e39 h.1 (Or.inr rfl) (h8.2 k hk).2.2 (case_row h.1 hk) (h8.2 k hk).2.1]
    by_cases z0 : z = 0
    · simp only [if_pos z0]
    by_cases z1 : z = 1
    · simp only [if_neg z0, if_pos z1]; rfl
    by_cases z2 : z = 2
    · simp only [if_neg z0, if_neg z1, if_pos z2]
    · simp only [if_neg z0, if_neg z1, if_neg z2]
  · rw [if_neg e0]
    by_cases e1 : 0 ≤ i
    · simp (disch := omega) only [iv_add, iv_sub, iv_mul, iv_neg, iv_lt, iv_le, iv_eq, iv_nat, iv_L, iv_L2, am_bi_v, am_bv_v, am_bl_v, if_pos, if_neg, Int.toNat_natCast, Int.toNat_add, Int.toNat_mul, Int.reduceToNat]
    · simp (disch := omega) only [iv_add, iv_sub, iv_mul, iv_neg, iv_lt, iv_le, iv_eq, iv_nat, iv_L, iv_L2, am_bi_v, am_bv_v, am_bl_v, if_pos, if_neg, Int.toNat_natCast, Int.toNat_add, Int.toNat_mul, Int.reduceToNat]
/-- the ruling with a word put at a place -/
theorem k125 (h : AC c x y K F row tp n fa fp rf sd oc) (hv : VS K F row tp n fa fp sd oc) {p w : Nat} (hp : p ≤ row.length) (hw : w < nW K) (d : Nat) : E (d + 5) 125 [vr 0 0, vi (iv p), vi (iv w)] (c, l, x, y) = some (some (vi (iv (rul K F (insAt (wds row) p w)))), c, l, x, y) := by
  have h7 := row7 hv
  have hlen := wds_len row
  have key : ∀ (m i : Nat) (o : Option Sj), i + m = row.length + 1 → WO K o → X (d + 4 + 1) 125 4 [some (vr 0 0), some (vi (iv p)), some (vi (iv w)), some (vi (iv (encO K o))), some (vi (iv (i : Nat)))] [] (c, l, x, y) = some (some (vi (iv (rulO K (meanO K F ((if p < i then (wds row).drop i else ((wds row).drop i).take (p - i) ++ w :: (wds row).drop p).foldl (hearO K F) o))))), c, l, x, y) := by
    intro m
    induction m with
    | zero =>
      intro i o hi ho
      rw [q_125_4, h.2.2.1.1]
      simp (disch := omega) only [iv_lt, if_pos, e50 h.1 ho, am_bi_v]
      rw [List.drop_of_length_le (by omega)]
      rfl
    | succ m ih =>
      intro i o hi ho
      have hr := h.2.2.1.2.1
      have e4 := e40 (l := l) (y := y) h.1 ho hw
      have s1 : ((i : Int) + 1) = ((i + 1 : Nat) : Int) := by omega
      by_cases e1 : i < row.length
      · have hwi := wds_lt hv _ (getD_mem (ws := wds row) (k := i) (by omega))
        have hci := hr i (by omega)
        by_cases e : i = p
        · subst e
          rw [q_125_4, h.2.2.1.1]
          simp (disch := omega) only [iv_add, iv_sub, iv_mul, iv_neg, iv_lt, iv_le, iv_eq, iv_nat, iv_L, iv_L2, am_bi_v, am_bv_v, am_bl_v, if_pos, if_neg, Int.toNat_natCast, Int.toNat_add, Int.toNat_mul, Int.reduceToNat, if_true, e4, h.2.2.1.1, hci, e40 h.1 (WO_hear hv.1 hw ho) hwi]
          rw [s1, ih (i + 1) _ (by omega) (WO_hear hv.1 hwi (WO_hear hv.1 hw ho))]
          simp (disch := omega) only [if_pos, if_neg, Nat.sub_self, List.take_zero, List.nil_append, List.foldl_cons, drop_getD (ws := wds row) (i := i) (show i < (wds row).length by omega)]
        · rw [q_125_4, h.2.2.1.1]
          simp (disch := omega) only [iv_add, iv_sub, iv_mul, iv_neg, iv_lt, iv_le, iv_eq, iv_nat, iv_L, iv_L2, am_bi_v, am_bv_v, am_bl_v, if_pos, if_neg, Int.toNat_natCast, Int.toNat_add, Int.toNat_mul, Int.reduceToNat, h.2.2.1.1, hci, e40 h.1 ho hwi]
          rw [s1, ih (i + 1) _ (by omega) (WO_hear hv.1 hwi ho)]
          by_cases e2 : p < i
          · simp (disch := omega) only [if_pos, drop_getD (ws := wds row) (i := i) (show i < (wds row).length by omega), List.foldl_cons]
          · rw [show p - i = (p - (i + 1)) + 1 by omega]
            simp (disch := omega) only [if_neg, drop_getD (ws := wds row) (i := i) (show i < (wds row).length by omega), List.take_succ_cons, List.cons_append, List.foldl_cons]
      · have e3 : i = row.length := by omega
        have d0 : (wds row).drop i = [] := List.drop_of_length_le (by omega)
        have d1 : (wds row).drop (i + 1) = [] := List.drop_of_length_le (by omega)
        by_cases e : i = p
        · subst e
          rw [q_125_4, h.2.2.1.1]
          simp (disch := omega) only [iv_add, iv_sub, iv_mul, iv_neg, iv_lt, iv_le, iv_eq, iv_nat, iv_L, iv_L2, am_bi_v, am_bv_v, am_bl_v, if_pos, if_neg, Int.toNat_natCast, Int.toNat_add, Int.toNat_mul, Int.reduceToNat, if_true, e4, h.2.2.1.1]
          rw [s1, ih (i + 1) _ (by omega) (WO_hear hv.1 hw ho)]
          simp (disch := omega) only [if_pos, if_neg, Nat.sub_self, d0, d1, List.take_nil, List.nil_append, List.foldl_cons]
        · rw [q_125_4, h.2.2.1.1]
          simp (disch := omega) only [iv_add, iv_sub, iv_mul, iv_neg, iv_lt, iv_le, iv_eq, iv_nat, iv_L, iv_L2, am_bi_v, am_bv_v, am_bl_v, if_pos, if_neg, Int.toNat_natCast, Int.toNat_add, Int.toNat_mul, Int.reduceToNat, h.2.2.1.1]
          rw [s1, ih (i + 1) _ (by omega) ho]
          simp (disch := omega) only [if_pos, d0, d1]
  rw [q_125]
  refine (key (row.length + 1) 0 (some startS) (by omega) (WO_start K)).trans ?_
  rw [if_neg (by omega), List.drop_zero, Nat.sub_zero]
  rfl
theorem k128 (h : AC c x y K F row tp n fa fp rf sd oc) (hv : VS K F row tp n fa fp sd oc) {p w : Int} (hp : -2147483648 ≤ p ∧ p < 2147483648) (hw : -2147483648 ≤ w ∧ w < 2147483648) (d : Nat) : E (d + 6) 128 [vr 0 0, vi (iv p), vi (iv w)] (c, l, x, y) = some (some (vi (iv (betS K F (wds row) p w))), c, l, x, y) := by
  have h7 := row7 hv
  have h20 := hv.1.1.1
  rw [q_128, h.2.2.1.1, h.1.1.1.1]
  unfold betS
  rw [wds_len]
  by_cases e : (0 ≤ p ∧ p ≤ row.length) ∧ 0 ≤ w ∧ w < nW K
  · rw [if_pos e]
    obtain ⟨⟨a1, a2⟩, a3, a4⟩ := e
    obtain ⟨i, rfl⟩ := Int.eq_ofNat_of_zero_le a1
    obtain ⟨j, rfl⟩ := Int.eq_ofNat_of_zero_le a3
    simp (disch := omega) only [iv_add, iv_sub, iv_mul, iv_neg, iv_lt, iv_le, iv_eq, iv_nat, iv_L, iv_L2, am_bi_v, am_bv_v, am_bl_v, if_pos, if_neg, Int.toNat_natCast, Int.toNat_add, Int.toNat_mul, Int.reduceToNat, Int.ofNat_eq_natCast, k125 h hv (show i ≤ row.length by omega) (show j < nW K by omega)]
  · rw [if_neg e]
    by_cases b1 : p < 0
    · simp (disch := omega) only [iv_add, iv_sub, iv_mul, iv_neg, iv_lt, iv_le, iv_eq, iv_nat, iv_L, iv_L2, am_bi_v, am_bv_v, am_bl_v, if_pos, if_neg, Int.toNat_natCast, Int.toNat_add, Int.toNat_mul, Int.reduceToNat]
    by_cases b2 : row.length < p
    · simp (disch := omega) only [iv_add, iv_sub, iv_mul, iv_neg, iv_lt, iv_le, iv_eq, iv_nat, iv_L, iv_L2, am_bi_v, am_bv_v, am_bl_v, if_pos, if_neg, Int.toNat_natCast, Int.toNat_add, Int.toNat_mul, Int.reduceToNat]
    by_cases b3 : w < 0
    · simp (disch := omega) only [iv_add, iv_sub, iv_mul, iv_neg, iv_lt, iv_le, iv_eq, iv_nat, iv_L, iv_L2, am_bi_v, am_bv_v, am_bl_v, if_pos, if_neg, Int.toNat_natCast, Int.toNat_add, Int.toNat_mul, Int.reduceToNat]
    · simp (disch := omega) only [iv_add, iv_sub, iv_mul, iv_neg, iv_lt, iv_le, iv_eq, iv_nat, iv_L, iv_L2, am_bi_v, am_bv_v, am_bl_v, if_pos, if_neg, Int.toNat_natCast, Int.toNat_add, Int.toNat_mul, Int.reduceToNat]
theorem k127 (h : AC c x y K F row tp n fa fp rf sd oc) (hv : VS K F row tp n fa fp sd oc) {b : Int} (hb : -2147483648 ≤ b ∧ b < 2147483648) (d : Nat) : E (d + 6) 127 [vr 0 0, vi (iv b)] (c, l, x, y) = some (some (vi (iv (illS K F row b))), c, l, x, y) := by
  have h7 := row7 hv
  have hbd := atR_bd (whs row) b
  rw [whs_len] at hbd
  rw [q_127, spokeC h hv hb]
  simp (disch := omega) only [am_bi_v, iv_L, iv_neg, iv_eq]
  unfold illS
  by_cases e : atR (whs row) b = -1
  · rw [if_pos e, if_pos e]
  · have e4 := e49 (l := l) (y := y) h.1 (Or.inl rfl) (wds_lt hv) h.2.2.1.2.1 (by rw [wds_len]; exact h7) (sk := atR (whs row) b) (by omega) d
    rw [wds_len] at e4
    rw [if_neg e, if_neg e, h.2.2.1.1, e4]
    simp only [am_bi_v]
    rw [e50 h.1 (WO_hearA hv.1 _ (fun w q => wds_lt hv w (rowBut_mem w q)))]
    rfl
theorem k130 (h : AC c x y K F row tp n fa fp rf sd oc) (hv : VS K F row tp n fa fp sd oc) {p : Int} (hp : -2147483648 ≤ p ∧ p < 2147483648) (d : Nat) : E (d + 7) 130 [vr 0 0, vi (iv p)] (c, l, x, y) = some (some (vi (iv (plcS K F p))), c, l, x, y) := by
  have h8 := hv.1.2.2.2.2.1
  have hc := h.1.1.2.2.2.2.1
  rw [q_130]
  unfold plcS
  by_cases e : 0 ≤ p ∧ p < 8
  · rw [if_pos e]
    simp (disch := omega) only [iv_add, iv_sub, iv_mul, iv_neg, iv_lt, iv_le, iv_eq, iv_nat, iv_L, iv_L2, am_bi_v, am_bv_v, am_bl_v, if_pos, if_neg, Int.toNat_natCast, Int.toNat_add, Int.toNat_mul, Int.reduceToNat]
    have key : ∀ (m i v : Nat), i + m = nC K → v ≤ i → X (d + 7) 130 15 [some (vr 0 0), some (vi (iv p)), some (vr 4 x), some (vi (iv (v : Nat))), some (vi (iv (i : Nat))), none] [] (c, l, x, y) = some (some (vi (iv ((v + (List.range' i m).countP (fun i => rul K F (rowBut (csK K i) p) != rul K F (csK K i)) : Nat) : Int))), c, l, x, y) := by
      intro m
      induction m with
      | zero =>
        intro i v hi hv2
        rw [q_130_15]
        simp (disch := omega) only [iv_add, iv_sub, iv_mul, iv_neg, iv_lt, iv_le, iv_eq, iv_nat, iv_L, iv_L2, am_bi_v, am_bv_v, am_bl_v, if_pos, if_neg, Int.toNat_natCast, Int.toNat_add, Int.toNat_mul, Int.reduceToNat, hc.1]
        rfl
      | succ m ih =>
        intro i v hi hv2
        have hic : i < nC K := by omega
        have r1 := rul_lt K F (rowBut (csK K i) p)
        have r2 := rul_lt K F (csK K i)
        have hmem : ∀ w ∈ rowBut (csK K i) p, w < nW K := fun w q => (h8.2 i hic).2.2 w (rowBut_mem w q)
        rw [q_130_15]
        simp (disch := omega) only [iv_add, iv_sub, iv_mul, iv_neg, iv_lt, iv_le, iv_eq, iv_nat, iv_L, iv_L2, am_bi_v, am_bv_v, am_bl_v, if_pos, if_neg, Int.toNat_natCast, Int.toNat_add, Int.toNat_mul, Int.reduceToNat, hc.1, (hc.2 i hic).1, e49 h.1 (Or.inr rfl) (h8.2 i hic).2.2 (case_row h.1 hic) (h8.2 i hic).2.1, e50 h.1 (WO_hearA hv.1 _ hmem), e51 h.1 hic]
        rw [List.range'_succ, List.countP_cons, show ((i : Int) + 1) = ((i + 1 : Nat) : Int) by omega]
        rw [show rulO K (meanO K F (hearA K F (rowBut (csK K i) p))) = rul K F (rowBut (csK K i) p) from rfl]
        simp (disch := omega) only [iv_eq]
        by_cases e : rul K F (rowBut (csK K i) p) = rul K F (csK K i)
        · rw [if_pos (by omega), show ((v : Int) + 0) = ((v : Nat) : Int) by omega, ih (i + 1) v (by omega) (by omega), if_neg (by simpa using e)]
          rfl
        · rw [if_neg (by omega), show ((v : Int) + 1) = ((v + 1 : Nat) : Int) by omega, ih (i + 1) (v + 1) (by omega) (by omega), if_pos (by simpa using e)]
          congr 5
          omega
    refine (key (nC K) 0 0 (by omega) (Nat.le_refl _)).trans ?_
    rw [Nat.zero_add, ← List.range_eq_range']
  · rw [if_neg e]
    by_cases b1 : p < 0
    · simp (disch := omega) only [iv_add, iv_sub, iv_mul, iv_neg, iv_lt, iv_le, iv_eq, iv_nat, iv_L, iv_L2, am_bi_v, am_bv_v, am_bl_v, if_pos, if_neg, Int.toNat_natCast, Int.toNat_add, Int.toNat_mul, Int.reduceToNat]
    · simp (disch := omega) only [iv_add, iv_sub, iv_mul, iv_neg, iv_lt, iv_le, iv_eq, iv_nat, iv_L, iv_L2, am_bi_v, am_bv_v, am_bl_v, if_pos, if_neg, Int.toNat_natCast, Int.toNat_add, Int.toNat_mul, Int.reduceToNat]
end
