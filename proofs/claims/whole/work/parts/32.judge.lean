/-! the class's Judge hears what the document means -/
theorem am_bi_v (v : Int32) (g : mg) (f : Int32 → mg → Option mr) : am_bi (some (some (vi v), g)) f = f v g := rfl
theorem am_bv_v (g : mg) (f : mg → Option mr) : am_bv (some (none, g)) f = f g := rfl
theorem am_bl_v (v : Int64) (g : mg) (f : Int64 → mg → Option mr) : am_bl (some (some (vl v), g)) f = f v g := rfl
/-- a word's letters, five bits each -/
def e5 (s : List Nat) : Nat := (List.range 6).foldl (fun v i => 32 * v + s.getD i 0) 0
/-- Court q of the class is K -/
def CR (c : Nat → Nat → Nat → Int32) (q : Nat) (K : Ct) : Prop :=
  (c 4 q 9 = iv (nW K) ∧ ∀ w, w < nW K → c 6 q w = iv (knd K w) ∧ c 5 q w = iv (e5 (spK K w))) ∧
  (c 4 q 10 = iv (nL K) ∧ ∀ i, i < nL K → c 9 q i = iv (lnK K i).length ∧ (∀ k, k < (lnK K i).length → c 8 (i + q * 6) k = iv ((lnK K i).getD k 0 : Nat)) ∧ (∀ s, s < 3 → c 11 (i + q * 6) s = iv (oi ((lnK K i).idxOf? s)))) ∧
  (c 4 q 11 = iv (nF K) ∧ ∀ f, f < nF K → c 13 (f + q * 16) 0 = iv (fcK K f).1 ∧ c 13 (f + q * 16) 1 = iv (fcK K f).2.1 ∧ c 13 (f + q * 16) 2 = iv (fcK K f).2.2) ∧
  (c 4 q 12 = iv (nB K) ∧ ∀ b, b < nB K → c 18 (b + q * 7) 1 = iv (sayK K b).length ∧ c 18 (b + q * 7) 2 = iv (e5 (bnK K b).1) ∧ c 18 (b + q * 7) 3 = iv (bnK K b).2.1 ∧ c 18 (b + q * 7) 4 = iv (bnK K b).2.2.1 ∧ ∀ k, k < (sayK K b).length → c 19 (b + q * 7) k = iv ((sayK K b).getD k 0 : Nat)) ∧
  (c 4 q 13 = iv (nC K) ∧ ∀ i, i < nC K → c 17 q i = iv (csK K i).length ∧ ∀ k, k < (csK K i).length → c 16 (i + q * 8) k = iv ((csK K i).getD k 0 : Nat)) ∧
  (c 4 q 14 = iv (kAc K) ∧ c 4 q 15 = iv (kDe K))
/-- the Judge has K, the lines F are in force -/
def JR (c : Nat → Nat → Nat → Int32) (x : Nat) (K : Ct) (F : Nat) : Prop :=
  CR c x K ∧ VK K ∧ F < 64 ∧ c 20 0 3 = iv F ∧ ∀ p, p < 16 → c 21 0 p = iv (oi (fitL K F p)) ∧ (0 < p → c 22 0 p = iv (if begL K F p then 1 else 0))
section
variable {c : Nat → Nat → Nat → Int32} {l : Nat → Nat → Int64} {x y : Nat} {K : Ct} {F : Nat}
theorem getD_lt {ws : List Nat} {n k : Nat} (hn : 0 < n) (h : ∀ w ∈ ws, w < n) : ws.getD k 0 < n := by
  rw [List.getD_eq_getElem?_getD]
  cases hk : ws[k]? with
  | none => exact hn
  | some w => exact h w (List.mem_of_getElem? hk)
theorem WS_bd {s : Sj} (hK : VK K) (h : WS K s) : s.2.2.2.getD 0 0 < 32 ∧ s.2.2.2.getD 1 0 < 32 ∧ s.2.2.2.getD 2 0 < 32 ∧ (1 ≤ patW K s.2.2.2 ∧ patW K s.2.2.2 < 16) ∧ bitsC K s.1 < 8 ∧ s.2.1 < 5 := by
  have hw : ∀ w ∈ s.2.2.2, w < 32 := fun w q => by have := (h.2.1 w q).1; have := hK.1.1; omega
  have hp := patW_len s.2.2.2 (fun w q => (h.2.1 w q).2)
  refine ⟨getD_lt (by decide) hw, getD_lt (by decide) hw, getD_lt (by decide) hw, ⟨?_, ?_⟩, nb_lt _ _ _, ?_⟩
  · have := Nat.two_pow_pos s.2.2.2.length; omega
  · have h5 : 2 ^ s.2.2.2.length ≤ 2 ^ 3 := Nat.pow_le_pow_right (by decide) h.1
    omega
  · have := h.2.2; omega
theorem enc_bd {s : Sj} (hK : VK K) (h : WS K s) : encS K s < 67108864 := by
  have := WS_bd hK h
  unfold encS
  omega
theorem enc_pat {s : Sj} (hK : VK K) (h : WS K s) : ((encS K s : Nat) : Int) / 32768 % 16 = (patW K s.2.2.2 : Nat) := by
  have := WS_bd hK h
  unfold encS
  omega
theorem e41 {a : Int} (d : Nat) (ha : 0 ≤ a ∧ a < 2147483648) : E (d + 1) 41 [vi (iv a)] (c, l, x, y) = some (some (vi (iv (a / 32768 % 16))), c, l, x, y) := by
  rw [q_41]
  simp only [iv_L, iv_L2]
  rw [iv_shr ha (by omega)]
  have h1 := Int.ediv_nonneg ha.1 (b := 32768) (by omega)
  have h2 := Int.ediv_le_self 32768 ha.1
  rw [show ((2 ^ (15 : Int).toNat : Nat) : Int) = 32768 from rfl, iv_m15 (by omega)]
theorem e44 (h : JR c x K F) {s : Sj} (hs : WS K s) (d : Nat) : E (d + 2) 44 [vr 20 0, vi (iv (encS K s))] (c, l, x, y) = some (some (vi (iv (oi (fitL K F (patW K s.2.2.2))))), c, l, x, y) := by
  have h1 := enc_bd h.2.1 hs
  have h2 := WS_bd h.2.1 hs
  rw [q_44, e41 d (by omega), enc_pat h.2.1 hs]
  simp (disch := omega) only [iv_add, iv_sub, iv_mul, iv_neg, iv_lt, iv_le, iv_eq, iv_nat, iv_L, iv_L2, am_bi_v, am_bv_v, am_bl_v, if_pos, if_neg, Int.toNat_natCast, (h.2.2.2.2 (patW K s.2.2.2) h2.2.2.2.1.2).1]
theorem dec5 {s : Sj} (hK : VK K) (hs : WS K s) : ∀ k : Nat, k < 3 → iv ((encS K s : Nat) / ((2 ^ (5 * (k : Int) % 32).toNat : Nat) : Int)) &&& iv 31 = iv (s.2.2.2.getD k 0 : Nat) := by
  intro k hk
  have h1 := enc_bd hK hs
  have h2 := WS_bd hK hs
  rcases (show k = 0 ∨ k = 1 ∨ k = 2 by omega) with rfl | rfl | rfl
  · show iv ((encS K s : Nat) / 1) &&& iv 31 = _
    rw [iv_m31 (by omega)]; congr 1; unfold encS; omega
  · show iv ((encS K s : Nat) / 32) &&& iv 31 = _
    rw [iv_m31 (by omega)]; congr 1; unfold encS; omega
  · show iv ((encS K s : Nat) / 1024) &&& iv 31 = _
    rw [iv_m31 (by omega)]; congr 1; unfold encS; omega
theorem idx_slot : ∀ s ∈ slotLists, ∀ a, a < 3 → s.idxOf? a = none ∨ s.idxOf? a = some 0 ∨ s.idxOf? a = some 1 ∨ s.idxOf? a = some 2 := by decide
theorem e45 (h : JR c x K F) {s : Sj} (hs : WS K s) {i a : Nat} (hi : i < nL K) (ha : a < 3) (d : Nat) : E (d + 1) 45 [vr 20 0, vi (iv (encS K s)), vi (iv i), vi (iv a)] (c, l, x, y) = some (some (vi (iv (slotAt (lnK K i) a s.2.2.2))), c, l, x, y) := by
  have h1 := enc_bd h.2.1 hs
  have h2 := WS_bd h.2.1 hs
  have h3 := h.2.1.2.1.1
  have h4 := ((h.1.2.1.2 i hi).2.2 a ha)
  rw [q_45]
  simp (disch := omega) only [iv_add, iv_sub, iv_mul, iv_neg, iv_lt, iv_le, iv_eq, iv_nat, iv_L, iv_L2, am_bi_v, am_bv_v, am_bl_v, if_pos, if_neg, Int.toNat_natCast, h4]
  unfold slotAt
  rcases idx_slot _ (h.2.1.2.1.2 i hi) a ha with q | q | q | q <;> rw [q]
  · rw [if_pos (by rw [oi, iv_eq] <;> omega)]
  all_goals
    rw [if_neg (by rw [oi, iv_eq] <;> omega)]
    simp (disch := omega) only [oi, iv_add, iv_sub, iv_mul, iv_neg, iv_lt, iv_le, iv_eq, iv_nat, iv_L, iv_L2, am_bi_v, am_bv_v, am_bl_v, if_pos, if_neg, iv_m31, iv_shr]
    rw [dec5 h.2.1 hs _ (by decide)]
/-- a loop that looks for the first place -/
theorem lp_find {α : Type} (G : Nat → α) (n : Nat) (P : Nat → Bool) (R : Nat → α) (Z : α) (h : ∀ i, i < n → G i = if P i then R i else G (i + 1)) (hz : G n = Z) : G 0 = match (List.range n).find? P with
    | some i => R i
    | none => Z := by
  have key : ∀ k i, i + k = n → G i = match (List.range' i k).find? P with
      | some i => R i
      | none => Z := by
    intro k
    induction k with
    | zero => intro i hi; rw [show i = n by omega]; exact hz
    | succ k ih =>
      intro i hi
      rw [h i (by omega), List.range'_succ, List.find?_cons]
      cases P i with
      | true => rfl
      | false => exact ih (i + 1) (by omega)
  rw [List.range_eq_range']
  exact key n 0 (by omega)
theorem lp_any {α : Type} (G : Nat → α) (n : Nat) (P : Nat → Bool) (R Z : α) (h : ∀ i, i < n → G i = if P i then R else G (i + 1)) (hz : G n = Z) : G 0 = if (List.range n).any P then R else Z := by
  have key : ∀ k i, i + k = n → G i = if (List.range' i k).any P then R else Z := by
    intro k
    induction k with
    | zero => intro i hi; rw [show i = n by omega]; exact hz
    | succ k ih =>
      intro i hi
      rw [h i (by omega), List.range'_succ, List.any_cons]
      cases P i with
      | true => rfl
      | false => exact ih (i + 1) (by omega)
  rw [List.range_eq_range']
  exact key n 0 (by omega)
/-- a loop that folds -/
theorem lp_fold {α σ : Type} (G : Nat → σ → α) (n : Nat) (f : σ → Nat → σ) (s : σ) (h : ∀ i, i < n → ∀ s, G i s = G (i + 1) (f s i)) : G 0 s = G n ((List.range n).foldl f s) := by
  have key : ∀ k i s, i + k = n → G i s = G n ((List.range' i k).foldl f s) := by
    intro k
    induction k with
    | zero => intro i s hi; rw [show i = n by omega]; rfl
    | succ k ih =>
      intro i s hi
      rw [h i (by omega), List.range'_succ, List.foldl_cons]
      exact ih (i + 1) _ (by omega)
  rw [List.range_eq_range']
  exact key n 0 s (by omega)
/-- one that folds over a list, with a property that is kept -/
theorem lp_list {α σ β : Type} (G : Nat → σ → α) (ws : List β) (f : σ → β → σ) (I : σ → Prop) (h : ∀ i (hi : i < ws.length) s, I s → G i s = G (i + 1) (f s ws[i])) (hI : ∀ w ∈ ws, ∀ s, I s → I (f s w)) (s : σ) (hs : I s) : G 0 s = G ws.length (ws.foldl f s) := by
  have key : ∀ k i s, i + k = ws.length → I s → G i s = G ws.length ((ws.drop i).foldl f s) := by
    intro k
    induction k with
    | zero => intro i s hi _; rw [show i = ws.length by omega, List.drop_length]; rfl
    | succ k ih =>
      intro i s hi hs
      have hl : i < ws.length := by omega
      rw [h i hl s hs, List.drop_eq_getElem_cons hl, List.foldl_cons]
      exact ih (i + 1) _ (by omega) (hI _ (List.getElem_mem hl) s hs)
  exact key ws.length 0 s (by omega) hs
theorem e22 (h : JR c x K F) {who deed whom : Int} (h1 : -1 ≤ who ∧ who < 32) (h2 : -1 ≤ deed ∧ deed < 32) (h3 : -1 ≤ whom ∧ whom < 32) (d : Nat) : E (d + 1) 22 [vr 4 x, vi (iv who), vi (iv deed), vi (iv whom)] (c, l, x, y) = some (some (vi (iv (if isF K who deed whom then 1 else 0))), c, l, x, y) := by
  have hf := h.2.1.2.2.1
  have hc := h.1.2.2.1
  have hn := h.2.1.1.1
  rw [q_22]
  have key := lp_any (fun i : Nat => X (d + 1) 22 2 [some (vr 4 x), some (vi (iv who)), some (vi (iv deed)), some (vi (iv whom)), some (vi (iv i)), none] [] (c, l, x, y)) (nF K) (fun f => (fcK K f).1 == who && (fcK K f).2.1 == deed && (whom == -1 || (fcK K f).2.2 == whom)) (some (some (vi (iv 1)), c, l, x, y)) (some (some (vi (iv 0)), c, l, x, y)) (by
    intro i hi
    have a := hc.2 i hi
    have b := hf.2 i hi
    rw [q_22_2]
    simp (disch := omega) only [iv_add, iv_sub, iv_mul, iv_neg, iv_lt, iv_le, iv_eq, iv_nat, iv_L, iv_L2, am_bi_v, am_bv_v, am_bl_v, if_pos, if_neg, Int.toNat_natCast, hc.1, a.1, a.2.1, a.2.2]
    by_cases e1 : (fcK K i).1 = who <;> by_cases e2 : (fcK K i).2.1 = deed <;> by_cases e3 : whom = -1 <;> by_cases e4 : (fcK K i).2.2 = whom <;> simp [e1, e2, e3, e4]) (by
    rw [q_22_2]
    simp (disch := omega) only [iv_add, iv_sub, iv_mul, iv_neg, iv_lt, iv_le, iv_eq, iv_nat, iv_L, iv_L2, am_bi_v, am_bv_v, am_bl_v, if_pos, if_neg, Int.toNat_natCast, hc.1])
  exact key.trans (by unfold isF; split <;> rfl)
theorem nb_and (p q r p' q' r' : Bool) : iv (nb p q r) &&& iv (nb p' q' r') = iv (nb (p && p') (q && q') (r && r')) := by
  cases p <;> cases q <;> cases r <;> cases p' <;> cases q' <;> cases r' <;> rfl
theorem nb_or (p q r p' q' r' : Bool) : iv (nb p q r) ||| iv (nb p' q' r') = iv (nb (p || p') (q || q') (r || r')) := by
  cases p <;> cases q <;> cases r <;> cases p' <;> cases q' <;> cases r' <;> rfl
theorem nb_not (p q r : Bool) : iv (nb p q r) ^^^ iv 7 = iv (nb (!p) (!q) (!r)) := by
  cases p <;> cases q <;> cases r <;> rfl
theorem nb_his (p : Bool) : (iv (nb p p p) &&& iv 1) ||| iv 2 = iv (nb p true false) := by
  cases p <;> rfl
theorem enc_ah {s : Sj} (hK : VK K) (hs : WS K s) : (iv (encS K s) >>> iv 20) &&& iv 7 = iv (bitsC K s.1) := by
  have h1 := enc_bd hK hs
  have h2 := WS_bd hK hs
  rw [iv_shr (by omega) (by omega)]
  show iv ((encS K s : Nat) / 1048576) &&& iv 7 = _
  rw [iv_m7 (by omega)]; congr 1; unfold encS; omega
theorem enc_bi {s : Sj} (hK : VK K) (hs : WS K s) : (iv (encS K s) >>> iv 23) &&& iv 7 = iv s.2.1 := by
  have h1 := enc_bd hK hs
  have h2 := WS_bd hK hs
  rw [iv_shr (by omega) (by omega)]
  show iv ((encS K s : Nat) / 8388608) &&& iv 7 = _
  rw [iv_m7 (by omega)]; congr 1; unfold encS; omega
theorem enc_tu {s : Sj} (hK : VK K) (hs : WS K s) : (iv (encS K s) &&& iv 524288 = iv 0) = (s.2.2.1 % 2 = 0) := by
  have h1 := enc_bd hK hs
  have h2 := WS_bd hK hs
  rw [iv_and (by omega) (by omega)]
  have e : (((encS K s : Nat) : Int).toNat &&& (524288 : Int).toNat) = (encS K s / 524288 % 2) * 524288 := by
    rw [Int.toNat_natCast, show (524288 : Int).toNat = 2 ^ 19 from rfl]
    apply Nat.eq_of_testBit_eq
    intro i
    rw [Nat.testBit_and, Nat.testBit_two_pow]
    have hb : encS K s / 524288 % 2 = ((encS K s).testBit 19).toNat := by
      rw [Nat.testBit_eq_decide_div_mod_eq]
      show encS K s / 2 ^ 19 % 2 = _
      rcases Nat.mod_two_eq_zero_or_one (encS K s / 2 ^ 19) with q | q <;> rw [q] <;> rfl
    rw [hb]
    by_cases h : i = 19
    · subst h; cases (encS K s).testBit 19 <;> rfl
    · cases hq : (encS K s).testBit 19
      · simp; intro _ h3; exact h h3.symm
      · rw [Bool.toNat_true, Nat.one_mul, show (524288 : Nat) = 2 ^ 19 from rfl, Nat.testBit_two_pow]
        simp [Ne.symm h]
  rw [e, iv_eq (by omega) (by omega)]
  apply propext
  unfold encS
  omega
theorem allSo_snoc (K : Ct) (b : Nat) (cs : List Cs) (cl : Cs) : allSo K b (cs ++ [cl]) = soF K b (allSo K b cs) cl := by
  unfold allSo
  rw [List.foldl_append]
  rfl
theorem slotAt_bd {s : Sj} (hK : VK K) (hs : WS K s) (sl : List Nat) (a : Nat) : -1 ≤ slotAt sl a s.2.2.2 ∧ slotAt sl a s.2.2.2 < 32 := by
  unfold slotAt
  cases sl.idxOf? a with
  | none => exact ⟨by simp, by simp⟩
  | some k =>
    have : s.2.2.2.getD k 0 < 32 := getD_lt (by decide) (fun w q => by have := (hs.2.1 w q).1; have := hK.1.1; omega)
    exact ⟨by simp only []; omega, by simp only []; omega⟩
theorem e43_57 (hK : VK K) {s : Sj} (hs : WS K s) (p q r : Bool) (cl : Cs) (d : Nat) (hb : cl.2.2.2.2.2 = s.2.1) (hp : soK K 0 cl = xor (s.2.2.1 % 2 == 1) p) (hq : soK K 1 cl = xor (s.2.2.1 % 2 == 1) q) (hr : soK K 2 cl = xor (s.2.2.1 % 2 == 1) r) : X (d + 1) 43 57 [none, some (vi (iv (encS K s))), none, none, none, some (vi (iv (nb p q r))), none, none] [] (c, l, x, y) = some (some (vi (iv (bitsC K (s.1 ++ [cl])))), c, l, x, y) := by
  have h2 := WS_bd hK hs
  rw [q_43_57]
  simp only [iv_L, iv_L2]
  rw [enc_ah hK hs, enc_bi hK hs]
  simp only [enc_tu hK hs, nb_not]
  simp (disch := omega) only [iv_eq]
  unfold bitsC
  simp only [nb_and, nb_or, allSo_snoc, soF, hb, hp, hq, hr]
  by_cases ht : s.2.2.1 % 2 = 0
  · have ht2 : (s.2.2.1 % 2 == 1) = false := by rw [ht]; rfl
    rw [if_pos ht, ht2]
    simp only [Bool.false_xor]
    by_cases h3 : s.2.1 = 3
    · simp [h3]
    · by_cases h4 : s.2.1 = 4
      · simp [h4]
      · rw [if_neg (by omega), if_neg (by omega)]
        simp [h3, h4]
  · have ht2 : (s.2.2.1 % 2 == 1) = true := by rw [show s.2.2.1 % 2 = 1 by omega]; rfl
    rw [if_neg ht, ht2]
    simp only [Bool.true_xor]
    by_cases h3 : s.2.1 = 3
    · simp [h3]
    · by_cases h4 : s.2.1 = 4
      · simp [h4]
      · rw [if_neg (by omega), if_neg (by omega)]
        simp [h3, h4]
def bitsO (K : Ct) (o : Option (List Cs)) : Int := match o with
  | some cs => bitsC K cs
  | none => -1
theorem e43 (h : JR c x K F) {s : Sj} (hs : WS K s) (d : Nat) : E (d + 3) 43 [vr 20 0, vi (iv (encS K s))] (c, l, x, y) = some (some (vi (iv (bitsO K (finS K F s)))), c, l, x, y) := by
  have h1 := enc_bd h.2.1 hs
  have h2 := WS_bd h.2.1 hs
  have hn := h.2.1.2.1.1
  rw [q_43, e44 h hs]
  simp (disch := omega) only [iv_add, iv_sub, iv_mul, iv_neg, iv_lt, iv_le, iv_eq, iv_nat, iv_L, iv_L2, am_bi_v, am_bv_v, am_bl_v, if_pos, if_neg]
  unfold finS
  cases hf : fitL K F (patW K s.2.2.2) with
  | none =>
    simp (disch := omega) only [oi, iv_add, iv_sub, iv_mul, iv_neg, iv_lt, iv_le, iv_eq, iv_nat, iv_L, iv_L2, am_bi_v, am_bv_v, am_bl_v, if_pos, if_neg]
    rfl
  | some i =>
    obtain ⟨hi, -, -⟩ := fitL_some hf
    have b0 := slotAt_bd h.2.1 hs (lnK K i) 0
    have b1 := slotAt_bd h.2.1 hs (lnK K i) 1
    have b2 := slotAt_bd h.2.1 hs (lnK K i) 2
    have f0 : ∀ d, E (d + 1) 45 [vr 20 0, vi (iv (encS K s)), vi (iv i), vi (iv 0)] (c, l, x, y) = some (some (vi (iv (slotAt (lnK K i) 0 s.2.2.2))), c, l, x, y) := fun d => e45 h hs hi (a := 0) (by decide) d
    have f1 : ∀ d, E (d + 1) 45 [vr 20 0, vi (iv (encS K s)), vi (iv i), vi (iv 1)] (c, l, x, y) = some (some (vi (iv (slotAt (lnK K i) 1 s.2.2.2))), c, l, x, y) := fun d => e45 h hs hi (a := 1) (by decide) d
    have f2 : ∀ d, E (d + 1) 45 [vr 20 0, vi (iv (encS K s)), vi (iv i), vi (iv 2)] (c, l, x, y) = some (some (vi (iv (slotAt (lnK K i) 2 s.2.2.2))), c, l, x, y) := fun d => e45 h hs hi (a := 2) (by decide) d
    have hz : iv (oi (some i)) = iv (i : Int) := rfl
    rw [hz]
    simp (disch := omega) only [iv_add, iv_sub, iv_mul, iv_neg, iv_lt, iv_le, iv_eq, iv_nat, iv_L, iv_L2, am_bi_v, am_bv_v, am_bl_v, if_pos, if_neg, f0, f1, f2]
    rw [e22 h b0 b1 b2]
    simp only [am_bi_v]
    show _ = some (some (vi (iv (bitsC K (s.1 ++ [mkCl K i s.2.2.2 s.2.2.1 s.2.1])))), c, l, x, y)
    have hc := h.1.2.2.2.2.2
    have ha := h.2.1.2.2.2.2.2
    have hn2 := h.2.1.1.1
    have key : ∀ (p : Bool), isF K (slotAt (lnK K i) 0 s.2.2.2) (slotAt (lnK K i) 1 s.2.2.2) (slotAt (lnK K i) 2 s.2.2.2) = p → X (d + 2 + 1) 43 40 [some (vr 20 0), some (vi (iv (encS K s))), none, some (vi (iv (slotAt (lnK K i) 0 s.2.2.2))), some (vi (iv (slotAt (lnK K i) 1 s.2.2.2))), none, none, none] [vi (iv (nb p p p))] (c, l, x, y) = some (some (vi (iv (bitsC K (s.1 ++ [mkCl K i s.2.2.2 s.2.2.1 s.2.1])))), c, l, x, y) := by
      intro p hp
      rw [q_43_40]
      simp only [hc.1, hc.2, iv_L]
      simp (disch := omega) only [iv_eq]
      by_cases h3 : slotAt (lnK K i) 0 s.2.2.2 = kAc K
      · by_cases h4 : slotAt (lnK K i) 1 s.2.2.2 = kDe K
        · rw [if_pos h3, if_pos h4, nb_his]
          refine e43_57 h.2.1 hs p true false _ (d + 2) rfl ?_ ?_ ?_
          · simp [soK, mkCl, hp]
          · simp [soK, mkCl, isHis, h3, h4]
          · simp [soK, mkCl, isHis, h3, h4]
        · rw [if_pos h3, if_neg h4]
          refine e43_57 h.2.1 hs p p p _ (d + 2) rfl ?_ ?_ ?_
          · simp [soK, mkCl, hp]
          · simp [soK, mkCl, isHis, h4, hp]
          · simp [soK, mkCl, isHis, h4, hp]
      · rw [if_neg h3]
        refine e43_57 h.2.1 hs p p p _ (d + 2) rfl ?_ ?_ ?_
        · simp [soK, mkCl, hp]
        · simp [soK, mkCl, isHis, h3, hp]
        · simp [soK, mkCl, isHis, h3, hp]
    cases hp : isF K (slotAt (lnK K i) 0 s.2.2.2) (slotAt (lnK K i) 1 s.2.2.2) (slotAt (lnK K i) 2 s.2.2.2) with
    | true =>
      rw [if_neg (by rw [if_pos rfl, iv_eq] <;> omega)]
      exact key true hp
    | false =>
      rw [if_pos (by simp)]
      exact key false hp
theorem e43O (h : JR c x K F) {o : Option Sj} (ho : WO K o) (d : Nat) : E (d + 3) 43 [vr 20 0, vi (iv (encO K o))] (c, l, x, y) = some (some (vi (iv (bitsO K (meanO K F o)))), c, l, x, y) := by
  cases o with
  | some s => exact e43 h (ho s rfl) d
  | none =>
    rw [q_43]
    simp (disch := omega) only [encO, iv_add, iv_sub, iv_mul, iv_neg, iv_lt, iv_le, iv_eq, iv_nat, iv_L, iv_L2, am_bi_v, am_bv_v, am_bl_v, if_pos, if_neg]
    rfl
theorem bitsO_bd (K : Ct) (o : Option (List Cs)) : -1 ≤ bitsO K o ∧ bitsO K o < 8 := by
  cases o with
  | none => exact ⟨by simp [bitsO], by simp [bitsO]⟩
  | some cs =>
    have := nb_lt (allSo K 0 cs) (allSo K 1 cs) (allSo K 2 cs)
    exact ⟨by simp only [bitsO, bitsC]; omega, by simp only [bitsO, bitsC]; omega⟩
theorem encO_bd (hK : VK K) {o : Option Sj} (ho : WO K o) : -1 ≤ encO K o ∧ encO K o < 67108864 := by
  cases o with
  | none => exact ⟨by simp [encO], by simp [encO]⟩
  | some s =>
    have := enc_bd hK (ho s rfl)
    exact ⟨by simp only [encO]; omega, by simp only [encO]; omega⟩
/-- the ruling that a state brings -/
theorem e50 (h : JR c x K F) {o : Option Sj} (ho : WO K o) (d : Nat) : E (d + 4) 50 [vr 20 0, vi (iv (encO K o))] (c, l, x, y) = some (some (vi (iv (rulO K (meanO K F o)))), c, l, x, y) := by
  rw [q_50, e43O h ho]
  simp only [am_bi_v, iv_L]
  have hb := bitsO_bd K (meanO K F o)
  cases hm : meanO K F o with
  | none => rfl
  | some cs =>
    show _ = some (some (vi (iv (rulC K cs))), c, l, x, y)
    rw [show bitsO K (some cs) = (nb (allSo K 0 cs) (allSo K 1 cs) (allSo K 2 cs) : Nat) from rfl]
    unfold rulC
    cases allSo K 0 cs <;> cases allSo K 1 cs <;> cases allSo K 2 cs <;> rfl
end
