/-! the class: an image is taken -/
def saidR (K : Ct) (tp : Nat → Nat) : Nat → Nat → List Nat → Bool
  | 0, _, _ => true
  | m + 1, i, g => decide (tp (2 * i + 1) < nB K) && !(g.contains (tp (2 * i + 1))) && (sayK K (tp (2 * i + 1))).contains (tp (2 * i + 2)) && saidR K tp m (i + 1) (tp (2 * i + 1) :: g)
def imgOk (K : Ct) (n : Nat) (tp : Nat → Nat) : Bool := decide (n = 2 * tp 0 + 3) && (decide (chkL ((List.range (n - 1)).map tp) = tp (n - 1)) && (decide (tp (n - 2) < 2 ^ nL K) && saidR K tp (tp 0) 0 []))
def imgRow (tp : Nat → Nat) (m : Nat) : List (Nat × Nat) := (List.range m).map (fun i => (tp (2 * i + 1), tp (2 * i + 2)))
def mskL : List Nat → Nat
  | [] => 0
  | w :: L => mskL L ||| 2 ^ w
theorem mskL_bit : ∀ (L : List Nat) (w : Nat), (mskL L).testBit w = L.contains w
  | [], w => by simp [mskL]
  | v :: L, w => by
    rw [mskL, Nat.testBit_or, mskL_bit L w, Nat.testBit_two_pow, List.contains_cons]
    by_cases e : v = w
    · subst e; simp
    · rw [decide_eq_false e, Bool.or_false]
      rw [show (w == v) = false by simp [Ne.symm e], Bool.false_or]
theorem mskL_lt : ∀ (L : List Nat), (∀ w ∈ L, w < 7) → mskL L < 128
  | [], _ => by decide
  | v :: L, h => Nat.or_lt_two_pow (n := 7) (mskL_lt L (fun w q => h w (List.mem_cons_of_mem _ q))) (Nat.pow_lt_pow_right (by decide) (h v List.mem_cons_self))
theorem said_ok {K : Ct} {tp : Nat → Nat} : ∀ (m i : Nat) (g : List Nat), saidR K tp m i g = true → (∀ j ∈ List.range' i m, tp (2 * j + 1) < nB K ∧ tp (2 * j + 2) ∈ sayK K (tp (2 * j + 1)) ∧ tp (2 * j + 1) ∉ g) ∧ ((List.range' i m).map (fun j => tp (2 * j + 1))).Nodup
  | 0, i, g, _ => ⟨fun j h => (by cases h), List.nodup_nil⟩
  | m + 1, i, g, h => by
    unfold saidR at h
    rw [Bool.and_eq_true, Bool.and_eq_true, Bool.and_eq_true] at h
    obtain ⟨⟨⟨h1, h2⟩, h3⟩, h4⟩ := h
    obtain ⟨a1, a2⟩ := said_ok m (i + 1) _ h4
    have h2 : tp (2 * i + 1) ∉ g := by simpa using h2
    have h3 : tp (2 * i + 2) ∈ sayK K (tp (2 * i + 1)) := by simpa using h3
    rw [List.range'_succ]
    constructor
    · intro j hj
      rcases List.mem_cons.mp hj with q | q
      · rw [q]; exact ⟨of_decide_eq_true h1, h3, h2⟩
      · obtain ⟨b1, b2, b3⟩ := a1 j q
        exact ⟨b1, b2, fun q => b3 (List.mem_cons_of_mem _ q)⟩
    · rw [List.map_cons, List.nodup_cons]
      refine ⟨fun q => ?_, a2⟩
      obtain ⟨j, hj, he⟩ := List.mem_map.mp q
      exact (a1 j hj).2.2 (by rw [he]; exact List.mem_cons_self)
section
variable {c : Nat → Nat → Nat → Int32} {l : Nat → Nat → Int64} {x y : Nat} {K : Ct} {F : Nat} {row : List (Nat × Nat)} {tp : Nat → Nat} {n : Nat} {fa fp : Int} {rf : Nat → Int32} {sd : Int} {oc : List Nat}
theorem imgRow_ok {m : Nat} (hK : VK K) (h : saidR K tp m 0 [] = true) : (imgRow tp m).length ≤ nB K ∧ (whs (imgRow tp m)).Nodup ∧ ∀ p ∈ imgRow tp m, p.1 < nB K ∧ p.2 ∈ sayK K p.1 := by
  obtain ⟨a1, a2⟩ := said_ok m 0 [] h
  rw [← List.range_eq_range'] at a1 a2
  have hw : whs (imgRow tp m) = (List.range m).map (fun j => tp (2 * j + 1)) := by unfold whs imgRow; rw [List.map_map]; rfl
  have hmem : ∀ p ∈ imgRow tp m, p.1 < nB K ∧ p.2 ∈ sayK K p.1 := by
    intro p hp
    obtain ⟨j, hj, rfl⟩ := List.mem_map.mp hp
    exact ⟨(a1 j hj).1, (a1 j hj).2.1⟩
  refine ⟨?_, by rw [hw]; exact a2, hmem⟩
  have := nodup_len (nB K) (whs (imgRow tp m)) (by rw [hw]; exact a2) (fun w hw2 => by
    obtain ⟨p, hp, rfl⟩ := List.mem_map.mp hw2
    exact (hmem p hp).1)
  rw [whs_len] at this
  exact this
/-- the tape of the class -/
def TC (c : Nat → Nat → Nat → Int32) (tp : Nat → Nat) (n : Nat) : Prop := c 1 0 1 = iv n ∧ ∀ i, i < 1600 → c 2 0 i = iv (sb (tp i))
theorem e99 (h : TC c tp n) (hn : n ≤ 1600) (ht : ∀ i, tp i < 256) {z : Int} (hz : -2147483648 ≤ z ∧ z < 2147483648) (d : Nat) : E (d + 1) 99 [vr 1 0, vi (iv z)] (c, l, x, y) = some (some (vi (iv (if 0 ≤ z ∧ z < n then ((tp z.toNat : Nat) : Int) else -1))), c, l, x, y) := by
  rw [q_99, h.1]
  by_cases e : 0 ≤ z ∧ z < n
  · obtain ⟨k, rfl⟩ := Int.eq_ofNat_of_zero_le e.1
    rw [if_pos e]
    simp (disch := omega) only [iv_add, iv_sub, iv_mul, iv_neg, iv_lt, iv_le, iv_eq, iv_nat, iv_L, iv_L2, am_bi_v, am_bv_v, am_bl_v, if_pos, if_neg, Int.toNat_natCast, Int.toNat_add, Int.toNat_mul, Int.reduceToNat, h.2 k (by omega), sb_and (ht k)]
  · rw [if_neg e]
    by_cases e1 : z < 0
    · simp (disch := omega) only [iv_add, iv_sub, iv_mul, iv_neg, iv_lt, iv_le, iv_eq, iv_nat, iv_L, iv_L2, am_bi_v, am_bv_v, am_bl_v, if_pos, if_neg, Int.toNat_natCast, Int.toNat_add, Int.toNat_mul, Int.reduceToNat]
    · simp (disch := omega) only [iv_add, iv_sub, iv_mul, iv_neg, iv_lt, iv_le, iv_eq, iv_nat, iv_L, iv_L2, am_bi_v, am_bv_v, am_bl_v, if_pos, if_neg, Int.toNat_natCast, Int.toNat_add, Int.toNat_mul, Int.reduceToNat]
theorem e16 (h : c 4 x 10 = iv (nL K)) (h6 : nL K ≤ 6) (d : Nat) : E (d + 1) 16 [vr 4 x] (c, l, x, y) = some (some (vi (iv ((2 ^ nL K - 1 : Nat) : Int))), c, l, x, y) := by
  rw [q_16, h]
  have hsh : iv 1 <<< (iv (nL K : Int) &&& 31) = iv ((2 ^ nL K : Nat) : Int) := shl1 (nL K) (by omega)
  have hp := Nat.two_pow_pos (nL K)
  rw [show (1 : Int32) = iv 1 from rfl, hsh, iv_sub, show (((2 ^ nL K : Nat) : Int) - 1) = ((2 ^ nL K - 1 : Nat) : Int) by omega]
theorem e83 (hJ : JR c x K F) (hT : TC c tp n) (hn : n ≤ 1600) (ht : ∀ i, tp i < 256) {m : Nat} (hm : 2 * m + 3 ≤ n) (d : Nat) : E (d + 3) 83 [vr 1 0, vr 4 x, vi (iv m)] (c, l, x, y) = some (some (vi (iv (if saidR K tp m 0 [] then 1 else 0))), c, l, x, y) := by
  have h7 := hJ.2.1.2.2.2.1
  have key : ∀ (k i : Nat) (g : List Nat), i + k = m → (∀ w ∈ g, w < 7) → X (d + 3) 83 4 [some (vr 1 0), some (vr 4 x), some (vi (iv m)), some (vi (iv (mskL g))), some (vi (iv (i : Nat))), none] [] (c, l, x, y) = some (some (vi (iv (if saidR K tp k i g then 1 else 0))), c, l, x, y) := by
    intro k
    induction k with
    | zero =>
      intro i g hi hg
      rw [q_83_4]
      simp (disch := omega) only [iv_add, iv_sub, iv_mul, iv_neg, iv_lt, iv_le, iv_eq, iv_nat, iv_L, iv_L2, am_bi_v, am_bv_v, am_bl_v, if_pos, if_neg, Int.toNat_natCast, Int.toNat_add, Int.toNat_mul, Int.reduceToNat]
      rfl
    | succ k ih =>
      intro i g hi hg
      have hml := mskL_lt g hg
      have hb := ht (2 * i + 1)
      have b1 : ∀ d, E (d + 1) 99 [vr 1 0, vi (iv (2 * (i : Int) + 1))] (c, l, x, y) = some (some (vi (iv (tp (2 * i + 1) : Nat))), c, l, x, y) := fun d => by
        rw [e99 hT hn ht (by omega), if_pos (by omega), show (2 * (i : Int) + 1).toNat = 2 * i + 1 by omega]
      have b2 : ∀ d, E (d + 1) 99 [vr 1 0, vi (iv (2 * (i : Int) + 2))] (c, l, x, y) = some (some (vi (iv (tp (2 * i + 2) : Nat))), c, l, x, y) := fun d => by
        rw [e99 hT hn ht (by omega), if_pos (by omega), show (2 * (i : Int) + 2).toNat = 2 * i + 2 by omega]
      unfold saidR
      generalize hA : tp (2 * i + 1) = A at b1 hb ⊢
      have hb2 := ht (2 * i + 2)
      generalize hB : tp (2 * i + 2) = B at b2 hb2 ⊢
      rw [q_83_4]
      simp (disch := omega) only [iv_L, iv_L2, iv_mul, iv_add, iv_lt, if_pos, b1, am_bi_v, e19 hJ]
      by_cases hA7 : A < nB K
      · rw [if_pos (show (0 : Int) ≤ A ∧ (A : Int) < nB K by omega), if_neg (show ¬ iv 1 = iv 0 by decide), iv_m31 (by omega), show ((A : Int) % 32) = A by omega, iv_bit (by omega) (by omega), Int.toNat_natCast, Int.toNat_natCast, mskL_bit, decide_eq_true hA7, Bool.true_and]
        cases hc : g.contains A with
        | true => rfl
        | false =>
          have e4 := e100 (l := l) (y := y) hJ hA7 (z := (B : Int)) (by omega) d
          have hany : (sayK K A).any (fun v : Nat => (v : Int) == (B : Int)) = (sayK K A).contains B := by
            rw [List.contains_eq_any_beq]
            congr 1
            funext v
            by_cases e : v = B
            · subst e; simp
            · have e2 : ¬ (v : Int) = (B : Int) := by omega
              rw [beq_eq_false_iff_ne.mpr e2, beq_eq_false_iff_ne.mpr (Ne.symm e)]
          rw [hany] at e4
          simp (disch := omega) only [iv_lt, iv_nat, iv_eq, if_neg, Int.toNat_natCast, Int.toNat_add, Int.toNat_mul, Int.reduceToNat, b2, am_bi_v, e4, Bool.not_false, Bool.true_and]
          rw [if_neg (by simp)]
          cases hs : (sayK K A).contains B with
          | false => rfl
          | true =>
            have := ih (i + 1) (A :: g) (by omega) (fun w q => by
              rcases List.mem_cons.mp q with q | q
              · omega
              · exact hg w q)
            simp only [if_true, Bool.true_and]
            rw [if_neg (by decide)]
            have h31 : iv 1 <<< iv (A : Int) = iv ((2 ^ A : Nat) : Int) := by
              have := shl1 A (by omega)
              rw [iv_m31 (by omega), show ((A : Int) % 32) = A by omega] at this
              exact this
            have hp6 : 2 ^ A ≤ 2 ^ 7 := Nat.pow_le_pow_right (by decide) (by omega)
            have hp7 : ((2 ^ A : Nat) : Int) ≤ 128 := Int.ofNat_le.mpr hp6
            rw [h31, iv_or (by omega) ⟨Int.natCast_nonneg _, Int.lt_of_le_of_lt hp7 (by decide)⟩, Int.toNat_natCast, Int.toNat_natCast, show ((i : Int) + 1) = ((i + 1 : Nat) : Int) by omega]
            exact this
      · rw [if_neg (show ¬ ((0 : Int) ≤ A ∧ (A : Int) < nB K) by omega), decide_eq_false hA7]
        rfl
  rw [q_83]
  exact key m 0 [] (by omega) (fun w q => by cases q)
theorem e82 (hJ : JR c x K F) (hT : TC c tp n) (hn : n ≤ 1600) (ht : ∀ i, tp i < 256) (d : Nat) : E (d + 4) 82 [vr 1 0, vr 4 x] (c, l, x, y) = some (some (vi (iv (if imgOk K n tp then 1 else 0))), c, l, x, y) := by
  have h6 := hJ.2.1.2.1.1
  have t0 := ht 0
  unfold imgOk
  have b0 : ∀ d, E (d + 1) 99 [vr 1 0, vi 0] (c, l, x, y) = some (some (vi (iv (if 0 < n then ((tp 0 : Nat) : Int) else -1))), c, l, x, y) := fun d => by
    have := e99 (l := l) (x := x) (y := y) hT hn ht (z := 0) (by omega) d
    refine this.trans ?_
    by_cases e : 0 < n
    · rw [if_pos (by omega), if_pos e]; rfl
    · rw [if_neg (by omega), if_neg e]
  rw [q_82, b0]
  simp only [am_bi_v]
  by_cases e0 : 0 < n
  · rw [if_pos e0, if_neg (by rw [show (-1 : Int32) = iv (-1) from rfl, iv_eq] <;> omega)]
    simp only [hT.1, show (2 : Int32) = iv 2 from rfl, show (3 : Int32) = iv 3 from rfl, iv_mul, iv_add]
    by_cases e : n = 2 * tp 0 + 3
    · rw [decide_eq_true e, Bool.true_and, if_pos (by rw [show (2 * ((tp 0 : Nat) : Int) + 3) = (n : Int) by omega])]
      have chk : ∀ (m i s : Nat), i + m = n - 1 → s < 241 → X (d + 4) 82 21 [some (vr 1 0), some (vr 4 x), some (vi (iv (tp 0 : Nat))), some (vi (iv (s : Nat))), some (vi (iv (i : Nat)))] [] (c, l, x, y) = if (((List.range' i m).map tp).foldl (fun c b => (3 * c + b) % 241) s) = tp (n - 1) then (if tp (n - 2) < 2 ^ nL K then (if saidR K tp (tp 0) 0 [] then some (some (vi (iv 1)), c, l, x, y) else some (some (vi (iv 0)), c, l, x, y)) else some (some (vi (iv 0)), c, l, x, y)) else some (some (vi (iv 0)), c, l, x, y) := by
        intro m
        induction m with
        | zero =>
          intro i s hi hs
          have t1 := ht (n - 1)
          have t2 := ht (n - 2)
          have hp6 : 2 ^ nL K ≤ 2 ^ 6 := Nat.pow_le_pow_right (by decide) (by omega)
          have hp := Nat.two_pow_pos (nL K)
          have f1 : ∀ d, E (d + 1) 99 [vr 1 0, vi (iv ((n : Int) - 1))] (c, l, x, y) = some (some (vi (iv (tp (n - 1) : Nat))), c, l, x, y) := fun d => by
            rw [e99 hT hn ht (by omega), if_pos (by omega), show ((n : Int) - 1).toNat = n - 1 by omega]
          have f2 : ∀ d, E (d + 1) 99 [vr 1 0, vi (iv ((n : Int) - 2))] (c, l, x, y) = some (some (vi (iv (tp (n - 2) : Nat))), c, l, x, y) := fun d => by
            rw [e99 hT hn ht (by omega), if_pos (by omega), show ((n : Int) - 2).toNat = n - 2 by omega]
          rw [q_82_21, hT.1]
          simp (disch := omega) only [iv_L, iv_sub, iv_lt, if_neg, f1, am_bi_v, hT.1, f2, e16 hJ.1.2.1.1 h6, e83 hJ hT hn ht (show 2 * tp 0 + 3 ≤ n by omega), iv_eq]
          show _ = if s = tp (n - 1) then _ else _
          by_cases g1 : s = tp (n - 1)
          · rw [if_pos (by omega), if_pos g1]
            by_cases g2 : tp (n - 2) < 2 ^ nL K
            · rw [if_neg (by omega), if_pos g2]
              cases saidR K tp (tp 0) 0 [] <;> rfl
            · rw [if_pos (by omega), if_neg g2]
          · rw [if_neg (by omega), if_neg g1]
        | succ m ih =>
          intro i s hi hs
          have t1 := ht i
          have f1 : ∀ d, E (d + 1) 99 [vr 1 0, vi (iv (i : Nat))] (c, l, x, y) = some (some (vi (iv (tp i : Nat))), c, l, x, y) := fun d => by
            rw [e99 hT hn ht (by omega), if_pos (by omega), Int.toNat_natCast]
          rw [q_82_21, hT.1]
          simp (disch := omega) only [iv_add, iv_sub, iv_mul, iv_neg, iv_lt, iv_le, iv_eq, iv_nat, iv_L, iv_L2, am_bi_v, am_bv_v, am_bl_v, if_pos, if_neg, Int.toNat_natCast, Int.toNat_add, Int.toNat_mul, Int.reduceToNat, f1, iv_div]
          rw [List.range'_succ, List.map_cons, List.foldl_cons, ← ih (i + 1) _ (by omega) (Nat.mod_lt _ (by decide))]
          rw [show ((i : Int) + 1) = ((i + 1 : Nat) : Int) by omega, show (3 * (s : Int) + (tp i : Nat) - (3 * (s : Int) + (tp i : Nat)) / 241 * 241) = (((3 * s + tp i) % 241 : Nat) : Int) by omega]
      have := chk (n - 1) 0 97 (by omega) (by decide)
      rw [← List.range_eq_range'] at this
      refine this.trans ?_
      unfold chkL
      by_cases g1 : (((List.range (n - 1)).map tp).foldl (fun c b => (3 * c + b) % 241) 97) = tp (n - 1)
      · rw [if_pos g1, decide_eq_true g1, Bool.true_and]
        by_cases g2 : tp (n - 2) < 2 ^ nL K
        · rw [if_pos g2, decide_eq_true g2, Bool.true_and]
          cases saidR K tp (tp 0) 0 [] <;> rfl
        · rw [if_neg g2, decide_eq_false g2]; rfl
      · rw [if_neg g1, decide_eq_false g1]; rfl
    · rw [decide_eq_false e, if_neg (by rw [iv_eq] <;> omega)]
      rfl
  · rw [if_neg e0, if_pos (by rfl), decide_eq_false (show ¬ n = 2 * tp 0 + 3 by omega)]
    rfl
theorem e84 (h : AC c x y K F row tp n fa fp rf sd oc) (hn : n ≤ 1600) (ht : ∀ i, tp i < 256) {m : Nat} (hm : 2 * m + 3 = n) (hm0 : tp 0 = m) (h7 : m ≤ 7) (d : Nat) : ∃ c2 : Nat → Nat → Nat → Int32, E (d + 2) 84 [vr 23 0, vr 1 0] (c, l, x, y) = some (none, c2, l, x, y) ∧ AC c2 x y K F (imgRow tp m) tp n fa fp rf sd oc ∧ ∀ k, k < 23 ∨ 25 < k → c2 k = c k := by
  have key : ∀ (k i : Nat) (c1 : Nat → Nat → Nat → Int32), i + k = m → AC c1 x y K F (imgRow tp i) tp n fa fp rf sd oc → (∀ k, k < 23 ∨ 25 < k → c1 k = c k) → ∃ c2 : Nat → Nat → Nat → Int32, X (d + 2) 84 5 [some (vr 23 0), some (vr 1 0), some (vi (iv (i : Nat)))] [] (c1, l, x, y) = some (none, c2, l, x, y) ∧ AC c2 x y K F (imgRow tp m) tp n fa fp rf sd oc ∧ ∀ k, k < 23 ∨ 25 < k → c2 k = c k := by
    intro k
    induction k with
    | zero =>
      intro i c1 hi h1 hf
      have hT : TC c1 tp n := ⟨h1.2.2.2.2.1.1, h1.2.2.2.2.1.2.2.2⟩
      have b0 := e99 (l := l) (x := x) (y := y) hT hn ht (z := 0) (by omega) d
      rw [if_pos (by omega), show (0 : Int).toNat = 0 from rfl, hm0] at b0
      have hmi : i = m := by omega
      subst hmi
      refine ⟨c1, ?_, h1, hf⟩
      rw [q_84_5, show (0 : Int32) = iv 0 from rfl, b0]
      simp (disch := omega) only [am_bi_v, iv_lt, if_neg]
    | succ k ih =>
      intro i c1 hi h1 hf
      have hT : TC c1 tp n := ⟨h1.2.2.2.2.1.1, h1.2.2.2.2.1.2.2.2⟩
      have b0 := e99 (l := l) (x := x) (y := y) hT hn ht (z := 0) (by omega) d
      rw [if_pos (by omega), show (0 : Int).toNat = 0 from rfl, hm0] at b0
      have b1 := e99 (l := l) (x := x) (y := y) hT hn ht (z := 2 * (i : Int) + 1) (by omega) d
      rw [if_pos (by omega), show (2 * (i : Int) + 1).toNat = 2 * i + 1 by omega] at b1
      have b2 := e99 (l := l) (x := x) (y := y) hT hn ht (z := 2 * (i : Int) + 2) (by omega) d
      rw [if_pos (by omega), show (2 * (i : Int) + 2).toNat = 2 * i + 2 by omega] at b2
      have hil : (imgRow tp i).length = i := by unfold imgRow; rw [List.length_map, List.length_range]
      obtain ⟨c2, g1, g2, g3⟩ := e78 (l := l) h1 (by omega) (tp (2 * i + 1)) (tp (2 * i + 2)) d
      have hsn : imgRow tp (i + 1) = imgRow tp i ++ [(tp (2 * i + 1), tp (2 * i + 2))] := by
        unfold imgRow
        rw [List.range_succ, List.map_append]
        rfl
      rw [← hsn] at g2
      obtain ⟨c3, k1, k2, k3⟩ := ih (i + 1) c2 (by omega) g2 (fun q hq => (g3 q hq).trans (hf q hq))
      refine ⟨c3, ?_, k2, k3⟩
      rw [q_84_5, show (0 : Int32) = iv 0 from rfl, b0]
      simp (disch := omega) only [am_bi_v, iv_lt, if_pos, iv_L, iv_mul, iv_add, b1, b2, g1, am_bv_v]
      rw [show ((i : Int) + 1) = ((i + 1 : Nat) : Int) by omega]
      exact k1
  obtain ⟨a1, a2⟩ := ac_len h 0 (by omega)
  obtain ⟨c2, g1, g2, g3⟩ := key m 0 (am_ui c 23 0 3 (iv ((0 : Nat) : Int))) (by omega) a1 (fun q hq => ui_nk _ _ _ _ (by omega))
  exact ⟨c2, by rw [q_84]; exact g1, g2, g3⟩
theorem ac_n0 (h : AC c x y K F row tp n fa fp rf sd oc) : AC (am_ui c 1 0 1 (iv 0)) x y K F row tp 0 fa fp rf sd oc ∧ KC c (am_ui c 1 0 1 (iv 0)) := by
  obtain ⟨h1, h2, h3, h4, h5, h6, h8⟩ := h
  have hf : ∀ q, q ≠ 1 → am_ui c 1 0 1 (iv 0) q = c q := fun q hq => ui_nk _ _ _ _ hq
  refine ⟨⟨JR_fr h1 (fun q _ _ => hf q (by omega)), h2, ⟨?_, RowAt_fr h3.2.1 (hf 24 (by omega)), RowAt_fr h3.2.2 (hf 25 (by omega))⟩, ⟨?_, RowAt_fr h4.2 (hf 26 (by omega))⟩, ⟨ui_self _ _ _ _, ?_, ?_, ?_⟩, ?_, ?_⟩, fun q hq => hf q (by omega)⟩
  · rw [hf 23 (by omega)]; exact h3.1
  · rw [hf 23 (by omega)]; exact h4.1
  · rw [ui_ne _ _ _ _ (by omega)]; exact h5.2.1
  · rw [ui_ne _ _ _ _ (by omega)]; exact h5.2.2.1
  · rw [hf 2 (by omega)]; exact h5.2.2.2
  · rw [hf 46 (by omega)]; exact h6
  · rw [hf 34 (by omega)]; exact h8
theorem k145 (h : AC c x y K F row tp n fa fp rf sd oc) (hv : VS K F row tp n fa fp sd oc) (d : Nat) : ∃ c2 : Nat → Nat → Nat → Int32, E (d + 5) 145 [vr 0 0] (c, l, x, y) = some (some (vi (iv (if imgOk K n tp then 1 else 0))), c2, l, x, y) ∧ AC c2 x y K (if imgOk K n tp then tp (n - 2) else F) (if imgOk K n tp then imgRow tp (tp 0) else row) tp 0 fa fp (oneMore rf 5 (imgOk K n tp)) sd oc ∧ ((imgOk K n tp = true ∧ PF c2 ∧ KR c c2) ∨ (imgOk K n tp = false ∧ KC c c2)) := by
  obtain ⟨hn, ht⟩ := hv.2.2.2.1
  have hT : TC c tp n := ⟨h.2.2.2.2.1.1, h.2.2.2.2.1.2.2.2⟩
  rw [q_145, e82 h.1 hT hn ht]
  cases hI : imgOk K n tp with
  | false =>
    obtain ⟨r1, r2⟩ := ac_ref h (k := 5) (by decide)
    obtain ⟨s1, s2⟩ := ac_n0 r1
    exact ⟨_, rfl, s1, Or.inr ⟨rfl, r2.tr s2⟩⟩
  | true =>
    have hI2 := hI
    unfold imgOk at hI2
    rw [Bool.and_eq_true, Bool.and_eq_true, Bool.and_eq_true] at hI2
    obtain ⟨i1, i2, i3, i4⟩ := hI2
    have i1 := of_decide_eq_true i1
    have i3 := of_decide_eq_true i3
    have h7 := hv.1.2.2.2.1.1
    have h6 := hv.1.2.1.1
    have hro := imgRow_ok hv.1 i4
    have hil : (imgRow tp (tp 0)).length = tp 0 := by unfold imgRow; rw [List.length_map, List.length_range]
    have hp6 : 2 ^ nL K ≤ 2 ^ 6 := Nat.pow_le_pow_right (by decide) (by omega)
    obtain ⟨c2, g1, g2, g3⟩ := e84 (l := l) h hn ht (m := tp 0) (by omega) rfl (by omega) (d + 2)
    have b2 := e99 (l := l) (x := x) (y := y) (tp := tp) (n := n) ⟨g2.2.2.2.2.1.1, g2.2.2.2.2.1.2.2.2⟩ hn ht (z := (n : Int) - 2) (by omega) (d + 3)
    rw [if_pos (by omega), show ((n : Int) - 2).toNat = n - 2 by omega] at b2
    obtain ⟨c3, k1, k2, k3, k4⟩ := e105 (l := l) (y := y) g2.1.1 hv.1 (show tp (n - 2) < 64 by omega) (d + 1)
    have h3 := AC_JR g2 k2 h.2.1 (fun k hk => k4 k (by omega) (by omega) (by omega) (by omega) (by omega) (by omega))
    obtain ⟨s1, s2⟩ := ac_n0 h3
    refine ⟨am_ui c3 1 0 1 (iv 0), ?_, s1, Or.inl ⟨rfl, ⟨?_, ?_, ?_⟩, ?_⟩⟩
    · simp only [if_true, am_bi_v]
      rw [if_neg (by decide), g1]
      simp only [am_bv_v, g2.2.2.2.2.1.1]
      rw [show (2 : Int32) = iv 2 from rfl, iv_sub, b2]
      simp only [am_bi_v]
      rw [k1]
      simp only [am_bv_v]
      rw [if_pos (by decide)]
      rfl
    · intro p hp; rw [s2 28 (by omega)]; exact k3.1 p hp
    · rw [s2 36 (by omega)]; exact k3.2.1
    · intro p hp; rw [s2 43 (by omega)]; exact k3.2.2 p hp
    · intro q hq
      rw [s2 q (by omega), k4 q (by omega) (by omega) (by omega) (by omega) (by omega) (by omega), g3 q (by omega)]
theorem VS_restore (hv : VS K F row tp n fa fp sd oc) : VS K (if imgOk K n tp then tp (n - 2) else F) (if imgOk K n tp then imgRow tp (tp 0) else row) tp 0 fa fp sd oc := by
  obtain ⟨v1, v2, v3, ⟨v4, v5⟩, v6⟩ := hv
  cases hI : imgOk K n tp with
  | false => exact ⟨v1, v2, v3, ⟨Nat.zero_le _, v5⟩, v6⟩
  | true =>
    unfold imgOk at hI
    rw [Bool.and_eq_true, Bool.and_eq_true, Bool.and_eq_true] at hI
    exact ⟨v1, of_decide_eq_true hI.2.2.1, imgRow_ok v1 hI.2.2.2, ⟨Nat.zero_le _, v5⟩, v6⟩
end
