/-! the contest: what comes of it, and the class's contest -/
/-- whether move i (witness i/4 says his i%4-th) may be made at turn t -/
def mvOK (K : Ct) (t : Nat) (row : List (Nat × Nat)) (i : Nat) : Bool := decide (i % 4 < (sayK K (i / 4)).length) && (decide ((bnK K (i / 4)).2.2.1 = t % 2) && !((whs row).contains (i / 4)))
def mvRow (K : Ct) (row : List (Nat × Nat)) (i : Nat) : List (Nat × Nat) := row ++ [(i / 4, (sayK K (i / 4)).getD (i % 4) 0)]
/-- 1 when the row comes to be guilty -/
def valG (K : Ct) (F : Nat) : Nat → Nat → List (Nat × Nat) → Nat
  | 0, _, row => if rul K F (wds row) = 1 then 1 else 0
  | m + 1, t, row => if valG K F m (t + 1) row = 1 - t % 2 then 1 - t % 2 else if ((List.range (4 * nB K)).find? (fun i => mvOK K t row i && valG K F m (t + 1) (mvRow K row i) == 1 - t % 2)).isSome then 1 - t % 2 else t % 2
/-- the move that wins, if it is not to pass -/
def fstG (K : Ct) (F : Nat) : Nat → Nat → List (Nat × Nat) → Option Nat
  | 0, _, _ => none
  | m + 1, t, row => if valG K F m (t + 1) row = 1 - t % 2 then none else (List.range (4 * nB K)).find? (fun i => mvOK K t row i && valG K F m (t + 1) (mvRow K row i) == 1 - t % 2)
/-- the first move that wins is kept -/
def mkC (c : Nat → Nat → Nat → Int32) (t : Nat) (o : Option Nat) : Nat → Nat → Nat → Int32 := match o with
  | some i => if t = 0 then am_ui (am_ui c 33 0 2 (iv ((i / 4 : Nat) : Int))) 33 0 3 (iv ((i % 4 : Nat) : Int)) else c
  | none => c
section
variable {c : Nat → Nat → Nat → Int32} {l : Nat → Nat → Int64} {x y : Nat} {K : Ct} {F : Nat} {row : List (Nat × Nat)} {tp : Nat → Nat} {n : Nat} {fa fp : Int} {rf : Nat → Int32} {sd : Int} {oc : List Nat}
theorem valG_le : ∀ (m t : Nat) (row : List (Nat × Nat)), valG K F m t row ≤ 1
  | 0, _, row => by unfold valG; split <;> omega
  | m + 1, t, row => by unfold valG; split; omega; split <;> omega
theorem mkC_pos {t : Nat} (ht : t ≠ 0) (o : Option Nat) : mkC c t o = c := by
  unfold mkC
  cases o with
  | none => rfl
  | some i => exact if_neg ht
theorem mvRow_wds (b k : Nat) (hk : k < 4) : wds (mvRow K row (4 * b + k)) = wds row ++ [(sayK K b).getD k 0] := by
  unfold mvRow
  rw [show (4 * b + k) / 4 = b by omega, show (4 * b + k) % 4 = k by omega]
  exact wds_snoc ..
theorem mvRow_whs (b k : Nat) (hk : k < 4) : whs (mvRow K row (4 * b + k)) = whs row ++ [b] := by
  unfold mvRow
  rw [show (4 * b + k) / 4 = b by omega, show (4 * b + k) % 4 = k by omega]
  exact whs_snoc ..
/-- who is gone, as bits -/
def Gn (gone : Nat) (row : List (Nat × Nat)) : Prop := gone < 128 ∧ ∀ b, b < 7 → gone.testBit b = (whs row).contains b
/-- turns from t + 1 on are without a trace -/
def Pur (K : Ct) (F : Nat) (x m t : Nat) : Prop := ∀ (f gone : Nat) (row : List (Nat × Nat)) (c : Nat → Nat → Nat → Int32) (l : Nat → Nat → Int64) (y : Nat), 2 * m + 6 ≤ f → JR c x K F → c 33 0 1 = iv ((t + m : Nat) : Int) → Gn gone row → (∀ w ∈ wds row, w < nW K) → E f 10 [vr 33 0, vi (iv (t : Nat)), vi (iv (encO K (hearA K F (wds row)))), vi (iv (gone : Nat))] (c, l, x, y) = some (some (vi (iv (valG K F m t row : Nat))), c, l, x, y)
theorem wish_iv (t : Nat) (ht : t < 100) : (1 : Int32) - (iv (t : Int) - iv (t : Int) / 2 * 2) = iv ((1 - t % 2 : Nat) : Int) := by
  rw [show (2 : Int32) = iv 2 from rfl, iv_mod (by omega) (by omega), show (1 : Int32) = iv 1 from rfl, iv_sub]
  congr 1
  omega
theorem e11 {m t : Nat} (hP : Pur K F x m (t + 1)) (ht : t < 50) (hm : m < 50) {f gone b : Nat} (hf : 2 * m + 7 ≤ f) (h : JR c x K F) (h33 : c 33 0 1 = iv ((t + 1 + m : Nat) : Int)) (hb : b < nB K) (hG : ∀ k, k < 4 → Gn gone (mvRow K row (4 * b + k))) (hw : ∀ w ∈ wds row, w < nW K) : E f 11 [vr 33 0, vi (iv (b : Nat)), vi (iv (t : Nat)), vi (iv (encO K (hearA K F (wds row)))), vi (iv (gone : Nat))] (c, l, x, y) = some (some (vi (iv (if ((List.range' (4 * b) (sayK K b).length).find? (fun i => valG K F m (t + 1) (mvRow K row i) == 1 - t % 2)).isSome then 1 else 0))), mkC c t ((List.range' (4 * b) (sayK K b).length).find? (fun i => valG K F m (t + 1) (mvRow K row i) == 1 - t % 2)), l, x, y) := by
  have hn := h.2.1.2.2.2.1.1
  have hv := h.2.1.2.2.2.1.2 b hb
  have hWO := WO_hearA (F := F) h.2.1 _ hw
  obtain ⟨g, rfl⟩ : ∃ g, f = g + 1 := ⟨f - 1, by omega⟩
  obtain ⟨g4, hg4⟩ : ∃ g4, g = g4 + 4 := ⟨g - 4, by omega⟩
  have key : ∀ (j k : Nat), k + j = (sayK K b).length → X (g + 1) 11 9 [some (vr 33 0), some (vi (iv (b : Nat))), some (vi (iv (t : Nat))), some (vi (iv (encO K (hearA K F (wds row))))), some (vi (iv (gone : Nat))), some (vr 18 (b + x * 7)), some (vi (iv (k : Nat)))] [] (c, l, x, y) = some (some (vi (iv (if ((List.range' (4 * b + k) j).find? (fun i => valG K F m (t + 1) (mvRow K row i) == 1 - t % 2)).isSome then 1 else 0))), mkC c t ((List.range' (4 * b + k) j).find? (fun i => valG K F m (t + 1) (mvRow K row i) == 1 - t % 2)), l, x, y) := by
    intro j
    induction j with
    | zero =>
      intro k hk
      rw [q_11_9]
      simp (disch := omega) only [iv_add, iv_sub, iv_mul, iv_neg, iv_lt, iv_le, iv_eq, iv_nat, iv_L, iv_L2, am_bi_v, am_bv_v, am_bl_v, if_pos, if_neg, Int.toNat_natCast, Int.toNat_add, Int.toNat_mul, Int.reduceToNat, (h.1.2.2.2.1.2 b hb).1]
      rfl
    | succ j ih =>
      intro k hk
      have hk4 : k < 4 := by omega
      have hwk := say_lt h.2.1 hb _ (getD_mem (show k < (sayK K b).length by omega))
      have h40 := e40 (l := l) (y := y) h hWO hwk g4
      rw [← hg4, ← hearA_snoc, ← mvRow_wds b k hk4] at h40
      have hp := hP g gone (mvRow K row (4 * b + k)) c l y (by omega) h h33 (hG k hk4) (by
        rw [mvRow_wds b k hk4]
        intro w q
        rcases List.mem_append.mp q with q | q
        · exact hw w q
        · rw [List.mem_singleton.mp q]; exact hwk)
      have hle := valG_le (K := K) (F := F) m (t + 1) (mvRow K row (4 * b + k))
      rw [q_11_9, wish_iv t (by omega)]
      simp (disch := omega) only [iv_add, iv_sub, iv_mul, iv_neg, iv_lt, iv_le, iv_eq, iv_nat, iv_L, iv_L2, am_bi_v, am_bv_v, am_bl_v, if_pos, if_neg, Int.toNat_natCast, Int.toNat_add, Int.toNat_mul, Int.reduceToNat, (h.1.2.2.2.1.2 b hb).1, (h.1.2.2.2.1.2 b hb).2.2.2.2 k (show k < (sayK K b).length by omega)]
      rw [h40]
      simp only [am_bi_v]
      rw [show ((t : Int) + 1) = ((t + 1 : Nat) : Int) by omega, hp]
      simp (disch := omega) only [iv_add, iv_sub, iv_mul, iv_neg, iv_lt, iv_le, iv_eq, iv_nat, iv_L, iv_L2, am_bi_v, am_bv_v, am_bl_v, if_pos, if_neg, Int.toNat_natCast, Int.toNat_add, Int.toNat_mul, Int.reduceToNat]
      rw [List.range'_succ, List.find?_cons]
      by_cases e : valG K F m (t + 1) (mvRow K row (4 * b + k)) = 1 - t % 2
      · rw [if_pos (by omega), show (valG K F m (t + 1) (mvRow K row (4 * b + k)) == 1 - t % 2) = true from beq_iff_eq.mpr e]
        dsimp only
        unfold mkC
        dsimp only
        rw [show (4 * b + k) / 4 = b by omega, show (4 * b + k) % 4 = k by omega]
        by_cases e0 : t = 0
        · rw [if_pos (by omega), if_pos e0]; rfl
        · rw [if_neg (by omega), if_neg e0]; rfl
      · rw [if_neg (by omega), show (valG K F m (t + 1) (mvRow K row (4 * b + k)) == 1 - t % 2) = false from beq_eq_false_iff_ne.mpr e]
        exact ih (k + 1) (by omega)
  rw [q_11]
  simp (disch := omega) only [iv_add, iv_sub, iv_mul, iv_neg, iv_lt, iv_le, iv_eq, iv_nat, iv_L, iv_L2, am_bi_v, am_bv_v, am_bl_v, if_pos, if_neg, Int.toNat_natCast, Int.toNat_add, Int.toNat_mul, Int.reduceToNat]
  exact key (sayK K b).length 0 (Nat.zero_add _)

theorem par2 (t : Nat) (ht : t < 100) : iv (t : Int) - iv (t : Int) / iv 2 * iv 2 = iv ((t % 2 : Nat) : Int) := by
  rw [iv_mod (by omega) (by omega)]
  congr 1
theorem or_iv {a b : Nat} (ha : a < 128) (hb : b < 7) : iv (a : Int) ||| (iv 1 <<< (iv (b : Int) &&& iv 31)) = iv ((a ||| 2 ^ b : Nat) : Int) := by
  have h2b : 2 ^ b < 2 ^ 7 := Nat.pow_lt_pow_right (by decide) hb
  have e : (2 : Nat) ^ 7 = 128 := rfl
  rw [e] at h2b
  rw [shl1 b (by omega)]
  generalize 2 ^ b = q at h2b ⊢
  rw [iv_or (by omega) (by omega)]
  rfl
theorem find4 (b n : Nat) (s : Bool) (ok Q : Nat → Bool) (hn : n ≤ 4) (h : ∀ k, k < 4 → ok (4 * b + k) = (decide (k < n) && s)) : (List.range' (4 * b) 4).find? (fun i => ok i && Q i) = if s then (List.range' (4 * b) n).find? Q else none := by
  have h0 := h 0 (by decide)
  have h1 := h 1 (by decide)
  have h2 := h 2 (by decide)
  have h3 := h 3 (by decide)
  rw [Nat.add_zero] at h0
  rcases (show n = 0 ∨ n = 1 ∨ n = 2 ∨ n = 3 ∨ n = 4 by omega) with rfl | rfl | rfl | rfl | rfl <;> cases s <;> simp [List.range', List.find?_cons, h0, h1, h2, h3, Nat.add_assoc]
theorem mvOK_at (K : Ct) (t : Nat) (row : List (Nat × Nat)) (b k : Nat) (hk : k < 4) : mvOK K t row (4 * b + k) = (decide (k < (sayK K b).length) && (decide ((bnK K b).2.2.1 = t % 2) && !((whs row).contains b))) := by
  unfold mvOK
  rw [show (4 * b + k) / 4 = b by omega, show (4 * b + k) % 4 = k by omega]
theorem rng4 (b j : Nat) : List.range' (4 * b) (4 * (j + 1)) = List.range' (4 * b) 4 ++ List.range' (4 * (b + 1)) (4 * j) := by
  rw [show 4 * (j + 1) = 4 + 4 * j by omega, show 4 * (b + 1) = 4 * b + 4 by omega, List.range'_append_1]
theorem Gn_add {gone b : Nat} (h : Gn gone row) (hb : b < 7) (k : Nat) (hk : k < 4) : Gn (gone ||| 2 ^ b) (mvRow K row (4 * b + k)) := by
  refine ⟨Nat.or_lt_two_pow (n := 7) h.1 (Nat.pow_lt_pow_right (by decide) hb), ?_⟩
  intro j hj
  rw [Nat.testBit_or, h.2 j hj, mvRow_whs b k hk, Nat.testBit_two_pow]
  rw [Bool.eq_iff_iff]
  simp only [Bool.or_eq_true, List.contains_iff_mem, List.mem_append, List.mem_singleton, decide_eq_true_eq]
  constructor
  · rintro (q | q)
    · exact Or.inl q
    · exact Or.inr q.symm
  · rintro (q | q)
    · exact Or.inl q
    · exact Or.inr q.symm
/-- one turn -/
theorem e10s {m t : Nat} (hP : Pur K F x m (t + 1)) (ht : t < 50) (hm : m < 50) {f gone : Nat} (hf : 2 * m + 8 ≤ f) (h : JR c x K F) (h33 : c 33 0 1 = iv ((t + 1 + m : Nat) : Int)) (hG : Gn gone row) (hw : ∀ w ∈ wds row, w < nW K) : E f 10 [vr 33 0, vi (iv (t : Nat)), vi (iv (encO K (hearA K F (wds row)))), vi (iv (gone : Nat))] (c, l, x, y) = some (some (vi (iv (valG K F (m + 1) t row : Nat))), mkC c t (fstG K F (m + 1) t row), l, x, y) := by
  have hn := h.2.1.2.2.2.1.1
  obtain ⟨g, rfl⟩ : ∃ g, f = g + 1 := ⟨f - 1, by omega⟩
  have hg1 := hG.1
  have key : ∀ (j b : Nat), b + j = nB K → X (g + 1) 10 35 [some (vr 33 0), some (vi (iv (t : Nat))), some (vi (iv (encO K (hearA K F (wds row))))), some (vi (iv (gone : Nat))), some (vi (iv ((t % 2 : Nat) : Int))), some (vi (iv ((1 - t % 2 : Nat) : Int))), some (vi (iv (b : Nat)))] [] (c, l, x, y) = some (some (vi (iv (if ((List.range' (4 * b) (4 * j)).find? (fun i => mvOK K t row i && valG K F m (t + 1) (mvRow K row i) == 1 - t % 2)).isSome then ((1 - t % 2 : Nat) : Int) else ((t % 2 : Nat) : Int)))), mkC c t ((List.range' (4 * b) (4 * j)).find? (fun i => mvOK K t row i && valG K F m (t + 1) (mvRow K row i) == 1 - t % 2)), l, x, y) := by
    intro j
    induction j with
    | zero =>
      intro b hb
      rw [q_10_35]
      simp (disch := omega) only [iv_add, iv_sub, iv_mul, iv_neg, iv_lt, iv_le, iv_eq, iv_nat, iv_L, iv_L2, am_bi_v, am_bv_v, am_bl_v, if_pos, if_neg, Int.toNat_natCast, Int.toNat_add, Int.toNat_mul, Int.reduceToNat, h.1.2.2.2.1.1]
      rw [show List.range' (4 * b) (4 * 0) = [] from rfl, List.find?_nil, Option.isSome_none]
      unfold mkC
      dsimp only
      rw [if_neg (by decide)]
      congr 6
      omega
    | succ j ih =>
      intro b hb
      have hbn : b < nB K := by omega
      have hv := h.2.1.2.2.2.1.2 b hbn
      have hbw := h.1.2.2.2.1.2 b hbn
      have hlen := hv.2.2.2.2.1
      rw [rng4, List.find?_append, find4 b (sayK K b).length (decide ((bnK K b).2.2.1 = t % 2) && !((whs row).contains b)) (mvOK K t row) (fun i => valG K F m (t + 1) (mvRow K row i) == 1 - t % 2) hlen (fun k hk => mvOK_at K t row b k hk)]
      have ih2 := ih (b + 1) (by omega)
      rw [q_10_35]
      have hbit : (iv ((gone : Nat) : Int) >>> (iv ((b : Nat) : Int) &&& iv 31)) &&& iv 1 = iv (if (whs row).contains b then 1 else 0) := by
        rw [iv_m31 (by omega), show ((b : Int) % 32) = (b : Int) by omega, iv_bit (by omega) (by omega), Int.toNat_natCast, Int.toNat_natCast, hG.2 b (by omega)]
      simp (disch := omega) only [iv_add, iv_sub, iv_mul, iv_neg, iv_lt, iv_le, iv_eq, iv_nat, iv_L, iv_L2, am_bi_v, am_bv_v, am_bl_v, if_pos, if_neg, Int.toNat_natCast, Int.toNat_add, Int.toNat_mul, Int.reduceToNat, h.1.2.2.2.1.1, hbw.2.2.2.1]
      rw [hbit]
      by_cases hc : (whs row).contains b = true
      · rw [if_pos hc, if_neg (show ¬ iv 1 = iv 0 by decide), hc, Bool.not_true, Bool.and_false, if_neg Bool.false_ne_true, Option.none_or]
        exact ih2
      · have hc := Bool.eq_false_iff.mpr hc
        rw [hc, if_neg Bool.false_ne_true, if_pos rfl, Bool.not_false, Bool.and_true]
        by_cases hs : (bnK K b).2.2.1 = t % 2
        · rw [if_pos (by omega), if_pos (decide_eq_true hs)]
          rw [or_iv hg1 (show b < 7 by omega), e11 hP ht hm (by omega) h h33 hbn (fun k hk => Gn_add hG (by omega) k hk) hw]
          simp only [am_bi_v]
          cases hq : (List.range' (4 * b) (sayK K b).length).find? (fun i => valG K F m (t + 1) (mvRow K row i) == 1 - t % 2) with
          | none =>
            rw [Option.isSome_none, if_neg (by decide : ¬ false = true), if_pos (by decide), Option.none_or]
            exact ih2
          | some i =>
            rw [Option.isSome_some, if_pos rfl, if_neg (by decide), Option.some_or, Option.isSome_some, if_pos rfl]
        · rw [if_neg (by omega), decide_eq_false hs, if_neg Bool.false_ne_true, Option.none_or]
          exact ih2
  have hp := hP g gone row c l y (by omega) h h33 hG hw
  have hle := valG_le (K := K) (F := F) m (t + 1) row
  have hk := key (nB K) 0 (by omega)
  rw [Nat.mul_zero, ← List.range_eq_range'] at hk
  have hone : iv 1 - iv ((t % 2 : Nat) : Int) = iv ((1 - t % 2 : Nat) : Int) := by rw [iv_sub]; congr 1; omega
  rw [q_10]
  simp (disch := omega) only [iv_L, iv_L2, h33, iv_add]
  rw [par2 t (by omega), hone, if_pos (by rw [iv_lt (by omega) (by omega)]; omega), show ((t : Int) + 1) = ((t + 1 : Nat) : Int) by omega, hp]
  simp (disch := omega) only [am_bi_v, iv_eq]
  rw [valG, fstG]
  by_cases e : valG K F m (t + 1) row = 1 - t % 2
  · rw [if_pos (by omega), if_pos e, if_pos e]
    rfl
  · rw [if_neg (by omega), if_neg e, if_neg e]
    refine hk.trans ?_
    congr 6
    split <;> rfl
theorem pur0 (t : Nat) (ht : t < 100) : Pur K F x 0 t := by
  intro f gone row c l y hf h h33 hG hw
  obtain ⟨g, rfl⟩ : ∃ g, f = g + 5 := ⟨f - 5, by omega⟩
  have h3 := rul_lt K F (wds row)
  have h50 : E (g + 4) 50 [vr 20 0, vi (iv (encO K (hearA K F (wds row))))] (c, l, x, y) = some (some (vi (iv (rul K F (wds row)))), c, l, x, y) := e50 h (WO_hearA h.2.1 _ hw) g
  rw [q_10, h33, if_neg (by rw [iv_lt (by omega) (by omega)]; omega), h50]
  simp (disch := omega) only [am_bi_v, iv_L, iv_eq]
  rw [valG]
  by_cases e : rul K F (wds row) = 1
  · rw [if_pos (by omega), if_pos e]; rfl
  · rw [if_neg (by omega), if_neg e]; rfl
theorem purs : ∀ (m t : Nat), t + m < 50 → 1 ≤ t → Pur K F x m t
  | 0, t, h, _ => pur0 t (by omega)
  | m + 1, t, h, h1 => by
    intro f gone row c l y hf hJ h33 hG hw
    rw [e10s (purs m (t + 1) (by omega) (by omega)) (by omega) (by omega) (by omega) hJ (by rw [h33]; congr 1; omega) hG hw, mkC_pos (by omega)]
/-- n more turns, from turn 0 on -/
theorem e10z {n f gone : Nat} (hn : n < 40) (hf : 2 * n + 8 ≤ f) (h : JR c x K F) (h33 : c 33 0 1 = iv ((n : Nat) : Int)) (hG : Gn gone row) (hw : ∀ w ∈ wds row, w < nW K) : E f 10 [vr 33 0, vi (iv 0), vi (iv (encO K (hearA K F (wds row)))), vi (iv (gone : Nat))] (c, l, x, y) = some (some (vi (iv (valG K F n 0 row : Nat))), mkC c 0 (fstG K F n 0 row), l, x, y) := by
  cases n with
  | zero => exact pur0 0 (by omega) f gone row c l y (by omega) h h33 hG hw
  | succ m => exact e10s (t := 0) (purs m 1 (by omega) (by omega)) (by omega) (by omega) (by omega) h (by rw [h33]; congr 1; omega) hG hw
theorem e79 (h : AC c x y K F row tp n fa fp rf sd oc) (hv : VS K F row tp n fa fp sd oc) (d : Nat) : ∃ g : Nat, E (d + 1) 79 [vr 23 0] (c, l, x, y) = some (some (vi (iv (g : Nat))), c, l, x, y) ∧ Gn g row := by
  have h7 := row7 hv
  have hwl := whs_lt hv
  have key : ∀ (m i g : Nat), i + m = row.length → g < 128 → (∀ b, b < 7 → g.testBit b = ((whs row).take i).contains b) → ∃ g2 : Nat, X (d + 1) 79 4 [some (vr 23 0), some (vi (iv (g : Nat))), some (vi (iv (i : Nat)))] [] (c, l, x, y) = some (some (vi (iv (g2 : Nat))), c, l, x, y) ∧ Gn g2 row := by
    intro m
    induction m with
    | zero =>
      intro i g hi hg hb
      refine ⟨g, ?_, hg, ?_⟩
      · rw [q_79_4]
        simp (disch := omega) only [iv_add, iv_sub, iv_mul, iv_neg, iv_lt, iv_le, iv_eq, iv_nat, iv_L, iv_L2, am_bi_v, am_bv_v, am_bl_v, if_pos, if_neg, Int.toNat_natCast, Int.toNat_add, Int.toNat_mul, Int.reduceToNat, h.2.2.1.1]
      · intro b hb2
        rw [hb b hb2, List.take_of_length_le (by rw [whs_len]; omega)]
    | succ m ih =>
      intro i g hi hg hb
      have hil : i < (whs row).length := by rw [whs_len]; omega
      have hwi := hwl _ (getD_mem hil)
      obtain ⟨g2, k1, k2⟩ := ih (i + 1) (g ||| 2 ^ ((whs row).getD i 0)) (by omega) (Nat.or_lt_two_pow (n := 7) hg (Nat.pow_lt_pow_right (by decide) hwi)) (by
        intro b hb2
        rw [Nat.testBit_or, hb b hb2, take_succ_getD hil, Nat.testBit_two_pow, Bool.eq_iff_iff]
        simp only [Bool.or_eq_true, List.contains_iff_mem, List.mem_append, List.mem_singleton, decide_eq_true_eq]
        constructor
        · rintro (q | q)
          · exact Or.inl q
          · exact Or.inr q.symm
        · rintro (q | q)
          · exact Or.inl q
          · exact Or.inr q.symm)
      refine ⟨g2, ?_, k2⟩
      rw [q_79_4]
      simp (disch := omega) only [iv_add, iv_sub, iv_mul, iv_neg, iv_lt, iv_le, iv_eq, iv_nat, iv_L, iv_L2, am_bi_v, am_bv_v, am_bl_v, if_pos, if_neg, Int.toNat_natCast, Int.toNat_add, Int.toNat_mul, Int.reduceToNat, h.2.2.1.1, h.2.2.1.2.2 i hil]
      rw [or_iv hg hwi, show ((i : Int) + 1) = ((i + 1 : Nat) : Int) by omega]
      exact k1
  obtain ⟨g2, k1, k2⟩ := key row.length 0 0 (by omega) (by decide) (fun b _ => by rw [List.take_zero, Nat.zero_testBit]; rfl)
  exact ⟨g2, by rw [q_79]; exact k1, k2⟩
/-- the contest, as it is told -/
def gamS (K : Ct) (F : Nat) (row : List (Nat × Nat)) (n what : Int) : Int := if (0 ≤ n ∧ n ≤ 3) ∧ 0 ≤ what ∧ what ≤ 2 then (if what = 0 then ((valG K F n.toNat 0 row : Nat) : Int) else match fstG K F n.toNat 0 row with
    | some i => if what = 1 then ((i / 4 : Nat) : Int) else ((i % 4 : Nat) : Int)
    | none => -1) else -2
theorem k129 (h : AC c x y K F row tp n fa fp rf sd oc) (hv : VS K F row tp n fa fp sd oc) {u z : Int} (hu : -2147483648 ≤ u ∧ u < 2147483648) (hz : -2147483648 ≤ z ∧ z < 2147483648) (d : Nat) : ∃ c2 : Nat → Nat → Nat → Int32, E (d + 17) 129 [vr 0 0, vi (iv u), vi (iv z)] (c, l, x, y) = some (some (vi (iv (gamS K F row u z))), c2, l, x, y) ∧ ∀ k, k ≠ 33 → c2 k = c k := by
  unfold gamS
  by_cases hin : (0 ≤ u ∧ u ≤ 3) ∧ 0 ≤ z ∧ z ≤ 2
  · rw [if_pos hin]
    obtain ⟨m, rfl⟩ := Int.eq_ofNat_of_zero_le hin.1.1
    obtain ⟨g, g1, g2⟩ := e79 (l := l) h hv (d + 15)
    have hst := k120 (l := l) h hv (d + 10)
    have hc1 : JR (am_ui (am_ui (am_ui c 33 0 1 (iv (m : Nat))) 33 0 2 (-1)) 33 0 3 (-1)) x K F := JR_fr h.1 (fun k _ _ => by rw [ui_nk _ _ _ _ (by omega), ui_nk _ _ _ _ (by omega), ui_nk _ _ _ _ (by omega)])
    have h10 := e10z (l := l) (y := y) (n := m) (f := d + 15) (row := row) (gone := g) (by omega) (by omega) hc1 (by rw [ui_ne _ _ _ _ (by omega), ui_ne _ _ _ _ (by omega), ui_self]) g2 (wds_lt hv)
    refine ⟨mkC (am_ui (am_ui (am_ui c 33 0 1 (iv (m : Nat))) 33 0 2 (-1)) 33 0 3 (-1)) 0 (fstG K F m 0 row), ?_, ?_⟩
    · rw [q_129]
      simp (disch := omega) only [iv_L, iv_L2, iv_lt, if_neg]
      rw [hst]
      simp only [am_bi_v]
      rw [g1]
      simp only [am_bi_v]
      rw [q_9]
      simp only [iv_L, iv_L2] at h10 ⊢
      rw [h10]
      simp (disch := omega) only [am_bi_v, iv_eq, Int.toNat_natCast]
      rcases (show z = 0 ∨ z = 1 ∨ z = 2 by omega) with rfl | rfl | rfl
      · rw [if_pos rfl, if_pos rfl]
      · rw [if_neg (by decide), if_pos rfl, if_neg (by decide)]
        cases fstG K F m 0 row with
        | none =>
          unfold mkC
          dsimp only
          rw [ui_ne _ _ _ _ (by omega), ui_self]
          rfl
        | some i =>
          unfold mkC
          dsimp only
          rw [if_pos rfl, ui_ne _ _ _ _ (by omega), ui_self]
          rfl
      · rw [if_neg (by decide), if_neg (by decide), if_neg (by decide)]
        cases fstG K F m 0 row with
        | none =>
          unfold mkC
          dsimp only
          rw [ui_self]
          rfl
        | some i =>
          unfold mkC
          dsimp only
          rw [if_pos rfl, ui_self]
          rfl
    · intro k hk
      unfold mkC
      cases fstG K F m 0 row with
      | some i =>
        dsimp only
        rw [if_pos rfl, ui_nk _ _ _ _ hk, ui_nk _ _ _ _ hk, ui_nk _ _ _ _ hk, ui_nk _ _ _ _ hk, ui_nk _ _ _ _ hk]
      | none =>
        dsimp only
        rw [ui_nk _ _ _ _ hk, ui_nk _ _ _ _ hk, ui_nk _ _ _ _ hk]
  · rw [if_neg hin]
    refine ⟨c, ?_, fun _ _ => rfl⟩
    rw [q_129]
    simp (disch := omega) only [iv_L, iv_L2, iv_lt, iv_neg]
    by_cases h1 : u < 0
    · rw [if_pos h1]
    · rw [if_neg h1]
      by_cases h2 : 3 < u
      · rw [if_pos h2]
      · rw [if_neg h2]
        by_cases h3 : z < 0
        · rw [if_pos h3]
        · rw [if_neg h3, if_pos (by omega)]
end
