/-! simple calls of the class -/
def coS (K : Ct) (F : Nat) (row : List (Nat × Nat)) (what : Int) : Int := if what = 0 then nW K else if what = 1 then nL K else if what = 2 then nF K else if what = 3 then nB K else if what = 4 then nC K else if what = 5 then row.length else if what = 6 then F else if what = 7 then kAc K else if what = 8 then kDe K else -1
def cntW (ws : List Nat) (z : Int) : Nat := ws.countP (fun w : Nat => (w : Int) == z)
def letS (s : List Nat) (k : Int) : Int := if 0 ≤ k ∧ k < 6 then (s.getD k.toNat 0 : Nat) else -1
def spkS (K : Ct) (w : Int) : Nat := (List.range (nB K)).countP (fun b => (sayK K b).any (fun v : Nat => (v : Int) == w))
def woS (K : Ct) (row : List (Nat × Nat)) (w what : Int) : Int := if 0 ≤ w ∧ w < nW K then (if what = 0 then knd K w.toNat else if what = 1 then spkS K w else if what = 2 then cntW (wds row) w else letS (spK K w.toNat) (what - 10)) else -1
def atR (ws : List Nat) (z : Int) : Int := oi (ws.findIdx? (fun w : Nat => (w : Int) == z))
def beS (K : Ct) (row : List (Nat × Nat)) (b what : Int) : Int := if 0 ≤ b ∧ b < nB K then (if what = 0 then ((bnK K b.toNat).2.1 : Int) else if what = 1 then ((bnK K b.toNat).2.2.1 : Int) else if what = 2 then ((sayK K b.toNat).length : Int) else if what = 3 then atR (whs row) b else if 10 ≤ what ∧ what < 10 + (sayK K b.toNat).length then ((sayK K b.toNat).getD (what - 10).toNat 0 : Nat) else letS (bnK K b.toNat).1 (what - 20)) else -1
def grS (K : Ct) (i k : Int) : Int := if (0 ≤ i ∧ i < nL K) ∧ 0 ≤ k ∧ k < (lnK K i.toNat).length then ((lnK K i.toNat).getD k.toNat 0 : Nat) else -1
def roS (row : List (Nat × Nat)) (p : Int) (who : Bool) : Int := if 0 ≤ p ∧ p < row.length then (if who then ((whs row).getD p.toNat 0 : Nat) else ((wds row).getD p.toNat 0 : Nat)) else -1
section
variable {c : Nat → Nat → Nat → Int32} {l : Nat → Nat → Int64} {x y : Nat} {K : Ct} {F : Nat} {row : List (Nat × Nat)} {tp : Nat → Nat} {n : Nat} {fa fp : Int} {rf : Nat → Int32} {sd : Int} {oc : List Nat}
theorem k106 (h : AC c x y K F row tp n fa fp rf sd oc) {z : Int} (hz : -2147483648 ≤ z ∧ z < 2147483648) (d : Nat) : E (d + 1) 106 [vr 0 0, vi (iv z)] (c, l, x, y) = some (some (vi (iv (if z = 0 then fa else if z = 1 then fp else -1))), c, l, x, y) := by
  rw [q_106, h.2.2.2.2.1.2.1, h.2.2.2.2.1.2.2.1]
  simp (disch := omega) only [iv_L, iv_neg, iv_eq]
  by_cases e : z = 0
  · simp only [if_pos e]
  · by_cases e1 : z = 1
    · simp only [if_neg e, if_pos e1]
    · simp only [if_neg e, if_neg e1]
theorem k107 (h : AC c x y K F row tp n fa fp rf sd oc) {z : Int} (hz : -2147483648 ≤ z ∧ z < 2147483648) (d : Nat) : E (d + 1) 107 [vr 0 0, vi (iv z)] (c, l, x, y) = some (some (vi (iv (coS K F row z))), c, l, x, y) := by
  have hc := h.1.1
  rw [q_107, hc.1.1, hc.2.1.1, hc.2.2.1.1, hc.2.2.2.1.1, hc.2.2.2.2.1.1, hc.2.2.2.2.2.1, hc.2.2.2.2.2.2, h.2.2.1.1, h.1.2.2.2.1]
  simp (disch := omega) only [iv_L, iv_neg, iv_eq]
  unfold coS
  by_cases e0 : z = 0
  · simp only [if_pos e0]
  by_cases e1 : z = 1
  · simp only [if_neg e0, if_pos e1]
  by_cases e2 : z = 2
  · simp only [if_neg e0, if_neg e1, if_pos e2]
  by_cases e3 : z = 3
  · simp only [if_neg e0, if_neg e1, if_neg e2, if_pos e3]
  by_cases e4 : z = 4
  · simp only [if_neg e0, if_neg e1, if_neg e2, if_neg e3, if_pos e4]
  by_cases e5 : z = 5
  · simp only [if_neg e0, if_neg e1, if_neg e2, if_neg e3, if_neg e4, if_pos e5]
  by_cases e6 : z = 6
  · simp only [if_neg e0, if_neg e1, if_neg e2, if_neg e3, if_neg e4, if_neg e5, if_pos e6]
  by_cases e7 : z = 7
  · simp only [if_neg e0, if_neg e1, if_neg e2, if_neg e3, if_neg e4, if_neg e5, if_neg e6, if_pos e7]
  by_cases e8 : z = 8
  · simp only [if_neg e0, if_neg e1, if_neg e2, if_neg e3, if_neg e4, if_neg e5, if_neg e6, if_neg e7, if_pos e8]
  · simp only [if_neg e0, if_neg e1, if_neg e2, if_neg e3, if_neg e4, if_neg e5, if_neg e6, if_neg e7, if_neg e8]
/-- how often a number is in a row -/
theorem e104 {kd ki : Nat} (hkd : kd = 24 ∨ kd = 19 ∨ kd = 47 ∨ kd = 45 ∨ kd = 16) {ws : List Nat} (hr : RowAt c kd ki ws) (hl : ws.length ≤ (af kd).2) (hw : ∀ w ∈ ws, w < 1000) {z : Int} (hz : -2147483648 ≤ z ∧ z < 2147483648) (d : Nat) : E (d + 1) 104 [vr kd ki, vi (iv ws.length), vi (iv z)] (c, l, x, y) = some (some (vi (iv (cntW ws z))), c, l, x, y) := by
  have hl8 : (af kd).2 ≤ 8 := by rcases hkd with rfl | rfl | rfl | rfl | rfl <;> decide
  have haf : Int32.ofNat (af kd).2 = iv ((af kd).2 : Int) := by rcases hkd with rfl | rfl | rfl | rfl | rfl <;> rfl
  have key : ∀ (n i v : Nat), i + n = ws.length → v ≤ i → X (d + 1) 104 4 [some (vr kd ki), some (vi (iv ws.length)), some (vi (iv z)), some (vi (iv (v : Nat))), some (vi (iv (i : Nat)))] [] (c, l, x, y) = some (some (vi (iv ((v + cntW (ws.drop i) z : Nat) : Int))), c, l, x, y) := by
    intro n
    induction n with
    | zero =>
      intro i v hi hv
      rw [q_104_4 hkd]
      simp (disch := omega) only [iv_add, iv_sub, iv_mul, iv_neg, iv_lt, iv_le, iv_eq, iv_nat, iv_L, iv_L2, am_bi_v, am_bv_v, am_bl_v, if_pos, if_neg, Int.toNat_natCast, Int.toNat_add, Int.toNat_mul, Int.reduceToNat]
      rw [List.drop_of_length_le (by omega)]
      rfl
    | succ n ih =>
      intro i v hi hv
      have hil : i < ws.length := by omega
      have hm := hw _ (getD_mem hil)
      rw [q_104_4 hkd, haf]
      simp (disch := omega) only [iv_add, iv_sub, iv_mul, iv_neg, iv_lt, iv_le, iv_eq, iv_nat, iv_L, iv_L2, am_bi_v, am_bv_v, am_bl_v, if_pos, if_neg, Int.toNat_natCast, Int.toNat_add, Int.toNat_mul, Int.reduceToNat, hr i hil]
      rw [drop_getD hil, show ((i : Int) + 1) = ((i + 1 : Nat) : Int) by omega]
      unfold cntW
      rw [List.countP_cons]
      by_cases e : ((ws.getD i 0 : Nat) : Int) = z
      · rw [if_pos e, show ((v : Int) + 1) = ((v + 1 : Nat) : Int) by omega, ih (i + 1) (v + 1) (by omega) (by omega)]
        unfold cntW
        rw [show (((ws.getD i 0 : Nat) : Int) == z) = true by simpa using e, if_pos rfl]
        congr 5
        omega
      · rw [if_neg e, show ((v : Int) + 0) = ((v : Nat) : Int) by omega, ih (i + 1) v (by omega) (by omega)]
        unfold cntW
        rw [show (((ws.getD i 0 : Nat) : Int) == z) = false by simpa using e, if_neg (by simp)]
        rfl
  rw [q_104 hkd]
  refine (key ws.length 0 0 (by omega) (Nat.le_refl _)).trans ?_
  rw [List.drop_zero, Nat.zero_add]
theorem cntW_pos (ws : List Nat) (z : Int) : 0 < cntW ws z ↔ (ws.any (fun v : Nat => (v : Int) == z)) = true := by
  unfold cntW
  rw [List.countP_pos_iff, List.any_eq_true]
theorem say_row (h : JR c x K F) {b : Nat} (hb : b < nB K) : RowAt c 19 (b + x * 7) (sayK K b) := (h.1.2.2.2.1.2 b hb).2.2.2.2
theorem say_lt (hK : VK K) {b : Nat} (hb : b < nB K) : ∀ w ∈ sayK K b, w < nW K := (hK.2.2.2.1.2 b hb).2.2.2.2.2.2
theorem e100 (h : JR c x K F) {b : Nat} (hb : b < nB K) {z : Int} (hz : -2147483648 ≤ z ∧ z < 2147483648) (d : Nat) : E (d + 2) 100 [vr 18 (b + x * 7), vi (iv z)] (c, l, x, y) = some (some (vi (iv (if (sayK K b).any (fun v : Nat => (v : Int) == z) then 1 else 0))), c, l, x, y) := by
  have hv := h.2.1.2.2.2.1.2 b hb
  have h20 := h.2.1.1.1
  rw [q_100, (h.1.2.2.2.1.2 b hb).1, e104 (Or.inr (Or.inl rfl)) (say_row h hb) hv.2.2.2.2.1 (fun w q => by have := hv.2.2.2.2.2.2 w q; omega) hz]
  have hcl : cntW (sayK K b) z ≤ (sayK K b).length := List.countP_le_length
  simp (disch := omega) only [am_bi_v, iv_L, iv_lt]
  by_cases e : 0 < cntW (sayK K b) z
  · rw [if_pos (by omega), if_pos ((cntW_pos _ _).mp e)]
  · rw [if_neg (by omega), if_neg (fun q => e ((cntW_pos _ _).mpr q))]
theorem e18 (h : JR c x K F) {z : Int} (hz : -2147483648 ≤ z ∧ z < 2147483648) (d : Nat) : E (d + 3) 18 [vr 4 x, vi (iv z)] (c, l, x, y) = some (some (vi (iv (spkS K z))), c, l, x, y) := by
  have hn := h.2.1.2.2.2.1.1
  have key : ∀ (n i v : Nat), i + n = nB K → v ≤ i → X (d + 3) 18 4 [some (vr 4 x), some (vi (iv z)), some (vi (iv (v : Nat))), some (vi (iv (i : Nat)))] [] (c, l, x, y) = some (some (vi (iv ((v + (List.range' i n).countP (fun b => (sayK K b).any (fun v : Nat => (v : Int) == z)) : Nat) : Int))), c, l, x, y) := by
    intro n
    induction n with
    | zero =>
      intro i v hi hv
      rw [q_18_4]
      simp (disch := omega) only [iv_add, iv_sub, iv_mul, iv_neg, iv_lt, iv_le, iv_eq, iv_nat, iv_L, iv_L2, am_bi_v, am_bv_v, am_bl_v, if_pos, if_neg, Int.toNat_natCast, Int.toNat_add, Int.toNat_mul, Int.reduceToNat, h.1.2.2.2.1.1]
      rfl
    | succ n ih =>
      intro i v hi hv
      rw [q_18_4]
      simp (disch := omega) only [iv_add, iv_sub, iv_mul, iv_neg, iv_lt, iv_le, iv_eq, iv_nat, iv_L, iv_L2, am_bi_v, am_bv_v, am_bl_v, if_pos, if_neg, Int.toNat_natCast, Int.toNat_add, Int.toNat_mul, Int.reduceToNat, h.1.2.2.2.1.1, e100 h (show i < nB K by omega) hz]
      rw [List.range'_succ, List.countP_cons, show ((i : Int) + 1) = ((i + 1 : Nat) : Int) by omega]
      cases e : (sayK K i).any (fun v : Nat => (v : Int) == z) with
      | true =>
        rw [if_neg (by simp), show ((v : Int) + 1) = ((v + 1 : Nat) : Int) by omega, ih (i + 1) (v + 1) (by omega) (by omega), if_pos rfl]
        congr 5
        omega
      | false =>
        rw [if_pos (by simp), show ((v : Int) + 0) = ((v : Nat) : Int) by omega, ih (i + 1) v (by omega) (by omega), if_neg (by simp)]
        rfl
  rw [q_18]
  refine (key (nB K) 0 0 (by omega) (Nat.le_refl _)).trans ?_
  unfold spkS
  rw [Nat.zero_add, ← List.range_eq_range']
theorem e5_at {s : List Nat} (h : isSp s) : ∀ k, k < 6 → e5 s / 2 ^ (5 * (5 - k)) % 32 = s.getD k 0 := by
  have h0 : ∀ k, s.getD k 0 < 32 := fun k => getD_lt (by decide) (fun a q => by have := h.2.2 a q; omega)
  have e : e5 s = ((((((32 * 0 + s.getD 0 0) * 32 + s.getD 1 0) * 32 + s.getD 2 0) * 32 + s.getD 3 0) * 32 + s.getD 4 0) * 32 + s.getD 5 0) := by
    show 32 * (32 * (32 * (32 * (32 * (32 * 0 + s.getD 0 0) + s.getD 1 0) + s.getD 2 0) + s.getD 3 0) + s.getD 4 0) + s.getD 5 0 = _
    omega
  have a0 := h0 0; have a1 := h0 1; have a2 := h0 2; have a3 := h0 3; have a4 := h0 4; have a5 := h0 5
  intro k hk
  rcases (show k = 0 ∨ k = 1 ∨ k = 2 ∨ k = 3 ∨ k = 4 ∨ k = 5 by omega) with rfl | rfl | rfl | rfl | rfl | rfl
  · show e5 s / 33554432 % 32 = _; omega
  · show e5 s / 1048576 % 32 = _; omega
  · show e5 s / 32768 % 32 = _; omega
  · show e5 s / 1024 % 32 = _; omega
  · show e5 s / 32 % 32 = _; omega
  · show e5 s / 1 % 32 = _; omega
theorem e5_lt {s : List Nat} (h : isSp s) : e5 s < 1073741824 := by
  have h0 : ∀ k, s.getD k 0 < 32 := fun k => getD_lt (by decide) (fun a q => by have := h.2.2 a q; omega)
  have e : e5 s = ((((((32 * 0 + s.getD 0 0) * 32 + s.getD 1 0) * 32 + s.getD 2 0) * 32 + s.getD 3 0) * 32 + s.getD 4 0) * 32 + s.getD 5 0) := by
    show 32 * (32 * (32 * (32 * (32 * (32 * 0 + s.getD 0 0) + s.getD 1 0) + s.getD 2 0) + s.getD 3 0) + s.getD 4 0) + s.getD 5 0 = _
    omega
  have a0 := h0 0; have a1 := h0 1; have a2 := h0 2; have a3 := h0 3; have a4 := h0 4; have a5 := h0 5
  omega
theorem e109 {s : List Nat} (h : isSp s) {z b : Int} (hz : -2147483648 ≤ z ∧ z < 2147483648) (hb : 0 ≤ b ∧ b < 100) (d : Nat) : E (d + 1) 109 [vi (iv (e5 s)), vi (iv z), vi (iv b)] (c, l, x, y) = some (some (vi (iv (letS s (z - b)))), c, l, x, y) := by
  have hl := e5_lt h
  rw [q_109]
  unfold letS
  by_cases e1 : z < b
  · simp (disch := omega) only [iv_add, iv_sub, iv_mul, iv_neg, iv_lt, iv_le, iv_eq, iv_nat, iv_L, iv_L2, am_bi_v, am_bv_v, am_bl_v, if_pos, if_neg, Int.toNat_natCast, Int.toNat_add, Int.toNat_mul, Int.reduceToNat]
  · by_cases e2 : z < b + 6
    · rw [if_pos (show 0 ≤ z - b ∧ z - b < 6 by omega)]
      simp (disch := omega) only [iv_L, iv_L2, iv_lt, iv_add, iv_sub, iv_mul, if_pos, if_neg, iv_m31]
      obtain ⟨k, hk⟩ := Int.eq_ofNat_of_zero_le (show 0 ≤ z - b by omega)
      have hk6 : k < 6 := by omega
      rw [hk, show (5 * (5 - (k : Int)) % 32) = ((5 * (5 - k) : Nat) : Int) by omega, iv_shr (by omega) (by omega), iv_m31, Int.toNat_natCast]
      · rw [← Int.natCast_ediv, show ((e5 s / 2 ^ (5 * (5 - k)) : Nat) : Int) % 32 = ((e5 s / 2 ^ (5 * (5 - k)) % 32 : Nat) : Int) by omega, e5_at h k hk6]
        rfl
      · rw [Int.toNat_natCast, ← Int.natCast_ediv]
        have := Nat.div_le_self (e5 s) (2 ^ (5 * (5 - k)))
        generalize e5 s / 2 ^ (5 * (5 - k)) = q at this ⊢
        omega
    · rw [if_neg (show ¬ (0 ≤ z - b ∧ z - b < 6) by omega)]
      simp (disch := omega) only [iv_add, iv_sub, iv_mul, iv_neg, iv_lt, iv_le, iv_eq, iv_nat, iv_L, iv_L2, am_bi_v, am_bv_v, am_bl_v, if_pos, if_neg, Int.toNat_natCast, Int.toNat_add, Int.toNat_mul, Int.reduceToNat]
theorem k108 (h : AC c x y K F row tp n fa fp rf sd oc) (hv : VS K F row tp n fa fp sd oc) {w z : Int} (hw : -2147483648 ≤ w ∧ w < 2147483648) (hz : -2147483648 ≤ z ∧ z < 2147483648) (d : Nat) : E (d + 4) 108 [vr 0 0, vi (iv w), vi (iv z)] (c, l, x, y) = some (some (vi (iv (woS K row w z))), c, l, x, y) := by
  have h20 := hv.1.1.1
  have h7 := row7 hv
  rw [q_108, h.1.1.1.1]
  unfold woS
  by_cases e0 : 0 ≤ w
  · by_cases e1 : w < nW K
    · rw [if_pos (show 0 ≤ w ∧ w < nW K from ⟨e0, e1⟩)]
      obtain ⟨k, rfl⟩ := Int.eq_ofNat_of_zero_le e0
      have hk : k < nW K := by omega
      have hw1 := hv.1.1.2 k hk
      have hcell := h.1.1.1.2 k hk
      simp (disch := omega) only [iv_add, iv_sub, iv_mul, iv_neg, iv_lt, iv_le, iv_eq, iv_nat, iv_L, iv_L2, am_bi_v, am_bv_v, am_bl_v, if_pos, if_neg, Int.toNat_natCast, Int.toNat_add, Int.toNat_mul, Int.reduceToNat, Int.ofNat_eq_natCast, hcell.1, hcell.2, e18 h.1 hw]
      have e4 := e104 (c := c) (l := l) (x := x) (y := y) (kd := 24) (ki := 0) (Or.inl rfl) h.2.2.1.2.1 (by rw [wds_len]; exact h7) (fun w q => by have := wds_lt hv w q; omega) hw (d + 2)
      rw [wds_len] at e4
      rw [h.2.2.1.1]
      by_cases z0 : z = 0
      · simp only [if_pos z0]
      by_cases z1 : z = 1
      · simp only [if_neg z0, if_pos z1]
      by_cases z2 : z = 2
      · simp only [if_neg z0, if_neg z1, if_pos z2]
        rw [e4]
        rfl
      · simp only [if_neg z0, if_neg z1, if_neg z2]
        rw [e109 hw1.1 hz (by omega)]
        rfl
    · rw [if_neg (show ¬ (0 ≤ w ∧ w < nW K) by omega)]
      simp (disch := omega) only [iv_add, iv_sub, iv_mul, iv_neg, iv_lt, iv_le, iv_eq, iv_nat, iv_L, iv_L2, am_bi_v, am_bv_v, am_bl_v, if_pos, if_neg, Int.toNat_natCast, Int.toNat_add, Int.toNat_mul, Int.reduceToNat]
  · rw [if_neg (show ¬ (0 ≤ w ∧ w < nW K) by omega)]
    simp (disch := omega) only [iv_add, iv_sub, iv_mul, iv_neg, iv_lt, iv_le, iv_eq, iv_nat, iv_L, iv_L2, am_bi_v, am_bv_v, am_bl_v, if_pos, if_neg, Int.toNat_natCast, Int.toNat_add, Int.toNat_mul, Int.reduceToNat]
theorem findIdx_range : ∀ (ws : List Nat) (z : Int) (G : Nat → Option mr) (R : Nat → Option mr) (Z : Option mr), (∀ i, i < ws.length → G i = if ((ws.getD i 0 : Nat) : Int) = z then R i else G (i + 1)) → G ws.length = Z → G 0 = match ws.findIdx? (fun w : Nat => (w : Int) == z) with
    | some i => R i
    | none => Z
  | [], z, G, R, Z, _, hz => hz
  | w :: ws, z, G, R, Z, h, hz => by
    rw [List.findIdx?_cons, h 0 (by simp)]
    by_cases e : (w : Int) = z
    · rw [if_pos (show (((w :: ws).getD 0 0 : Nat) : Int) = z from e), show ((w : Int) == z) = true by simpa using e]
      rfl
    · rw [if_neg (show ¬ (((w :: ws).getD 0 0 : Nat) : Int) = z from e), show ((w : Int) == z) = false by simpa using e]
      have := findIdx_range ws z (fun i => G (i + 1)) (fun i => R (i + 1)) Z (fun i hi => h (i + 1) (by rw [List.length_cons]; omega)) hz
      rw [Nat.zero_add] at this ⊢
      rw [this]
      cases ws.findIdx? (fun w : Nat => (w : Int) == z) <;> rfl
theorem e77 {ws : List Nat} (hr : RowAt c 25 0 ws) (hn : c 23 0 3 = iv ws.length) (hl : ws.length ≤ 7) (hw : ∀ w ∈ ws, w < 1000) {z : Int} (hz : -2147483648 ≤ z ∧ z < 2147483648) (d : Nat) : E (d + 1) 77 [vr 23 0, vi (iv z)] (c, l, x, y) = some (some (vi (iv (atR ws z))), c, l, x, y) := by
  rw [q_77]
  refine (findIdx_range ws z (fun i => X (d + 1) 77 2 [some (vr 23 0), some (vi (iv z)), some (vi (iv (i : Nat)))] [] (c, l, x, y)) (fun i => some (some (vi (iv (i : Nat))), c, l, x, y)) (some (some (vi (iv (-1))), c, l, x, y)) ?_ ?_).trans ?_
  · intro i hi
    have hm := hw _ (getD_mem hi)
    rw [q_77_2, hn]
    simp (disch := omega) only [iv_add, iv_sub, iv_mul, iv_neg, iv_lt, iv_le, iv_eq, iv_nat, iv_L, iv_L2, am_bi_v, am_bv_v, am_bl_v, if_pos, if_neg, Int.toNat_natCast, Int.toNat_add, Int.toNat_mul, Int.reduceToNat, hr i hi]
    rfl
  · rw [q_77_2, hn]
    simp (disch := omega) only [iv_add, iv_sub, iv_mul, iv_neg, iv_lt, iv_le, iv_eq, iv_nat, iv_L, iv_L2, am_bi_v, am_bv_v, am_bl_v, if_pos, if_neg, Int.toNat_natCast, Int.toNat_add, Int.toNat_mul, Int.reduceToNat]
  · unfold atR
    cases ws.findIdx? (fun w : Nat => (w : Int) == z) <;> rfl
theorem atR_bd (ws : List Nat) (z : Int) : -1 ≤ atR ws z ∧ atR ws z < ws.length := by
  unfold atR
  cases h : ws.findIdx? (fun w : Nat => (w : Int) == z) with
  | none => exact ⟨by simp [oi], by simp only [oi]; omega⟩
  | some i =>
    have := (List.findIdx?_eq_some_iff_getElem.mp h).1
    exact ⟨by simp only [oi]; omega, by simp only [oi]; omega⟩
theorem e19 (h : JR c x K F) {z : Int} (hz : -2147483648 ≤ z ∧ z < 2147483648) (d : Nat) : E (d + 1) 19 [vr 4 x, vi (iv z)] (c, l, x, y) = some (some (vi (iv (if 0 ≤ z ∧ z < nB K then 1 else 0))), c, l, x, y) := by
  have hn := h.2.1.2.2.2.1.1
  rw [q_19, h.1.2.2.2.1.1]
  simp (disch := omega) only [iv_L, iv_lt]
  by_cases e0 : z < 0
  · rw [if_pos e0, if_neg (by omega)]
  · by_cases e1 : z < nB K
    · rw [if_neg e0, if_pos e1, if_pos (by omega)]
    · rw [if_neg e0, if_neg e1, if_neg (by omega)]
theorem e20 (h : JR c x K F) {z : Int} (hz : -2147483648 ≤ z ∧ z < 2147483648) (d : Nat) : E (d + 1) 20 [vr 4 x, vi (iv z)] (c, l, x, y) = some (some (vi (iv (if 0 ≤ z ∧ z < nL K then 1 else 0))), c, l, x, y) := by
  have hn := h.2.1.2.1.1
  rw [q_20, h.1.2.1.1]
  simp (disch := omega) only [iv_L, iv_lt]
  by_cases e0 : z < 0
  · rw [if_pos e0, if_neg (by omega)]
  · by_cases e1 : z < nL K
    · rw [if_neg e0, if_pos e1, if_pos (by omega)]
    · rw [if_neg e0, if_neg e1, if_neg (by omega)]
theorem whs_lt (hv : VS K F row tp n fa fp sd oc) : ∀ w ∈ whs row, w < 7 := by
  intro w hw
  obtain ⟨p, hp, rfl⟩ := List.mem_map.mp hw
  have h3 := hv.2.2.1.2.2 p hp
  have := hv.1.2.2.2.1.1
  omega
theorem spokeC (h : AC c x y K F row tp n fa fp rf sd oc) (hv : VS K F row tp n fa fp sd oc) {z : Int} (hz : -2147483648 ≤ z ∧ z < 2147483648) (d : Nat) : E (d + 1) 77 [vr 23 0, vi (iv z)] (c, l, x, y) = some (some (vi (iv (atR (whs row) z))), c, l, x, y) :=
  e77 h.2.2.1.2.2 (by rw [whs_len]; exact h.2.2.1.1) (by rw [whs_len]; exact row7 hv) (fun w q => by have := whs_lt hv w q; omega) hz d
theorem k110 (h : AC c x y K F row tp n fa fp rf sd oc) (hv : VS K F row tp n fa fp sd oc) {w z : Int} (hw : -2147483648 ≤ w ∧ w < 2147483648) (hz : -2147483648 ≤ z ∧ z < 2147483648) (d : Nat) : E (d + 2) 110 [vr 0 0, vi (iv w), vi (iv z)] (c, l, x, y) = some (some (vi (iv (beS K row w z))), c, l, x, y) := by
  have h7 := hv.1.2.2.2.1.1
  rw [q_110, e19 h.1 hw]
  unfold beS
  by_cases e : 0 ≤ w ∧ w < nB K
  · rw [if_pos e, if_pos e]
    obtain ⟨k, rfl⟩ := Int.eq_ofNat_of_zero_le e.1
    have hk : k < nB K := by omega
    have hb := hv.1.2.2.2.1.2 k hk
    have hc := h.1.1.2.2.2.1.2 k hk
    simp (disch := omega) only [iv_add, iv_sub, iv_mul, iv_neg, iv_lt, iv_le, iv_eq, iv_nat, iv_L, iv_L2, am_bi_v, am_bv_v, am_bl_v, if_pos, if_neg, Int.toNat_natCast, Int.toNat_add, Int.toNat_mul, Int.reduceToNat, Int.ofNat_eq_natCast, hc.1, hc.2.1, hc.2.2.1, hc.2.2.2.1]
    by_cases z0 : z = 0
    · simp only [if_pos z0]
    by_cases z1 : z = 1
    · simp only [if_neg z0, if_pos z1]
    by_cases z2 : z = 2
    · simp only [if_neg z0, if_neg z1, if_pos z2]
    by_cases z3 : z = 3
    · simp only [if_neg z0, if_neg z1, if_neg z2, if_pos z3]
      rw [spokeC h hv hw]
      rfl
    simp only [if_neg z0, if_neg z1, if_neg z2, if_neg z3]
    by_cases a : z < 10
    · rw [if_pos a, if_neg (by omega), e109 hb.1 hz (by omega)]
      rfl
    · rw [if_neg a]
      by_cases b : z < 10 + ((sayK K k).length : Int)
      · have hq := hc.2.2.2.2 (z - 10).toNat (by omega)
        rw [if_pos b, if_pos (by omega), hq]
      · rw [if_neg b, if_neg (by omega), e109 hb.1 hz (by omega)]
        rfl
  · rw [if_neg e, if_neg e]
    rfl
theorem k111 (h : AC c x y K F row tp n fa fp rf sd oc) {w z : Int} (hw : -2147483648 ≤ w ∧ w < 2147483648) (hz : -2147483648 ≤ z ∧ z < 2147483648) (d : Nat) : E (d + 2) 111 [vr 0 0, vi (iv w), vi (iv z)] (c, l, x, y) = some (some (vi (iv (grS K w z))), c, l, x, y) := by
  have hn := h.1.2.1.2.1.1
  rw [q_111, e20 h.1 hw]
  unfold grS
  by_cases e : 0 ≤ w ∧ w < nL K
  · rw [if_pos e]
    obtain ⟨k, rfl⟩ := Int.eq_ofNat_of_zero_le e.1
    have hk : k < nL K := by omega
    have hs := sl_len _ (h.1.2.1.2.1.2 k hk)
    have hc := h.1.1.2.1.2 k hk
    by_cases e0 : 0 ≤ z
    · obtain ⟨j, rfl⟩ := Int.eq_ofNat_of_zero_le e0
      by_cases e1 : j < (lnK K k).length
      · rw [if_pos (by simp only [Int.ofNat_eq_natCast, Int.toNat_natCast]; omega)]
        simp (disch := omega) only [iv_add, iv_sub, iv_mul, iv_neg, iv_lt, iv_le, iv_eq, iv_nat, iv_L, iv_L2, am_bi_v, am_bv_v, am_bl_v, if_pos, if_neg, Int.toNat_natCast, Int.toNat_add, Int.toNat_mul, Int.reduceToNat, Int.ofNat_eq_natCast, hc.1, hc.2.1 j e1]
      · rw [if_neg (by simp only [Int.ofNat_eq_natCast, Int.toNat_natCast]; omega)]
        simp (disch := omega) only [iv_add, iv_sub, iv_mul, iv_neg, iv_lt, iv_le, iv_eq, iv_nat, iv_L, iv_L2, am_bi_v, am_bv_v, am_bl_v, if_pos, if_neg, Int.toNat_natCast, Int.toNat_add, Int.toNat_mul, Int.reduceToNat, Int.ofNat_eq_natCast, hc.1]
    · rw [if_neg (fun q => e0 q.2.1)]
      simp (disch := omega) only [iv_add, iv_sub, iv_mul, iv_neg, iv_lt, iv_le, iv_eq, iv_nat, iv_L, iv_L2, am_bi_v, am_bv_v, am_bl_v, if_pos, if_neg, Int.toNat_natCast, Int.toNat_add, Int.toNat_mul, Int.reduceToNat]
  · rw [if_neg e, if_neg (fun q => e q.1)]
    rfl
theorem k112 (h : AC c x y K F row tp n fa fp rf sd oc) (hv : VS K F row tp n fa fp sd oc) {p z : Int} (hp : -2147483648 ≤ p ∧ p < 2147483648) (hz : -2147483648 ≤ z ∧ z < 2147483648) (d : Nat) : E (d + 1) 112 [vr 0 0, vi (iv p), vi (iv z)] (c, l, x, y) = some (some (vi (iv (roS row p (decide (z ≠ 0))))), c, l, x, y) := by
  have h7 := row7 hv
  rw [q_112, h.2.2.1.1]
  unfold roS
  by_cases e0 : 0 ≤ p
  · by_cases e1 : p < row.length
    · rw [if_pos (show 0 ≤ p ∧ p < row.length from ⟨e0, e1⟩)]
      obtain ⟨k, rfl⟩ := Int.eq_ofNat_of_zero_le e0
      have hk : k < row.length := by omega
      simp (disch := omega) only [iv_add, iv_sub, iv_mul, iv_neg, iv_lt, iv_le, iv_eq, iv_nat, iv_L, iv_L2, am_bi_v, am_bv_v, am_bl_v, if_pos, if_neg, Int.toNat_natCast, Int.toNat_add, Int.toNat_mul, Int.reduceToNat, Int.ofNat_eq_natCast, h.2.2.1.2.1 k (by rw [wds_len]; exact hk), h.2.2.1.2.2 k (by rw [whs_len]; exact hk)]
      by_cases z0 : z = 0
      · rw [if_pos z0, if_neg (by simp [z0])]
      · rw [if_neg z0, if_pos (by simp [z0])]
    · rw [if_neg (show ¬ (0 ≤ p ∧ p < row.length) by omega)]
      simp (disch := omega) only [iv_add, iv_sub, iv_mul, iv_neg, iv_lt, iv_le, iv_eq, iv_nat, iv_L, iv_L2, am_bi_v, am_bv_v, am_bl_v, if_pos, if_neg, Int.toNat_natCast, Int.toNat_add, Int.toNat_mul, Int.reduceToNat]
  · rw [if_neg (show ¬ (0 ≤ p ∧ p < row.length) by omega)]
    simp (disch := omega) only [iv_add, iv_sub, iv_mul, iv_neg, iv_lt, iv_le, iv_eq, iv_nat, iv_L, iv_L2, am_bi_v, am_bv_v, am_bl_v, if_pos, if_neg, Int.toNat_natCast, Int.toNat_add, Int.toNat_mul, Int.reduceToNat]
end
