/-! the tape is fed -/
/-- byte k of a number, the highest first -/
def byI (z : Int) (k : Nat) : Nat := (z / (2 ^ (8 * (3 - k)) : Nat) % 256).toNat
def put1 (tp : Nat → Nat) (n b : Nat) : Nat → Nat := fun i => if i = n then b else tp i
def pick5 (z1 z2 z3 z4 z5 : Int) (k : Nat) : Int := if k < 4 then z1 else if k < 8 then z2 else if k < 12 then z3 else if k < 16 then z4 else z5
def feedT (tp : Nat → Nat) (n : Nat) (z1 z2 z3 z4 z5 : Int) (m : Nat) : Nat → Nat := (List.range m).foldl (fun t k => put1 t (n + k) (byI (pick5 z1 z2 z3 z4 z5 k) (k % 4))) tp
theorem byI_lt (z : Int) (k : Nat) : byI z k < 256 := by
  unfold byI
  omega
theorem put1_lt {tp : Nat → Nat} (h : ∀ i, tp i < 256) (n b : Nat) (hb : b < 256) : ∀ i, put1 tp n b i < 256 := by
  intro i
  unfold put1
  split
  · exact hb
  · exact h i
theorem feedT_lt {tp : Nat → Nat} (h : ∀ i, tp i < 256) (n : Nat) (z1 z2 z3 z4 z5 : Int) : ∀ m i, feedT tp n z1 z2 z3 z4 z5 m i < 256 := by
  intro m
  induction m with
  | zero => exact h
  | succ m ih =>
    intro i
    unfold feedT
    rw [List.range_succ, List.foldl_append]
    exact put1_lt ih _ _ (byI_lt _ _) i
theorem bv_low (x : Int32) : (x.toBitVec.toNat : Int) = if 0 ≤ x.toInt then x.toInt else x.toInt + 4294967296 := by
  have h : x.toInt = x.toBitVec.toInt := rfl
  rw [h, BitVec.toInt_eq_toNat_cond]
  have := x.toBitVec.isLt
  split <;> split <;> omega
theorem iv_255 (x : Int32) : x &&& iv 255 = iv ((x.toBitVec.toNat % 256 : Nat) : Int) := by
  apply iv_bv2
  rw [Int32.toBitVec_and, iv_bv (by omega)]
  apply BitVec.eq_of_toNat_eq
  rw [BitVec.toNat_and, BitVec.toNat_ofNat, BitVec.toNat_ofNat, show (255 : Int).toNat % 2 ^ 32 = 2 ^ 8 - 1 from rfl, Nat.and_two_pow_sub_one_eq_mod, Nat.mod_eq_of_lt (b := 2 ^ 32)]
  omega
theorem sb_and {b : Nat} (hb : b < 256) : iv (sb b) &&& iv 255 = iv b := by
  have h : (iv (sb b)).toInt = sb b := iv_toInt (by unfold sb; split <;> omega)
  have h2 := bv_low (iv (sb b))
  rw [iv_255]
  congr 1
  rw [h] at h2
  generalize (iv (sb b)).toBitVec.toNat = q at h2 ⊢
  unfold sb at h2
  split at h2 <;> split at h2 <;> omega
theorem byte_sh {z : Int} (hz : -2147483648 ≤ z ∧ z < 2147483648) {k : Nat} (hk : k < 4) : (iv z >>> iv ((8 * (3 - k) : Nat) : Int)) &&& iv 255 = iv (byI z k) := by
  rw [iv_255]
  congr 1
  have hx : (iv z >>> iv ((8 * (3 - k) : Nat) : Int)).toInt = z / (2 ^ (8 * (3 - k)) : Nat) := by
    show (BitVec.sshiftRight' (iv z).toBitVec ((iv ((8 * (3 - k) : Nat) : Int)).toBitVec.smod 32)).toInt = _
    rw [BitVec.sshiftRight_eq', iv_sh (by omega), BitVec.toInt_sshiftRight, Int.shiftRight_eq_div_pow]
    have h1 : (iv z).toBitVec.toInt = z := iv_toInt hz
    rw [h1, Int.toNat_natCast]
  have h2 := bv_low (iv z >>> iv ((8 * (3 - k) : Nat) : Int))
  rw [hx] at h2
  unfold byI
  generalize z / (2 ^ (8 * (3 - k)) : Nat) = q at h2 ⊢
  split at h2 <;> omega
theorem byte_u {z : Int} (hz : -2147483648 ≤ z ∧ z < 2147483648) {k : Nat} (hk : k < 4) : ((((iv z).toUInt32 >>> UInt32.ofNat (8 * (3 - k))).toInt32).toInt8.toInt32) = iv (sb (byI z k)) := by
  have hn : ((iv z).toBitVec.toNat : Int) = if 0 ≤ z then z else z + 4294967296 := by
    have := bv_low (iv z)
    rw [iv_toInt hz] at this
    exact this
  have hq : (((iv z).toUInt32 >>> UInt32.ofNat (8 * (3 - k))).toInt32).toBitVec.toNat = (iv z).toBitVec.toNat / 2 ^ (8 * (3 - k)) := by
    show ((iv z).toUInt32.toBitVec >>> (UInt32.ofNat (8 * (3 - k))).toBitVec.umod 32).toNat = _
    rw [BitVec.ushiftRight_eq', BitVec.toNat_ushiftRight, Nat.shiftRight_eq_div_pow]
    have h2 : ((UInt32.ofNat (8 * (3 - k))).toBitVec.umod 32).toNat = 8 * (3 - k) := by
      have : ∀ k, k < 4 → ((UInt32.ofNat (8 * (3 - k))).toBitVec.umod 32).toNat = 8 * (3 - k) := by decide
      exact this k hk
    rw [h2]
    rfl
  generalize ((iv z).toUInt32 >>> UInt32.ofNat (8 * (3 - k))).toInt32 = v at hq ⊢
  apply Int32.toInt_inj.1
  have hb := byI_lt z k
  rw [Int8.toInt_toInt32, Int32.toInt_toInt8, iv_toInt (by unfold sb; split <;> omega)]
  have hv : v.toInt = v.toBitVec.toInt := rfl
  rw [hv, BitVec.toInt_eq_toNat_bmod, hq]
  have hby : (byI z k : Int) = (((iv z).toBitVec.toNat / 2 ^ (8 * (3 - k)) : Nat) : Int) % 256 := by
    unfold byI
    rcases (show k = 0 ∨ k = 1 ∨ k = 2 ∨ k = 3 by omega) with rfl | rfl | rfl | rfl
    · show ((z / 16777216 % 256).toNat : Int) = ((iv z).toBitVec.toNat / 16777216 : Nat) % 256
      split at hn <;> omega
    · show ((z / 65536 % 256).toNat : Int) = ((iv z).toBitVec.toNat / 65536 : Nat) % 256
      split at hn <;> omega
    · show ((z / 256 % 256).toNat : Int) = ((iv z).toBitVec.toNat / 256 : Nat) % 256
      split at hn <;> omega
    · show ((z / 1 % 256).toNat : Int) = ((iv z).toBitVec.toNat / 1 : Nat) % 256
      split at hn <;> omega
  have hlt : (iv z).toBitVec.toNat / 2 ^ (8 * (3 - k)) < 4294967296 := Nat.lt_of_le_of_lt (Nat.div_le_self _ _) (iv z).toBitVec.isLt
  generalize (iv z).toBitVec.toNat / 2 ^ (8 * (3 - k)) = q at hby hlt ⊢
  generalize byI z k = b at hby hb ⊢
  rw [Int.bmod_bmod_of_dvd (by decide), Int.bmod_def]
  unfold sb
  split <;> split <;> omega
section
variable {c : Nat → Nat → Nat → Int32} {l : Nat → Nat → Int64} {x y : Nat} {K : Ct} {F : Nat} {row : List (Nat × Nat)} {tp : Nat → Nat} {n : Nat} {fa fp : Int} {rf : Nat → Int32} {sd : Int} {oc : List Nat}
theorem ac_put (h : AC c x y K F row tp n fa fp rf sd oc) (b : Nat) : AC (am_ui (am_ui c 2 0 n (iv (sb b))) 1 0 1 (iv ((n + 1 : Nat) : Int))) x y K F row (put1 tp n b) (n + 1) fa fp rf sd oc ∧ KC c (am_ui (am_ui c 2 0 n (iv (sb b))) 1 0 1 (iv ((n + 1 : Nat) : Int))) := by
  obtain ⟨h1, h2, h3, h4, h5, h6, h8⟩ := h
  have hf : ∀ q, q ≠ 1 → q ≠ 2 → am_ui (am_ui c 2 0 n (iv (sb b))) 1 0 1 (iv ((n + 1 : Nat) : Int)) q = c q := fun q q1 q2 => by rw [ui_nk _ _ _ _ q1, ui_nk _ _ _ _ q2]
  refine ⟨⟨JR_fr h1 (fun q _ _ => hf q (by omega) (by omega)), h2, ⟨?_, RowAt_fr h3.2.1 (hf 24 (by omega) (by omega)), RowAt_fr h3.2.2 (hf 25 (by omega) (by omega))⟩, ⟨?_, RowAt_fr h4.2 (hf 26 (by omega) (by omega))⟩, ⟨ui_self _ _ _ _, ?_, ?_, ?_⟩, ?_, ?_⟩, fun q hq => hf q (by omega) (by omega)⟩
  · rw [hf 23 (by omega) (by omega)]; exact h3.1
  · rw [hf 23 (by omega) (by omega)]; exact h4.1
  · rw [ui_ne _ _ _ _ (by omega), ui_ne _ _ _ _ (by omega)]; exact h5.2.1
  · rw [ui_ne _ _ _ _ (by omega), ui_ne _ _ _ _ (by omega)]; exact h5.2.2.1
  · intro i hi
    unfold put1
    by_cases e : i = n
    · subst e; rw [ui_ne _ _ _ _ (by omega), ui_self, if_pos rfl]
    · rw [ui_ne _ _ _ _ (by omega), ui_ne _ _ _ _ (by omega), if_neg e]; exact h5.2.2.2 i hi
  · rw [hf 46 (by omega) (by omega)]; exact h6
  · rw [hf 34 (by omega) (by omega)]; exact h8
theorem KC.tr {c1 c2 c3 : Nat → Nat → Nat → Int32} (h : KC c1 c2) (g : KC c2 c3) : KC c1 c3 := fun k hk => (g k hk).trans (h k hk)
theorem KC_refl (c : Nat → Nat → Nat → Int32) : KC c c := fun _ _ => rfl
theorem e90 (h : AC c x y K F row tp n fa fp rf sd oc) (hn : n + 4 ≤ 1600) {z : Int} (hz : -2147483648 ≤ z ∧ z < 2147483648) (d : Nat) : ∃ c2 : Nat → Nat → Nat → Int32, E (d + 1) 90 [vr 1 0, vi (iv z)] (c, l, x, y) = some (none, c2, l, x, y) ∧ AC c2 x y K F row (put1 (put1 (put1 (put1 tp n (byI z 0)) (n + 1) (byI z 1)) (n + 2) (byI z 2)) (n + 3) (byI z 3)) (n + 4) fa fp rf sd oc ∧ KC c c2 := by
  have step : ∀ (k : Nat) (c : Nat → Nat → Nat → Int32) (tp : Nat → Nat) (n : Nat), k < 4 → n < 1600 → AC c x y K F row tp n fa fp rf sd oc → ∃ c2 : Nat → Nat → Nat → Int32, X (d + 1) 90 2 [some (vr 1 0), some (vi (iv z)), some (vi (iv (8 * (3 - k) : Nat)))] [] (c, l, x, y) = X (d + 1) 90 2 [some (vr 1 0), some (vi (iv z)), some (vi (iv ((8 * (3 - k) : Nat) - 8 : Int)))] [] (c2, l, x, y) ∧ AC c2 x y K F row (put1 tp n (byI z k)) (n + 1) fa fp rf sd oc ∧ KC c c2 := by
    intro k c tp n hk hn h
    obtain ⟨g1, g2⟩ := ac_put h (byI z k)
    refine ⟨_, ?_, g1, g2⟩
    have hu : (iv ((8 * (3 - k) : Nat) : Int)).toUInt32 &&& Int32.toUInt32 31 = UInt32.ofNat (8 * (3 - k)) := by
      have : ∀ k, k < 4 → (iv ((8 * (3 - k) : Nat) : Int)).toUInt32 &&& Int32.toUInt32 31 = UInt32.ofNat (8 * (3 - k)) := by decide
      exact this k hk
    have hb := byI_lt z k
    have hi : (iv (sb (byI z k))).toInt8.toInt32 = iv (sb (byI z k)) := by
      have : ∀ b, b < 256 → (iv (sb b)).toInt8.toInt32 = iv (sb b) := by decide +kernel
      exact this _ hb
    rw [q_90_2, hu, byte_u hz hk, vp_nar_byte, hi, h.2.2.2.2.1.1, show (-8 : Int32) = iv (-8) from rfl]
    simp (disch := omega) only [iv_add, iv_sub, iv_mul, iv_neg, iv_lt, iv_le, iv_eq, iv_nat, iv_L, iv_L2, am_bi_v, am_bv_v, am_bl_v, if_pos, if_neg, Int.toNat_natCast, Int.toNat_add, Int.toNat_mul, Int.reduceToNat]
    rfl
  obtain ⟨c1, a1, a2, a3⟩ := step 0 c tp n (by decide) (by omega) h
  obtain ⟨c2, b1, b2, b3⟩ := step 1 c1 _ (n + 1) (by decide) (by omega) a2
  obtain ⟨c3, d1, d2, d3⟩ := step 2 c2 _ (n + 2) (by decide) (by omega) b2
  obtain ⟨c4, f1, f2, f3⟩ := step 3 c3 _ (n + 3) (by decide) (by omega) d2
  refine ⟨c4, ?_, f2, ((a3.tr b3).tr d3).tr f3⟩
  rw [q_90]
  refine (a1.trans (b1.trans (d1.trans f1))).trans ?_
  rw [q_90_2]
  rfl
theorem k101 (h : AC c x y K F row tp n fa fp rf sd oc) (hv : VS K F row tp n fa fp sd oc) {z1 z2 z3 z4 z5 : Int} (h1 : -2147483648 ≤ z1 ∧ z1 < 2147483648) (h2 : -2147483648 ≤ z2 ∧ z2 < 2147483648) (h3 : -2147483648 ≤ z3 ∧ z3 < 2147483648) (h4 : -2147483648 ≤ z4 ∧ z4 < 2147483648) (h5 : -2147483648 ≤ z5 ∧ z5 < 2147483648) (d : Nat) : ∃ c2 : Nat → Nat → Nat → Int32, E (d + 2) 101 [vr 0 0, vi (iv z1), vi (iv z2), vi (iv z3), vi (iv z4), vi (iv z5)] (c, l, x, y) = some (some (vi (iv (if n + 20 ≤ 1600 then (n : Int) + 20 else -1))), c2, l, x, y) ∧ AC c2 x y K F row (if n + 20 ≤ 1600 then feedT tp n z1 z2 z3 z4 z5 20 else tp) (if n + 20 ≤ 1600 then n + 20 else n) fa fp (oneMore rf 0 (decide (n + 20 ≤ 1600))) sd oc ∧ KC c c2 := by
  have hn := hv.2.2.2.1.1
  obtain ⟨r1, r2⟩ := ac_ref h (k := 0) (by decide)
  rw [q_101, h.2.2.2.2.1.1]
  by_cases e : n + 20 ≤ 1600
  · obtain ⟨c1, a1, a2, a3⟩ := e90 (l := l) h (by omega) h1 d
    obtain ⟨c2, b1, b2, b3⟩ := e90 (l := l) a2 (by omega) h2 d
    obtain ⟨c3, d1, d2, d3⟩ := e90 (l := l) b2 (by omega) h3 d
    obtain ⟨c4, f1, f2, f3⟩ := e90 (l := l) d2 (by omega) h4 d
    obtain ⟨c5, g1, g2, g3⟩ := e90 (l := l) f2 (by omega) h5 d
    refine ⟨c5, ?_, ?_, (((a3.tr b3).tr d3).tr f3).tr g3⟩
    · rw [if_pos e, show (20 : Int32) = iv 20 from rfl, show (1600 : Int32) = iv 1600 from rfl, iv_add]
      simp (disch := omega) only [iv_lt, if_neg, a1, b1, d1, f1, g1, am_bv_v, g2.2.2.2.2.1.1]
      rw [show ((n + 4 + 4 + 4 + 4 + 4 : Nat) : Int) = (n : Int) + 20 by omega]
    · rw [if_pos e, if_pos e, decide_eq_true e]
      exact g2
  · rw [if_neg e, if_neg e, if_neg e, decide_eq_false e]
    refine ⟨_, ?_, r1, r2⟩
    rw [show (20 : Int32) = iv 20 from rfl, show (1600 : Int32) = iv 1600 from rfl, iv_add]
    simp (disch := omega) only [iv_lt, if_pos]
    rfl
theorem VS_feed (hv : VS K F row tp n fa fp sd oc) (z1 z2 z3 z4 z5 : Int) : VS K F row (if n + 20 ≤ 1600 then feedT tp n z1 z2 z3 z4 z5 20 else tp) (if n + 20 ≤ 1600 then n + 20 else n) fa fp sd oc := by
  obtain ⟨v1, v2, v3, ⟨v4, v5⟩, v6⟩ := hv
  refine ⟨v1, v2, v3, ⟨?_, ?_⟩, v6⟩
  · split <;> omega
  · split
    · exact feedT_lt v5 _ _ _ _ _ _ _
    · exact v5
end
