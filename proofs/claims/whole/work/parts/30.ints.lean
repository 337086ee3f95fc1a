/-! ints as they stand in Int32 -/
def iv (z : Int) : Int32 := Int32.ofInt z
theorem iv_L : (0 : Int32) = iv 0 ∧ (1 : Int32) = iv 1 ∧ (2 : Int32) = iv 2 ∧ (3 : Int32) = iv 3 ∧ (4 : Int32) = iv 4 ∧ (5 : Int32) = iv 5 ∧ (6 : Int32) = iv 6 ∧ (7 : Int32) = iv 7 ∧ (8 : Int32) = iv 8 ∧ (9 : Int32) = iv 9 ∧ (10 : Int32) = iv 10 ∧ (11 : Int32) = iv 11 ∧ (12 : Int32) = iv 12 ∧ (13 : Int32) = iv 13 ∧ (14 : Int32) = iv 14 ∧ (15 : Int32) = iv 15 ∧ (16 : Int32) = iv 16 ∧ (17 : Int32) = iv 17 ∧ (18 : Int32) = iv 18 ∧ (19 : Int32) = iv 19 ∧ (20 : Int32) = iv 20 ∧ (21 : Int32) = iv 21 ∧ (22 : Int32) = iv 22 ∧ (23 : Int32) = iv 23 ∧ (24 : Int32) = iv 24 ∧ (25 : Int32) = iv 25 := ⟨rfl, rfl, rfl, rfl, rfl, rfl, rfl, rfl, rfl, rfl, rfl, rfl, rfl, rfl, rfl, rfl, rfl, rfl, rfl, rfl, rfl, rfl, rfl, rfl, rfl, rfl⟩
theorem iv_L2 : (28 : Int32) = iv 28 ∧ (31 : Int32) = iv 31 ∧ (32 : Int32) = iv 32 ∧ (40 : Int32) = iv 40 ∧ (41 : Int32) = iv 41 ∧ (42 : Int32) = iv 42 ∧ (43 : Int32) = iv 43 ∧ (44 : Int32) = iv 44 ∧ (45 : Int32) = iv 45 ∧ (47 : Int32) = iv 47 ∧ (48 : Int32) = iv 48 ∧ (49 : Int32) = iv 49 ∧ (57 : Int32) = iv 57 ∧ (59 : Int32) = iv 59 ∧ (60 : Int32) = iv 60 ∧ (61 : Int32) = iv 61 ∧ (62 : Int32) = iv 62 ∧ (70 : Int32) = iv 70 ∧ (72 : Int32) = iv 72 ∧ (73 : Int32) = iv 73 ∧ (91 : Int32) = iv 91 ∧ (93 : Int32) = iv 93 ∧ (97 : Int32) = iv 97 ∧ (99 : Int32) = iv 99 ∧ (100 : Int32) = iv 100 ∧ (122 : Int32) = iv 122 ∧ (200 : Int32) = iv 200 ∧ (241 : Int32) = iv 241 ∧ (255 : Int32) = iv 255 ∧ (1000 : Int32) = iv 1000 ∧ (1600 : Int32) = iv 1600 ∧ (9999 : Int32) = iv 9999 ∧ (32768 : Int32) = iv 32768 ∧ (524288 : Int32) = iv 524288 ∧ (1000000 : Int32) = iv 1000000 := ⟨rfl, rfl, rfl, rfl, rfl, rfl, rfl, rfl, rfl, rfl, rfl, rfl, rfl, rfl, rfl, rfl, rfl, rfl, rfl, rfl, rfl, rfl, rfl, rfl, rfl, rfl, rfl, rfl, rfl, rfl, rfl, rfl, rfl, rfl, rfl⟩
theorem iv_add (a b : Int) : iv a + iv b = iv (a + b) := (Int32.ofInt_add a b).symm
theorem iv_sub (a b : Int) : iv a - iv b = iv (a - b) := (Int32.ofInt_sub a b).symm
theorem iv_mul (a b : Int) : iv a * iv b = iv (a * b) := (Int32.ofInt_mul a b).symm
theorem iv_neg (a : Int) : -iv a = iv (-a) := (Int32.ofInt_neg a).symm
theorem iv_toInt {z : Int} (h : -2147483648 ≤ z ∧ z < 2147483648) : (iv z).toInt = z := Int32.toInt_ofInt_of_le (by omega) (by omega)
theorem iv_lt {a b : Int} (ha : -2147483648 ≤ a ∧ a < 2147483648) (hb : -2147483648 ≤ b ∧ b < 2147483648) : (iv a < iv b) = (a < b) := by
  rw [Int32.lt_iff_toInt_lt, iv_toInt ha, iv_toInt hb]
theorem iv_le {a b : Int} (ha : -2147483648 ≤ a ∧ a < 2147483648) (hb : -2147483648 ≤ b ∧ b < 2147483648) : (iv a ≤ iv b) = (a ≤ b) := by
  rw [Int32.le_iff_toInt_le, iv_toInt ha, iv_toInt hb]
theorem iv_eq {a b : Int} (ha : -2147483648 ≤ a ∧ a < 2147483648) (hb : -2147483648 ≤ b ∧ b < 2147483648) : (iv a = iv b) = (a = b) := by
  apply propext
  constructor
  · intro h
    have h2 := congrArg Int32.toInt h
    rw [iv_toInt ha, iv_toInt hb] at h2
    exact h2
  · intro h; rw [h]
theorem iv_nat {a : Int} (ha : -2147483648 ≤ a ∧ a < 2147483648) : (iv a).toNatClampNeg = a.toNat := by
  rw [← Int32.toNat_toInt, iv_toInt ha]
theorem iv_div {a b : Int} (ha : 0 ≤ a ∧ a < 2147483648) (hb : 0 < b ∧ b < 2147483648) : iv a / iv b = iv (a / b) := by
  apply Int32.toInt_inj.1
  rw [Int32.toInt_div_of_ne_right, iv_toInt (by omega), iv_toInt (by omega), Int.tdiv_eq_ediv_of_nonneg ha.1, iv_toInt]
  · have h1 := Int.ediv_nonneg ha.1 (Int.le_of_lt hb.1)
    have h2 := Int.ediv_le_self b ha.1
    omega
  · intro h
    have h2 := congrArg Int32.toInt h
    rw [iv_toInt (by omega)] at h2
    have h3 : (-1 : Int32).toInt = -1 := by decide
    omega
theorem iv_bv {a : Int} (ha : 0 ≤ a ∧ a < 2147483648) : (iv a).toBitVec = BitVec.ofNat 32 a.toNat := by
  show BitVec.ofInt 32 a = _
  apply BitVec.eq_of_toInt_eq
  rw [BitVec.toInt_ofInt, BitVec.toInt_ofNat', Int.toNat_of_nonneg ha.1]
theorem iv_bv2 {x : Int32} {n : Nat} (h : x.toBitVec = BitVec.ofNat 32 n) : x = iv (n : Int) := by
  apply Int32.toBitVec_inj.1
  rw [h]
  apply BitVec.eq_of_toInt_eq
  show _ = (BitVec.ofInt 32 (n : Int)).toInt
  rw [BitVec.toInt_ofInt, BitVec.toInt_ofNat']
theorem iv_and {a b : Int} (ha : 0 ≤ a ∧ a < 2147483648) (hb : 0 ≤ b ∧ b < 2147483648) : iv a &&& iv b = iv ((a.toNat &&& b.toNat : Nat) : Int) := by
  apply iv_bv2
  rw [Int32.toBitVec_and, iv_bv ha, iv_bv hb]
  apply BitVec.eq_of_toNat_eq
  rw [BitVec.toNat_and, BitVec.toNat_ofNat, BitVec.toNat_ofNat, BitVec.toNat_ofNat, Nat.mod_eq_of_lt (a := a.toNat) (by omega), Nat.mod_eq_of_lt (a := b.toNat) (by omega), Nat.mod_eq_of_lt]
  exact Nat.lt_of_le_of_lt Nat.and_le_left (by omega)
theorem iv_xor {a b : Int} (ha : 0 ≤ a ∧ a < 2147483648) (hb : 0 ≤ b ∧ b < 2147483648) : iv a ^^^ iv b = iv ((a.toNat ^^^ b.toNat : Nat) : Int) := by
  apply iv_bv2
  rw [Int32.toBitVec_xor, iv_bv ha, iv_bv hb]
  apply BitVec.eq_of_toNat_eq
  rw [BitVec.toNat_xor, BitVec.toNat_ofNat, BitVec.toNat_ofNat, BitVec.toNat_ofNat, Nat.mod_eq_of_lt (a := a.toNat) (by omega), Nat.mod_eq_of_lt (a := b.toNat) (by omega), Nat.mod_eq_of_lt]
  exact Nat.xor_lt_two_pow (by omega) (by omega)
theorem iv_or {a b : Int} (ha : 0 ≤ a ∧ a < 2147483648) (hb : 0 ≤ b ∧ b < 2147483648) : iv a ||| iv b = iv ((a.toNat ||| b.toNat : Nat) : Int) := by
  apply iv_bv2
  rw [Int32.toBitVec_or, iv_bv ha, iv_bv hb]
  apply BitVec.eq_of_toNat_eq
  rw [BitVec.toNat_or, BitVec.toNat_ofNat, BitVec.toNat_ofNat, BitVec.toNat_ofNat, Nat.mod_eq_of_lt (a := a.toNat) (by omega), Nat.mod_eq_of_lt (a := b.toNat) (by omega), Nat.mod_eq_of_lt]
  exact Nat.or_lt_two_pow (by omega) (by omega)
theorem iv_sh {b : Int} (hb : 0 ≤ b ∧ b < 32) : ((iv b).toBitVec.smod 32).toNat = b.toNat := by
  obtain ⟨n, rfl⟩ := Int.eq_ofNat_of_zero_le hb.1
  have hn : n < 32 := by omega
  have h : ∀ n : Nat, n < 32 → ((iv (n : Int)).toBitVec.smod 32).toNat = n := by decide
  exact h n hn
theorem iv_shr {a b : Int} (ha : 0 ≤ a ∧ a < 2147483648) (hb : 0 ≤ b ∧ b < 32) : iv a >>> iv b = iv (a / (2 ^ b.toNat : Nat)) := by
  have h0 : iv a >>> iv b = iv ((a.toNat / 2 ^ b.toNat : Nat) : Int) := by
    apply iv_bv2
    show BitVec.sshiftRight' (iv a).toBitVec ((iv b).toBitVec.smod 32) = _
    rw [BitVec.sshiftRight_eq', iv_sh hb, iv_bv ha]
    apply BitVec.eq_of_toNat_eq
    have hm : (BitVec.ofNat 32 a.toNat).msb = false := by
      rw [BitVec.msb_eq_decide, decide_eq_false_iff_not, BitVec.toNat_ofNat, Nat.mod_eq_of_lt (by omega)]
      omega
    rw [BitVec.sshiftRight_eq_of_msb_false hm, BitVec.toNat_ushiftRight, BitVec.toNat_ofNat, BitVec.toNat_ofNat, Nat.shiftRight_eq_div_pow, Nat.mod_eq_of_lt (a := a.toNat) (by omega), Nat.mod_eq_of_lt]
    exact Nat.lt_of_le_of_lt (Nat.div_le_self _ _) (by omega)
  rw [h0, Int.natCast_ediv, Int.toNat_of_nonneg ha.1]
theorem iv_shl {a b : Int} (ha : 0 ≤ a ∧ a < 2147483648) (hb : 0 ≤ b ∧ b < 32) : iv a <<< iv b = iv (a * (2 ^ b.toNat : Nat)) := by
  have h0 : iv a <<< iv b = iv ((a.toNat * 2 ^ b.toNat : Nat) : Int) := by
    apply iv_bv2
    show (iv a).toBitVec <<< ((iv b).toBitVec.smod 32) = _
    rw [BitVec.shiftLeft_eq', iv_sh hb, iv_bv ha]
    apply BitVec.eq_of_toNat_eq
    rw [BitVec.toNat_shiftLeft, BitVec.toNat_ofNat, BitVec.toNat_ofNat, Nat.shiftLeft_eq, Nat.mod_eq_of_lt (a := a.toNat) (by omega)]
  rw [h0, Int.natCast_mul, Int.toNat_of_nonneg ha.1]
theorem iv_mask {a : Int} (k : Nat) (ha : 0 ≤ a ∧ a < 2147483648) (hk : 2 ^ k < 2147483648) : iv a &&& iv (((2 ^ k : Nat) : Int) - 1) = iv (a % ((2 ^ k : Nat) : Int)) := by
  have h2 : 0 < 2 ^ k := Nat.two_pow_pos k
  rw [iv_and ha (by omega)]
  congr 1
  rw [show (((2 ^ k : Nat) : Int) - 1).toNat = 2 ^ k - 1 by omega, Nat.and_two_pow_sub_one_eq_mod, Int.natCast_emod, Int.toNat_of_nonneg ha.1]
theorem iv_m1 {a : Int} (ha : 0 ≤ a ∧ a < 2147483648) : iv a &&& iv 1 = iv (a % 2) := iv_mask 1 ha (by decide)
theorem iv_m7 {a : Int} (ha : 0 ≤ a ∧ a < 2147483648) : iv a &&& iv 7 = iv (a % 8) := iv_mask 3 ha (by decide)
theorem iv_m15 {a : Int} (ha : 0 ≤ a ∧ a < 2147483648) : iv a &&& iv 15 = iv (a % 16) := iv_mask 4 ha (by decide)
theorem iv_m31 {a : Int} (ha : 0 ≤ a ∧ a < 2147483648) : iv a &&& iv 31 = iv (a % 32) := iv_mask 5 ha (by decide)
theorem iv_m255 {a : Int} (ha : 0 ≤ a ∧ a < 2147483648) : iv a &&& iv 255 = iv (a % 256) := iv_mask 8 ha (by decide)
/-- a bit of a number -/
theorem iv_bit {a b : Int} (ha : 0 ≤ a ∧ a < 2147483648) (hb : 0 ≤ b ∧ b < 32) : (iv a >>> iv b) &&& iv 1 = iv (if a.toNat.testBit b.toNat then 1 else 0) := by
  have h1 := Int.ediv_nonneg ha.1 (b := ((2 ^ b.toNat : Nat) : Int)) (Int.natCast_nonneg _)
  have h2 := Int.ediv_le_self ((2 ^ b.toNat : Nat) : Int) ha.1
  rw [iv_shr ha hb, iv_m1 (by omega)]
  congr 1
  rw [Nat.testBit_eq_decide_div_mod_eq]
  have e : a = (a.toNat : Int) := (Int.toNat_of_nonneg ha.1).symm
  generalize a.toNat = n at e
  subst e
  rw [← Int.natCast_ediv]
  by_cases h : n / 2 ^ b.toNat % 2 = 1
  · rw [if_pos (by simp [h])]; omega
  · rw [if_neg (by simp [h])]; omega
theorem iv_self (x : Int32) : x = iv x.toInt := (Int32.ofInt_toInt x).symm
theorem iv_ge (x : Int32) : -2147483648 ≤ x.toInt ∧ x.toInt < 2147483648 := ⟨Int32.le_toInt x, Int32.toInt_lt x⟩
