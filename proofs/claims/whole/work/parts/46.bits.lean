/-! how many bits a number has -/
def pcn (n : Nat) : Nat := n % 2 + n / 2 % 2 + n / 4 % 2 + n / 8 % 2
/-- the bits of a number below 2 to the 20 -/
def pc (m : Nat) : Nat := pcn (m % 16) + pcn (m / 16 % 16) + pcn (m / 256 % 16) + pcn (m / 4096 % 16) + pcn (m / 65536 % 16)
theorem and_split (a0 a1 b0 b1 : Nat) (ha : a0 < 16) (hb : b0 < 16) : (a0 + 16 * a1) &&& (b0 + 16 * b1) = (a0 &&& b0) + 16 * (a1 &&& b1) := by
  have h1 : ((a0 + 16 * a1) &&& (b0 + 16 * b1)) / 2 ^ 4 = (a0 + 16 * a1) / 2 ^ 4 &&& (b0 + 16 * b1) / 2 ^ 4 := Nat.and_div_two_pow
  have h2 : ((a0 + 16 * a1) &&& (b0 + 16 * b1)) % 2 ^ 4 = (a0 + 16 * a1) % 2 ^ 4 &&& (b0 + 16 * b1) % 2 ^ 4 := Nat.and_mod_two_pow
  rw [show (a0 + 16 * a1) / 2 ^ 4 = a1 by omega, show (b0 + 16 * b1) / 2 ^ 4 = b1 by omega] at h1
  rw [show (a0 + 16 * a1) % 2 ^ 4 = a0 by omega, show (b0 + 16 * b1) % 2 ^ 4 = b0 by omega] at h2
  omega
theorem and5 : ∀ n, n < 16 → ∀ h, h < 2 → (n / 2 + 8 * h) &&& 5 = n / 2 &&& 5 := by decide
theorem and3 : ∀ n, n < 16 → ∀ h, h < 4 → (n / 4 + 4 * h) &&& 3 = n / 4 := by decide
theorem pcn_swar : ∀ n, n < 16 → (n / 2 &&& 5) ≤ n ∧ ((n - (n / 2 &&& 5)) &&& 3) + (n - (n / 2 &&& 5)) / 4 = pcn n ∧ pcn n ≤ 4 ∧ n - (n / 2 &&& 5) < 16 := by decide
theorem and15 : ∀ n, n < 16 → n &&& 15 = n := by decide
theorem and0 (n : Nat) : n &&& 0 = 0 := Nat.and_zero n
theorem sw5 (m M : Nat) (hM : M % 2 ^ 4 = 5) : m / 2 &&& M = (m % 16 / 2 &&& 5) + 16 * (m / 16 / 2 &&& M / 16) := by
  have := and_split (m % 16 / 2 + 8 * (m / 16 % 2)) (m / 16 / 2) 5 (M / 16) (by omega) (by omega)
  rw [show m % 16 / 2 + 8 * (m / 16 % 2) + 16 * (m / 16 / 2) = m / 2 by omega, show 5 + 16 * (M / 16) = M by omega, and5 _ (by omega) _ (by omega)] at this
  exact this
theorem sw3 (m M : Nat) (hM : M % 2 ^ 4 = 3) : m / 4 &&& M = m % 16 / 4 + 16 * (m / 16 / 4 &&& M / 16) := by
  have := and_split (m % 16 / 4 + 4 * (m / 16 % 4)) (m / 16 / 4) 3 (M / 16) (by omega) (by omega)
  rw [show m % 16 / 4 + 4 * (m / 16 % 4) + 16 * (m / 16 / 4) = m / 4 by omega, show 3 + 16 * (M / 16) = M by omega, and3 _ (by omega) _ (by omega)] at this
  exact this
theorem sw (m M b : Nat) (hM : M % 2 ^ 4 = b) : m &&& M = (m % 16 &&& b) + 16 * (m / 16 &&& M / 16) := by
  have := and_split (m % 16) (m / 16) b (M / 16) (by omega) (by omega)
  rw [show m % 16 + 16 * (m / 16) = m by omega, show b + 16 * (M / 16) = M by omega] at this
  exact this
def sw1 (m : Nat) : Nat := m - (m / 2 &&& 1431655765)
def sw2 (a : Nat) : Nat := (a &&& 858993459) + (a / 4 &&& 858993459)
def sw4 (b : Nat) : Nat := (b + b / 16) &&& 252645135
theorem sw12 {m : Nat} (h : m < 1048576) : sw2 (sw1 m) = pcn (m % 16) + 16 * pcn (m / 16 % 16) + 256 * pcn (m / 256 % 16) + 4096 * pcn (m / 4096 % 16) + 65536 * pcn (m / 65536 % 16) ∧ sw1 m < 1048576 := by
  have z : m / 16 / 16 / 16 / 16 / 16 = 0 := by omega
  have e : m / 2 &&& 1431655765 = (m % 16 / 2 &&& 5) + 16 * ((m / 16 % 16 / 2 &&& 5) + 16 * ((m / 16 / 16 % 16 / 2 &&& 5) + 16 * ((m / 16 / 16 / 16 % 16 / 2 &&& 5) + 16 * ((m / 16 / 16 / 16 / 16 % 16 / 2 &&& 5) + 16 * 0)))) := by
    rw [sw5 m 1431655765 rfl, sw5 (m / 16) _ rfl, sw5 (m / 16 / 16) _ rfl, sw5 (m / 16 / 16 / 16) _ rfl, sw5 (m / 16 / 16 / 16 / 16) _ rfl, z]
    rfl
  have p0 := pcn_swar (m % 16) (by omega)
  have p1 := pcn_swar (m / 16 % 16) (by omega)
  have p2 := pcn_swar (m / 16 / 16 % 16) (by omega)
  have p3 := pcn_swar (m / 16 / 16 / 16 % 16) (by omega)
  have p4 := pcn_swar (m / 16 / 16 / 16 / 16 % 16) (by omega)
  rw [show m / 256 = m / 16 / 16 by omega, show m / 4096 = m / 16 / 16 / 16 by omega, show m / 65536 = m / 16 / 16 / 16 / 16 by omega]
  have hs : sw1 m = (m % 16 - (m % 16 / 2 &&& 5)) + 16 * ((m / 16 % 16 - (m / 16 % 16 / 2 &&& 5)) + 16 * ((m / 16 / 16 % 16 - (m / 16 / 16 % 16 / 2 &&& 5)) + 16 * ((m / 16 / 16 / 16 % 16 - (m / 16 / 16 / 16 % 16 / 2 &&& 5)) + 16 * (m / 16 / 16 / 16 / 16 % 16 - (m / 16 / 16 / 16 / 16 % 16 / 2 &&& 5))))) := by
    unfold sw1
    rw [e]
    omega
  generalize m % 16 - (m % 16 / 2 &&& 5) = q0 at *
  generalize m / 16 % 16 - (m / 16 % 16 / 2 &&& 5) = q1 at *
  generalize m / 16 / 16 % 16 - (m / 16 / 16 % 16 / 2 &&& 5) = q2 at *
  generalize m / 16 / 16 / 16 % 16 - (m / 16 / 16 / 16 % 16 / 2 &&& 5) = q3 at *
  generalize m / 16 / 16 / 16 / 16 % 16 - (m / 16 / 16 / 16 / 16 % 16 / 2 &&& 5) = q4 at *
  refine ⟨?_, by omega⟩
  generalize sw1 m = a at hs ⊢
  have a0 : a % 16 = q0 := by omega
  have a1 : a / 16 % 16 = q1 := by omega
  have a2 : a / 16 / 16 % 16 = q2 := by omega
  have a3 : a / 16 / 16 / 16 % 16 = q3 := by omega
  have a4 : a / 16 / 16 / 16 / 16 % 16 = q4 := by omega
  have az : a / 16 / 16 / 16 / 16 / 16 = 0 := by omega
  have e3 : a / 4 &&& 858993459 = q0 / 4 + 16 * (q1 / 4 + 16 * (q2 / 4 + 16 * (q3 / 4 + 16 * (q4 / 4 + 16 * 0)))) := by
    rw [sw3 a 858993459 rfl, sw3 (a / 16) _ rfl, sw3 (a / 16 / 16) _ rfl, sw3 (a / 16 / 16 / 16) _ rfl, sw3 (a / 16 / 16 / 16 / 16) _ rfl, az, a0, a1, a2, a3, a4]
    rfl
  have e4 : a &&& 858993459 = (q0 &&& 3) + 16 * ((q1 &&& 3) + 16 * ((q2 &&& 3) + 16 * ((q3 &&& 3) + 16 * ((q4 &&& 3) + 16 * 0)))) := by
    rw [sw a 858993459 3 rfl, sw (a / 16) _ 3 rfl, sw (a / 16 / 16) _ 3 rfl, sw (a / 16 / 16 / 16) _ 3 rfl, sw (a / 16 / 16 / 16 / 16) _ 3 rfl, az, a0, a1, a2, a3, a4]
    rfl
  unfold sw2
  rw [e3, e4]
  omega
theorem pcn_le (n : Nat) : pcn n ≤ 4 := by unfold pcn; omega
theorem sw_all {m : Nat} (h : m < 1048576) : sw2 (sw1 m) < 16777216 ∧ sw4 (sw2 (sw1 m)) < 16777216 ∧ ((sw4 (sw2 (sw1 m)) + sw4 (sw2 (sw1 m)) / 256) + (sw4 (sw2 (sw1 m)) + sw4 (sw2 (sw1 m)) / 256) / 65536) &&& 63 = pc m := by
  obtain ⟨h1, -⟩ := sw12 h
  unfold pc
  have q0 := pcn_le (m % 16)
  have q1 := pcn_le (m / 16 % 16)
  have q2 := pcn_le (m / 256 % 16)
  have q3 := pcn_le (m / 4096 % 16)
  have q4 := pcn_le (m / 65536 % 16)
  generalize pcn (m % 16) = p0 at *
  generalize pcn (m / 16 % 16) = p1 at *
  generalize pcn (m / 256 % 16) = p2 at *
  generalize pcn (m / 4096 % 16) = p3 at *
  generalize pcn (m / 65536 % 16) = p4 at *
  generalize sw2 (sw1 m) = b at *
  have hc : sw4 b = (p0 + p1) + 256 * (p2 + p3) + 65536 * p4 := by
    unfold sw4
    have hb16 : b / 16 = p1 + 16 * p2 + 256 * p3 + 4096 * p4 := by omega
    rw [hb16]
    generalize hv : b + (p1 + 16 * p2 + 256 * p3 + 4096 * p4) = v
    have hv2 : v = (p0 + p1) + 16 * ((p1 + p2) + 16 * ((p2 + p3) + 16 * ((p3 + p4) + 16 * p4))) := by omega
    clear hv hb16 h1
    have v0 : v % 16 = p0 + p1 := by omega
    have w1 : v / 16 = (p1 + p2) + 16 * ((p2 + p3) + 16 * ((p3 + p4) + 16 * p4)) := by omega
    have w2 : v / 16 / 16 = (p2 + p3) + 16 * ((p3 + p4) + 16 * p4) := by omega
    have w3 : v / 16 / 16 / 16 = (p3 + p4) + 16 * p4 := by omega
    have w4 : v / 16 / 16 / 16 / 16 = p4 := by omega
    have v1 : v / 16 / 16 % 16 = p2 + p3 := by omega
    have v2 : v / 16 / 16 / 16 / 16 % 16 = p4 := by omega
    have vz : v / 16 / 16 / 16 / 16 / 16 = 0 := by omega
    rw [sw v 252645135 15 rfl, sw (v / 16) _ 0 rfl, sw (v / 16 / 16) _ 15 rfl, sw (v / 16 / 16 / 16) _ 0 rfl, sw (v / 16 / 16 / 16 / 16) _ 15 rfl, vz, v0, v1, v2, and0, and0, and15 _ (by omega), and15 _ (by omega), and15 _ (by omega)]
    have : (0 : Nat) &&& (252645135 / 16 / 16 / 16 / 16 / 16) = 0 := rfl
    rw [this]
    omega
  refine ⟨by omega, by omega, ?_⟩
  rw [show (63 : Nat) = 2 ^ 6 - 1 from rfl, Nat.and_two_pow_sub_one_eq_mod, hc]
  have u1 : (p0 + p1 + 256 * (p2 + p3) + 65536 * p4) / 256 = (p2 + p3) + 256 * p4 := by omega
  rw [u1]
  have u2 : (p0 + p1 + 256 * (p2 + p3) + 65536 * p4 + (p2 + p3 + 256 * p4)) / 65536 = p4 := by omega
  rw [u2]
  omega
/-- the lowest bit goes -/
theorem pc_low : ∀ n, n < 16 → 0 < n → pcn (n &&& (n - 1)) + 1 = pcn n ∧ (n &&& (n - 1)) < n := by decide
theorem pcn0 : ∀ n, n < 16 → pcn n = 0 → n = 0 := by decide
def pcr : Nat → Nat → Nat
  | 0, _ => 0
  | f + 1, m => pcn (m % 16) + pcr f (m / 16)
theorem pc_pcr (m : Nat) : pc m = pcr 5 m := by
  unfold pc pcr pcr pcr pcr pcr pcr
  rw [show m / 256 = m / 16 / 16 by omega, show m / 4096 = m / 16 / 16 / 16 by omega, show m / 65536 = m / 16 / 16 / 16 / 16 by omega]
  omega
theorem pcr_low : ∀ (f m : Nat), 0 < m → m < 16 ^ f → pcr f (m &&& (m - 1)) + 1 = pcr f m ∧ (m &&& (m - 1)) < m
  | 0, m, h0, h => by omega
  | f + 1, m, h0, h => by
    have hp : 16 ^ (f + 1) = 16 ^ f * 16 := Nat.pow_succ ..
    by_cases e : m % 16 = 0
    · have hq : 0 < m / 16 := by omega
      obtain ⟨i1, i2⟩ := pcr_low f (m / 16) hq (by omega)
      have := and_split 0 (m / 16) 15 (m / 16 - 1) (by omega) (by omega)
      rw [show 0 + 16 * (m / 16) = m by omega, show 15 + 16 * (m / 16 - 1) = m - 1 by omega, Nat.zero_and] at this
      rw [this]
      unfold pcr
      rw [show (0 + 16 * (m / 16 &&& m / 16 - 1)) % 16 = 0 by omega, show (0 + 16 * (m / 16 &&& m / 16 - 1)) / 16 = m / 16 &&& m / 16 - 1 by omega, e]
      omega
    · have h16 := pc_low (m % 16) (by omega) (by omega)
      have hand : m / 16 &&& m / 16 = m / 16 := Nat.and_self _
      have := and_split (m % 16) (m / 16) (m % 16 - 1) (m / 16) (by omega) (by omega)
      rw [show m % 16 + 16 * (m / 16) = m by omega, show m % 16 - 1 + 16 * (m / 16) = m - 1 by omega, hand] at this
      rw [this]
      unfold pcr
      rw [show ((m % 16 &&& m % 16 - 1) + 16 * (m / 16)) % 16 = m % 16 &&& m % 16 - 1 by omega, show ((m % 16 &&& m % 16 - 1) + 16 * (m / 16)) / 16 = m / 16 by omega]
      omega
theorem pcr_zero : ∀ f, pcr f 0 = 0
  | 0 => rfl
  | f + 1 => by unfold pcr; rw [show 0 % 16 = 0 from rfl, show 0 / 16 = 0 from rfl, pcr_zero f]; rfl
section
variable {c : Nat → Nat → Nat → Int32} {l : Nat → Nat → Int64} {x y : Nat}
theorem iv_ushr {a : Int} (k : Nat) (ha : 0 ≤ a ∧ a < 2147483648) (hk : k < 32) (y : Int32) (hy : y.toUInt32 &&& Int32.toUInt32 31 = UInt32.ofNat k) : ((iv a).toUInt32 >>> (y.toUInt32 &&& Int32.toUInt32 31)).toInt32 = iv (a / (2 ^ k : Nat)) := by
  rw [hy]
  obtain ⟨n, rfl⟩ := Int.eq_ofNat_of_zero_le ha.1
  rw [← Int.natCast_ediv]
  apply iv_bv2
  show (UInt32.shiftRight _ _).toBitVec = _
  apply BitVec.eq_of_toNat_eq
  have h1 : (iv (n : Int)).toUInt32.toBitVec = BitVec.ofNat 32 n := iv_bv ha
  show ((iv (n : Int)).toUInt32.toBitVec >>> (UInt32.ofNat k).toBitVec.umod 32).toNat = _
  rw [h1, BitVec.ushiftRight_eq', BitVec.toNat_ushiftRight, BitVec.toNat_ofNat, BitVec.toNat_ofNat, Nat.shiftRight_eq_div_pow, Nat.mod_eq_of_lt (a := n) (by omega)]
  have h2 : ((UInt32.ofNat k).toBitVec.umod 32).toNat = k := by
    have : ∀ k, k < 32 → ((UInt32.ofNat k).toBitVec.umod 32).toNat = k := by decide
    exact this k hk
  rw [h2, Nat.mod_eq_of_lt]
  exact Nat.lt_of_le_of_lt (Nat.div_le_self _ _) (by omega)
theorem e299 {m : Nat} (h : m < 1048576) (d : Nat) : E (d + 1) 299 [vi (iv m)] (c, l, x, y) = some (some (vi (iv (pc m))), c, l, x, y) := by
  obtain ⟨h1, h2⟩ := sw12 h
  obtain ⟨g1, g2, g3⟩ := sw_all h
  have t1 : iv (m : Int) - (((iv (m : Int)).toUInt32 >>> ((1 : Int32).toUInt32 &&& Int32.toUInt32 31)).toInt32 &&& 1431655765) = iv (sw1 m) := by
    rw [iv_ushr 1 (by omega) (by omega) 1 rfl, show (1431655765 : Int32) = iv 1431655765 from rfl, ← Int.natCast_ediv, iv_and (by omega) (by omega), iv_sub]
    congr 1
    have hle : (m / 2 &&& 1431655765) ≤ m := Nat.le_trans Nat.and_le_left (by omega)
    unfold sw1
    rw [Int.toNat_natCast, show (1431655765 : Int).toNat = 1431655765 from rfl]
    show (m : Int) - ((m / 2 &&& 1431655765 : Nat) : Int) = _
    omega
  have t2 : (iv (sw1 m) &&& 858993459) + (((iv (sw1 m)).toUInt32 >>> ((2 : Int32).toUInt32 &&& Int32.toUInt32 31)).toInt32 &&& 858993459) = iv (sw2 (sw1 m)) := by
    rw [iv_ushr 2 (by omega) (by omega) 2 rfl, show (858993459 : Int32) = iv 858993459 from rfl, ← Int.natCast_ediv, iv_and (by omega) (by omega), iv_and (by omega) (by omega), iv_add]
    rfl
  have t3 : (iv (sw2 (sw1 m)) + ((iv (sw2 (sw1 m))).toUInt32 >>> ((4 : Int32).toUInt32 &&& Int32.toUInt32 31)).toInt32) &&& 252645135 = iv (sw4 (sw2 (sw1 m))) := by
    rw [iv_ushr 4 (by omega) (by omega) 4 rfl, show (252645135 : Int32) = iv 252645135 from rfl, ← Int.natCast_ediv, iv_add, iv_and (by omega) (by omega)]
    rfl
  generalize hz : sw4 (sw2 (sw1 m)) = z at *
  have t4 : iv (z : Int) + ((iv (z : Int)).toUInt32 >>> ((8 : Int32).toUInt32 &&& Int32.toUInt32 31)).toInt32 = iv ((z + z / 256 : Nat) : Int) := by
    rw [iv_ushr 8 (by omega) (by omega) 8 rfl, ← Int.natCast_ediv, iv_add]
    rfl
  have t5 : (iv ((z + z / 256 : Nat) : Int) + ((iv ((z + z / 256 : Nat) : Int)).toUInt32 >>> ((16 : Int32).toUInt32 &&& Int32.toUInt32 31)).toInt32) &&& 63 = iv (pc m) := by
    rw [iv_ushr 16 (by omega) (by omega) 16 rfl, show (63 : Int32) = iv 63 from rfl, ← Int.natCast_ediv, iv_add, iv_and (by omega) (by omega), ← g3]
    rfl
  rw [q_299]
  simp only [t1, t2, t3, t4, t5]
end
