/-! a QUESTION's numbers, class and reference -/
theorem fd_eq {a b : Int} (hb : b ≠ 0) : a.fdiv b = if (decide (a < 0) ^^ decide (b < 0)) = true then (if a.tdiv b * b = a then a.tdiv b else a.tdiv b - 1) else a.tdiv b := by
  rw [Int.fdiv_eq_tdiv]
  have hd : b ∣ a ↔ a.tdiv b * b = a := ⟨fun h => Int.tdiv_mul_cancel h, fun h => ⟨a.tdiv b, by rw [Int.mul_comm]; exact h.symm⟩⟩
  by_cases h : b ∣ a
  · rw [if_pos h, if_pos (hd.mp h)]
    split <;> omega
  · rw [if_neg h, if_neg (fun q => h (hd.mpr q))]
    rcases (show b < 0 ∨ 0 < b by omega) with hb | hb
    · have hs : b.sign = -1 := Int.sign_eq_neg_one_of_neg hb
      rw [hs, decide_eq_true hb]
      by_cases ha : a < 0
      · rw [decide_eq_true ha, if_neg (show ¬ 0 ≤ a by omega), if_neg (show ¬ 0 ≤ b by omega), if_neg (by decide)]
        omega
      · rw [decide_eq_false ha, if_pos (show 0 ≤ a by omega), if_neg (show ¬ 0 ≤ b by omega), if_pos (by decide)]
    · have hs : b.sign = 1 := Int.sign_eq_one_of_pos hb
      rw [hs, decide_eq_false (show ¬ b < 0 by omega)]
      by_cases ha : a < 0
      · rw [decide_eq_true ha, if_neg (show ¬ 0 ≤ a by omega), if_pos (show 0 ≤ b by omega), if_pos (by decide)]
      · rw [decide_eq_false ha, if_pos (show 0 ≤ a by omega), if_pos (show 0 ≤ b by omega), if_neg (by decide)]
        omega
theorem tdv_bd (a b : Int) : (a.tdiv b).natAbs ≤ a.natAbs := by
  rw [Int.natAbs_tdiv]
  exact Nat.div_le_self _ _
theorem xor_neg (u v : Int32) : (u ^^^ v < 0) = ((decide (u.toInt < 0) ^^ decide (v.toInt < 0)) = true) := by
  have h : decide ((u ^^^ v).toInt < 0) = (decide (u.toInt < 0) ^^ decide (v.toInt < 0)) := by
    have e : (u ^^^ v).toBitVec = u.toBitVec ^^^ v.toBitVec := rfl
    show decide ((u ^^^ v).toBitVec.toInt < 0) = (decide (u.toBitVec.toInt < 0) ^^ decide (v.toBitVec.toInt < 0))
    rw [e, ← BitVec.msb_eq_toInt, ← BitVec.msb_eq_toInt, ← BitVec.msb_eq_toInt, BitVec.msb_xor]
  rw [← h, decide_eq_true_eq]
  exact propext Int32.lt_iff_toInt_lt
theorem iv_tdiv {a b : Int} (ha : -1000000 ≤ a ∧ a ≤ 1000000) (hb : -1000000 ≤ b ∧ b ≤ 1000000) : iv a / iv b = iv (a.tdiv b) := by
  have h := tdv_bd a b
  apply Int32.toInt_inj.1
  rw [Int32.toInt_div_of_ne_left, iv_toInt (by omega), iv_toInt (by omega), iv_toInt (by omega)]
  intro q
  have h2 := congrArg Int32.toInt q
  rw [iv_toInt (by omega)] at h2
  have h3 : (Int32.minValue).toInt = -2147483648 := by decide
  omega
theorem am_fd_iv {a b : Int} (ha : -1000000 ≤ a ∧ a ≤ 1000000) (hb : -1000000 ≤ b ∧ b ≤ 1000000) (h0 : b ≠ 0) : am_fd (iv a) (iv b) = iv (a.fdiv b) := by
  have h := tdv_bd a b
  unfold am_fd
  rw [fd_eq h0, iv_tdiv ha hb]
  have e1 : (iv a ^^^ iv b < 0) = ((decide (a < 0) ^^ decide (b < 0)) = true) := by rw [xor_neg, iv_toInt (by omega), iv_toInt (by omega)]
  have hm : (a.tdiv b * b).natAbs ≤ a.natAbs := by
    rw [Int.natAbs_mul, Int.natAbs_tdiv]
    exact Nat.div_mul_le_self _ _
  have e2 : (iv (a.tdiv b) * iv b = iv a) = (a.tdiv b * b = a) := by rw [iv_mul, iv_eq (by omega) (by omega)]
  have e3 : iv (a.tdiv b) - 1 = iv (a.tdiv b - 1) := by
    show iv (a.tdiv b) - iv 1 = _
    rw [iv_sub]
  simp only [e1, e2, e3]
  split
  · split <;> rfl
  · rfl
theorem fdv_bd (a b : Int) (ha : -1000000 ≤ a ∧ a ≤ 1000000) : -1000000 ≤ a.fdiv b ∧ a.fdiv b ≤ 1000000 := by
  by_cases hb : b = 0
  · rw [hb, Int.fdiv_zero]
    omega
  · have h := tdv_bd a b
    rw [fd_eq hb]
    have hq : ¬ a.tdiv b * b = a → b.natAbs ≤ 1 → False := by
      intro h1 h2
      apply h1
      rcases (show b = 1 ∨ b = -1 by omega) with e | e
      · rw [e, Int.tdiv_one]; omega
      · rw [e, Int.tdiv_neg, Int.tdiv_one]; omega
    have h2 : 2 ≤ b.natAbs → (a.tdiv b).natAbs ≤ 500000 := by
      intro h2
      rw [Int.natAbs_tdiv]
      have h3 : a.natAbs / b.natAbs ≤ a.natAbs / 2 := Nat.div_le_div_left h2 (by omega)
      have h4 : a.natAbs ≤ 1000000 := by omega
      have h5 : a.natAbs / 2 ≤ 500000 := by omega
      exact Nat.le_trans h3 h5
    split
    · split
      · omega
      · rename_i h3
        by_cases e : b.natAbs ≤ 1
        · exact (hq h3 e).elim
        · have := h2 (by omega)
          omega
    · omega
theorem clp_bd (v : Int) : -1000000 ≤ clp v ∧ clp v ≤ 1000000 := by
  unfold clp
  split
  · omega
  · split <;> omega
theorem clp_id {v : Int} (h : -1000000 ≤ v ∧ v ≤ 1000000) : clp v = v := by
  unfold clp
  rw [if_neg (by omega), if_neg (by omega)]
section
variable {c : Nat → Nat → Nat → Int32} {l : Nat → Nat → Int64} {x y : Nat}
theorem e74 {a : Int} (ha : -4000000000000000000 ≤ a ∧ a ≤ 4000000000000000000) (d : Nat) : E (d + 1) 74 [vl (jv a)] (c, l, x, y) = some (some (vi (iv (clp a))), c, l, x, y) := by
  have h1 : (1000000 : Int64) = jv 1000000 := rfl
  rw [q_74, h1, jv_neg]
  have h3 : (if jv a < jv 1000000 then jv a else jv 1000000) = jv (if a < 1000000 then a else 1000000) := by
    have e : (jv a < jv 1000000) = (a < 1000000) := jv_lt (by omega) (by omega)
    simp only [e]
    split <;> rfl
  rw [h3]
  have h4 : (if jv (if a < 1000000 then a else 1000000) < jv (-1000000) then jv (-1000000) else jv (if a < 1000000 then a else 1000000)) = jv (clp a) := by
    have e : (jv (if a < 1000000 then a else 1000000) < jv (-1000000)) = ((if a < 1000000 then a else 1000000) < -1000000) := jv_lt (by split <;> omega) (by omega)
    simp only [e]
    unfold clp
    by_cases e : a < 1000000
    · simp only [e, if_true, show ¬ 1000000 < a by omega, if_false]
      split <;> rfl
    · simp only [e, if_false]
      rw [if_neg (show ¬ (1000000 : Int) < -1000000 by omega)]
      by_cases e2 : a = 1000000
      · rw [e2]; rfl
      · rw [if_pos (show 1000000 < a by omega)]
  rw [h4]
  have := clp_bd a
  rw [jv_iv (by omega)]
end
