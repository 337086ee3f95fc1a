/-! the reference's ask: the innermost bracket -/
def inB (b : Nat) : List Nat → Int
  | [] => -1
  | v :: S => if S.length < b then -1 else if 20 ≤ v ∧ v ≤ 24 then (v : Int) else inB b S
section
variable {c : Nat → Nat → Nat → Int32} {l : Nat → Nat → Int64} {x y : Nat} {S C : List Nat} {m b v : Nat}
theorem e273 {a : Nat} (ha : a < 1000) (d : Nat) : E (d + 1) 273 [vi (iv (a : Nat))] (c, l, x, y) = some (some (vi (iv (if 20 ≤ a ∧ a ≤ 24 then 1 else 0))), c, l, x, y) := by
  have e1 : (iv (a : Nat) < 20) = ((a : Int) < 20) := iv_lt (b := 20) (by omega) (by omega)
  have e2 : (24 < iv (a : Nat)) = ((24 : Int) < (a : Int)) := iv_lt (a := 24) (by omega) (by omega)
  rw [q_273]
  simp only [e1, e2]
  by_cases h1 : (a : Int) < 20
  · rw [if_pos h1, if_neg (show ¬ (20 ≤ a ∧ a ≤ 24) by omega)]; rfl
  · rw [if_neg h1]
    by_cases h2 : (24 : Int) < a
    · rw [if_pos h2, if_neg (show ¬ (20 ≤ a ∧ a ≤ 24) by omega)]; rfl
    · rw [if_neg h2, if_pos (show 20 ≤ a ∧ a ≤ 24 by omega)]; rfl
theorem e272_5 (h82 : c 48 0 82 = iv (b : Nat)) (hb : b < 1700) (d : Nat) : ∀ S : List Nat, StA c S → S.length ≤ 1600 → (∀ v ∈ S, v < 100) → X (d + 2) 272 5 [some (vr 48 0), some (vi (iv ((S.length : Int) - 1)))] [] (c, l, x, y) = some (some (vi (iv (inB b S))), c, l, x, y) := by
  intro S
  induction S with
  | nil =>
    intro _ _ _
    have e1 : (iv (((([] : List Nat).length : Nat) : Int) - 1) < iv (b : Nat)) = (((([] : List Nat).length : Nat) : Int) - 1 < (b : Int)) := iv_lt (by show -2147483648 ≤ ((0 : Nat) : Int) - 1 ∧ ((0 : Nat) : Int) - 1 < 2147483648; omega) (by omega)
    have h1 : ((([] : List Nat).length : Nat) : Int) - 1 < (b : Int) := by show ((0 : Nat) : Int) - 1 < (b : Int); omega
    rw [q_272_5, h82, if_pos (e1.mpr h1), if_pos (e1.mpr h1)]
    rfl
  | cons v S ih =>
    intro hS hl hv
    rw [List.length_cons] at hl
    have hv0 := hv v (List.mem_cons_self ..)
    have hlen : (((v :: S).length : Nat) : Int) - 1 = (S.length : Int) := by rw [List.length_cons]; omega
    have e1 : (iv (S.length : Nat) < iv (b : Nat)) = ((S.length : Int) < (b : Int)) := iv_lt (by omega) (by omega)
    have hlo : ¬ (iv (S.length : Nat) < 0 ∨ 1700 ≤ (iv (S.length : Nat)).toNatClampNeg) := by
      have h0 : (iv (S.length : Nat) < 0) = ((S.length : Int) < 0) := iv_lt (b := 0) (by omega) (by omega)
      rw [h0, iv_nat (by omega)]
      omega
    have hlo2 : ¬ (iv (S.length : Nat) < 0 ∨ 1700 ≤ S.length) := by
      have h0 : (iv (S.length : Nat) < 0) = ((S.length : Int) < 0) := iv_lt (b := 0) (by omega) (by omega)
      rw [h0]
      omega
    have hm1 : iv (S.length : Nat) + (-1) = iv ((S.length : Int) - 1) := by
      show iv (S.length : Nat) + iv (-1) = _
      rw [iv_add]
      rfl
    rw [hlen, q_272_5, h82]
    unfold inB
    by_cases q1 : S.length < b
    · rw [if_pos (e1.mpr (by omega)), if_pos (e1.mpr (by omega)), if_pos q1]
      rfl
    · rw [if_neg (fun e => q1 (by rw [e1] at e; omega)), if_neg hlo, iv_nat (by omega), Int.toNat_natCast, hS.1, e273 (by omega) d, if_neg q1]
      simp only [am_bi_v]
      by_cases q2 : 20 ≤ v ∧ v ≤ 24
      · rw [if_pos q2, if_pos q2, if_neg (show ¬ iv 1 = 0 by decide), h82, if_neg (fun e => q1 (by rw [e1] at e; omega)), if_neg hlo2, hS.1]
      · rw [if_neg q2, if_neg q2, if_pos (show iv 0 = 0 from rfl), hm1]
        exact ih hS.2 (by omega) (fun w hw => hv w (List.mem_cons_of_mem _ hw))
end
