/-! the reference's ask: what lies on top -/
section
variable {c : Nat → Nat → Nat → Int32} {l : Nat → Nat → Int64} {x y : Nat} {S C : List Nat} {m b : Nat}
theorem e275 (g : QS c S C m b) {a : Nat} (ha : a < 100) (d : Nat) : E (d + 1) 275 [vr 48 0, vi (iv (a : Nat))] (c, l, x, y) = some (some (vi (iv (if S.head? = some a then 1 else 0))), c, l, x, y) := by
  rw [q_275]
  cases S with
  | nil =>
    have h80 : c 48 0 80 = iv ((0 : Nat) : Int) := g.1.1
    rw [h80, if_neg (show ¬ 0 < iv ((0 : Nat) : Int) by decide)]
    rfl
  | cons v S =>
    have h80 : c 48 0 80 = iv ((S.length + 1 : Nat) : Int) := g.1.1
    have h109 : c 109 0 S.length = iv (v : Nat) := g.1.2.1
    have hv := g.2.2.2.2.2.1 v (List.mem_cons_self ..)
    have hl := g.2.2.2.2.1
    rw [List.length_cons] at hl
    have hsub : iv ((S.length + 1 : Nat) : Int) - 1 = iv (S.length : Nat) := by
      show iv ((S.length + 1 : Nat) : Int) - iv 1 = _
      rw [iv_sub, show ((S.length + 1 : Nat) : Int) - 1 = (S.length : Int) by omega]
    have hlo : ¬ (iv (S.length : Nat) < 0 ∨ 1700 ≤ (iv (S.length : Nat)).toNatClampNeg) := by
      have h0 : (iv (S.length : Nat) < 0) = ((S.length : Int) < 0) := iv_lt (b := 0) (by omega) (by omega)
      rw [h0, iv_nat (by omega)]
      omega
    have e1 : (0 < iv ((S.length + 1 : Nat) : Int)) = ((0 : Int) < ((S.length + 1 : Nat) : Int)) := iv_lt (a := 0) (by omega) (by omega)
    have e2 : (iv (v : Nat) = iv (a : Nat)) = ((v : Int) = (a : Int)) := iv_eq (by omega) (by omega)
    rw [h80, if_pos (by rw [e1]; omega), hsub, if_neg hlo, iv_nat (by omega), Int.toNat_natCast, h109]
    by_cases e : v = a
    · rw [if_pos (by rw [e]), if_pos (show (v :: S).head? = some a by rw [e]; rfl)]
      rfl
    · rw [if_neg (by rw [e2]; omega), if_neg (show ¬ (v :: S).head? = some a from fun q => e (Option.some.inj q))]
      rfl
end
