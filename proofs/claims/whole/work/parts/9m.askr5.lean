/-! the reference's ask: operators down to a bracket -/
def drB (b : Nat) : List Nat → List Nat × List Nat
  | [] => ([], [])
  | v :: S => if b < S.length + 1 ∧ ¬ (20 ≤ v ∧ v ≤ 24) then (v :: (drB b S).1, (drB b S).2) else ([], v :: S)
section
variable {c : Nat → Nat → Nat → Int32} {l : Nat → Nat → Int64} {x y : Nat} {S C : List Nat} {m b v : Nat}
theorem e274 (hb : b < 1700) (d : Nat) : ∀ (S C : List Nat) (c : Nat → Nat → Nat → Int32), QS c S C m b → ∃ c2 : Nat → Nat → Nat → Int32, X (d + 3) 274 0 [some (vr 48 0)] [] (c, l, x, y) = some (none, c2, l, x, y) ∧ QS c2 (drB b S).2 (C ++ (drB b S).1) m b ∧ FK c c2 ∧ (∀ tp n z, RZ c tp n z → RZ c2 tp n z) := by
  intro S
  induction S with
  | nil =>
    intro C c g
    have h80 : c 48 0 80 = iv ((0 : Nat) : Int) := g.1.1
    have h82 : c 48 0 82 = iv (b : Nat) := g.2.2.2.1
    refine ⟨c, ?_, ?_, FK.refl c, fun _ _ _ h => h⟩
    · rw [q_274_0, h80, h82, if_neg (by rw [iv_lt (by omega) (by omega)]; omega)]
    · show QS c [] (C ++ []) m b
      rw [List.append_nil]
      exact g
  | cons v S ih =>
    intro C c g
    have h80 : c 48 0 80 = iv ((S.length + 1 : Nat) : Int) := g.1.1
    have h82 : c 48 0 82 = iv (b : Nat) := g.2.2.2.1
    have h109 : c 109 0 S.length = iv (v : Nat) := g.1.2.1
    have hv := g.2.2.2.2.2.1 v (List.mem_cons_self ..)
    have hl := g.2.2.2.2.1
    rw [List.length_cons] at hl
    have hsub : iv ((S.length + 1 : Nat) : Int) - 1 = iv (S.length : Nat) := by
      show iv ((S.length + 1 : Nat) : Int) - iv 1 = _
      rw [iv_sub, show ((S.length + 1 : Nat) : Int) - 1 = (S.length : Int) by omega]
    have hlo : ¬ (iv (S.length : Nat) < 0 ∨ 1700 ≤ (iv (S.length : Nat)).toNatClampNeg) := by
      have h0 : (iv (S.length : Nat) < 0) = ((S.length : Int) < 0) := iv_lt (b := 0) (by omega) (by omega)
      rw [h0, iv_nat (by omega)]
      omega
    have e1 : (iv (b : Nat) < iv ((S.length + 1 : Nat) : Int)) = ((b : Int) < ((S.length + 1 : Nat) : Int)) := iv_lt (by omega) (by omega)
    rw [q_274_0, h80, h82, hsub]
    unfold drB
    by_cases q1 : b < S.length + 1
    · rw [if_pos (by rw [e1]; omega), if_neg hlo, iv_nat (by omega), Int.toNat_natCast, h109, e273 (by omega) (d + 1)]
      simp only [am_bi_v]
      by_cases q2 : 20 ≤ v ∧ v ≤ 24
      · rw [if_pos q2, if_neg (show ¬ iv 1 = 0 by decide), if_neg (fun q => q.2 q2)]
        refine ⟨c, rfl, ?_, FK.refl c, fun _ _ _ h => h⟩
        show QS c (v :: S) (C ++ []) m b
        rw [List.append_nil]
        exact g
      · rw [if_neg q2, if_pos (show iv 0 = 0 from rfl), if_pos (show b < S.length + 1 ∧ ¬ (20 ≤ v ∧ v ≤ 24) from ⟨q1, q2⟩)]
        obtain ⟨c2, a1, a2, a3, a4⟩ := e270 (l := l) (x := x) (y := y) g d
        obtain ⟨c3, b1, b2, b3, b4⟩ := ih (C ++ [v]) c2 a2
        rw [a1]
        refine ⟨c3, b1, ?_, a3.tr b3, fun tp n z h => b4 tp n z (a4 tp n z h)⟩
        show QS c3 (drB b S).2 (C ++ (v :: (drB b S).1)) m b
        rw [show C ++ (v :: (drB b S).1) = C ++ [v] ++ (drB b S).1 by rw [List.append_assoc]; rfl]
        exact b2
    · rw [if_neg (by rw [e1]; omega), if_neg (fun q => q1 q.1)]
      refine ⟨c, rfl, ?_, FK.refl c, fun _ _ _ h => h⟩
      show QS c (v :: S) (C ++ []) m b
      rw [List.append_nil]
      exact g
end
