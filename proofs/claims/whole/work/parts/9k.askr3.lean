/-! the reference's ask: at and has end with their part -/
def d60 (b : Nat) : List Nat → List Nat × List Nat
  | [] => ([], [])
  | v :: S => if b < S.length + 1 ∧ 60 ≤ v then (v :: (d60 b S).1, (d60 b S).2) else ([], v :: S)
section
variable {c : Nat → Nat → Nat → Int32} {l : Nat → Nat → Int64} {x y : Nat} {tp : Nat → Nat} {n : Nat} {z : Tz} {s : Ts} {S C : List Nat} {m b v : Nat}
theorem QS_cl (g : QS c S C m b) : QS (am_ui c 48 0 81 (iv (6 - ((m + 1 : Nat) : Int)))) S C (m + 1) b := by
  obtain ⟨g1, g2, g3, g4, g5, g6, g7⟩ := g
  refine ⟨⟨?_, StA_fr S g1.2 (fun j _ => by rw [ui_nk _ _ _ _ (by omega)])⟩, ⟨?_, RowAt_fr g2.2 (ui_nk _ _ _ _ (by omega))⟩, ui_self _ _ _ _, ?_, g5, g6, g7⟩
  · rw [ui_ne _ _ _ _ (by omega)]; exact g1.1
  · rw [ui_ne _ _ _ _ (by omega)]; exact g2.1
  · rw [ui_ne _ _ _ _ (by omega)]; exact g4
theorem e269 (hb : b < 1700) (d : Nat) : ∀ (S C : List Nat) (m : Nat) (c : Nat → Nat → Nat → Int32) (z : Tz), RZ c tp n z → z.2 = none → QS c S C m b → ∃ c2 : Nat → Nat → Nat → Int32, X (d + 3) 269 0 [some (vr 48 0)] [] (c, l, x, y) = some (none, c2, l, x, y) ∧ RZ c2 tp n z ∧ QS c2 (d60 b S).2 (C ++ (d60 b S).1) (m + (d60 b S).1.length) b ∧ FK c c2 := by
  intro S
  induction S with
  | nil =>
    intro C m c z h hz g
    have h0 : c 48 0 5 = 0 := by
      show c 48 0 5 = iv 0
      rw [RZ_flt h]; exact hz
    have h80 : c 48 0 80 = iv ((0 : Nat) : Int) := g.1.1
    have h82 : c 48 0 82 = iv (b : Nat) := g.2.2.2.1
    refine ⟨c, ?_, h, ?_, FK.refl c⟩
    · rw [q_269_0, if_pos h0, h80, h82, if_neg (by rw [iv_lt (by omega) (by omega)]; omega)]
    · show QS c [] (C ++ []) (m + 0) b
      rw [List.append_nil]
      exact g
  | cons v S ih =>
    intro C m c z h hz g
    have h0 : c 48 0 5 = 0 := by
      show c 48 0 5 = iv 0
      rw [RZ_flt h]; exact hz
    have h80 : c 48 0 80 = iv ((S.length + 1 : Nat) : Int) := g.1.1
    have h82 : c 48 0 82 = iv (b : Nat) := g.2.2.2.1
    have h81 : c 48 0 81 = iv (6 - (m : Int)) := g.2.2.1
    have h109 : c 109 0 S.length = iv (v : Nat) := g.1.2.1
    have hv := g.2.2.2.2.2.1 v (List.mem_cons_self ..)
    have hl := g.2.2.2.2.1
    rw [List.length_cons] at hl
    have hsub : iv ((S.length + 1 : Nat) : Int) - 1 = iv (S.length : Nat) := by
      show iv ((S.length + 1 : Nat) : Int) - iv 1 = _
      rw [iv_sub, show ((S.length + 1 : Nat) : Int) - 1 = (S.length : Int) by omega]
    have hlo : ¬ (iv (S.length : Nat) < 0 ∨ 1700 ≤ (iv (S.length : Nat)).toNatClampNeg) := by
      have h0 : (iv (S.length : Nat) < 0) = ((S.length : Int) < 0) := iv_lt (b := 0) (by omega) (by omega)
      rw [h0, iv_nat (by omega)]
      omega
    have e1 : (iv (b : Nat) < iv ((S.length + 1 : Nat) : Int)) = ((b : Int) < ((S.length + 1 : Nat) : Int)) := iv_lt (by omega) (by omega)
    have e2 : (iv (v : Nat) < 60) = ((v : Int) < 60) := iv_lt (b := 60) (by omega) (by omega)
    have hcl : c 48 0 81 - 1 = iv (6 - ((m + 1 : Nat) : Int)) := by
      rw [h81]
      show iv (6 - (m : Int)) - iv 1 = _
      rw [iv_sub, show 6 - (m : Int) - 1 = 6 - ((m + 1 : Nat) : Int) by omega]
    rw [q_269_0, if_pos h0, h80, h82, hsub]
    unfold d60
    by_cases q1 : b < S.length + 1
    · rw [if_pos (by rw [e1]; omega), if_neg hlo, iv_nat (by omega), Int.toNat_natCast, h109]
      by_cases q2 : 60 ≤ v
      · rw [if_neg (by rw [e2]; omega), if_pos (show b < S.length + 1 ∧ 60 ≤ v from ⟨q1, q2⟩), hcl]
        obtain ⟨c2, a1, a2, a3, a4⟩ := e270 (l := l) (x := x) (y := y) (QS_cl g) d
        have hz1 : RZ (am_ui c 48 0 81 (iv (6 - ((m + 1 : Nat) : Int)))) tp n z := RZ_q h (fun j hj => ui_ne _ _ _ _ (by omega)) (fun k hk => ui_nk _ _ _ _ (by omega))
        obtain ⟨c3, b1, b2, b3, b4⟩ := ih (C ++ [v]) (m + 1) c2 z (a4 tp n z hz1) hz a2
        rw [a1]
        refine ⟨c3, b1, b2, ?_, ((FK.ui _ _ _ (by omega)).tr a3).tr b4⟩
        show QS c3 (d60 b S).2 (C ++ (v :: (d60 b S).1)) (m + ((d60 b S).1.length + 1)) b
        rw [show C ++ (v :: (d60 b S).1) = C ++ [v] ++ (d60 b S).1 by rw [List.append_assoc]; rfl, show m + ((d60 b S).1.length + 1) = m + 1 + (d60 b S).1.length by omega]
        exact b3
      · rw [if_pos (by rw [e2]; omega), if_neg (fun q => q2 q.2)]
        refine ⟨c, rfl, h, ?_, FK.refl c⟩
        show QS c (v :: S) (C ++ []) (m + 0) b
        rw [List.append_nil]
        exact g
    · rw [if_neg (by rw [e1]; omega), if_neg (fun q => q1 q.1)]
      refine ⟨c, rfl, h, ?_, FK.refl c⟩
      show QS c (v :: S) (C ++ []) (m + 0) b
      rw [List.append_nil]
      exact g
end
