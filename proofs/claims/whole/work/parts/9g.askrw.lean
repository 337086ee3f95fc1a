/-! the reference's ask: its words -/
def whN (o : Option Nat) : Int := match o with
  | some o => if 10 ≤ o ∧ o ≤ 15 then (o : Int) - 10 else -1
  | none => -1
section
variable {c : Nat → Nat → Nat → Int32} {l : Nat → Nat → Int64} {x y : Nat} {tp : Nat → Nat} {n : Nat} {z : Tz} {s : Ts}
theorem tk_154 (h : RL c tp n s) {o kd : Nat} {W : List Nat} (hw : (kd, W) ∈ chs) (hW : (WL 1)[o]? = some W) (d : Nat) : E (d + 2) 154 [vr 48 0, vr kd 0] (c, l, x, y) = some (some (vi (iv (if lixT tp n 1 s = some o then 1 else 0))), c, l, x, y) := by
  have hl := her_lix (tp := tp) (n := n) (s := s) (t := 1) (o := o) (W := W) (by decide) hW
  rw [e154s h hw d]
  by_cases e : lixT tp n 1 s = some o
  · rw [if_pos e, if_pos (hl.mpr e)]
  · rw [if_neg e, if_neg (fun q => e (hl.mp q))]
theorem e267 (h : RL c tp n s) (d : Nat) : E (d + 3) 267 [vr 48 0] (c, l, x, y) = some (some (vi (iv (whN (lixT tp n 1 s)))), c, l, x, y) := by
  have t1 := tk_154 (l := l) (x := x) (y := y) h (o := 10) (kd := 102) (W := [110, 117, 109, 98, 101, 114]) (by decide) rfl d
  have t2 := tk_154 (l := l) (x := x) (y := y) h (o := 11) (kd := 103) (W := [119, 111, 114, 100, 115]) (by decide) rfl d
  have t3 := tk_154 (l := l) (x := x) (y := y) h (o := 12) (kd := 104) (W := [114, 117, 108, 105, 110, 103]) (by decide) rfl d
  have t4 := tk_154 (l := l) (x := x) (y := y) h (o := 13) (kd := 105) (W := [102, 97, 105, 114]) (by decide) rfl d
  have t5 := tk_154 (l := l) (x := x) (y := y) h (o := 14) (kd := 106) (W := [97, 116]) (by decide) rfl d
  have t6 := tk_154 (l := l) (x := x) (y := y) h (o := 15) (kd := 107) (W := [104, 97, 115]) (by decide) rfl d
  rw [q_267]
  simp only [am_bi_v, t1, t2, t3, t4, t5, t6]
  have n1 : ¬ iv 1 = 0 := by decide
  have p0 : iv 0 = 0 := rfl
  cases ho : lixT tp n 1 s with
  | none =>
    simp only [reduceCtorEq, if_false, p0, if_true]
    rfl
  | some o =>
    simp only [Option.some_inj]
    unfold whN
    dsimp only
    by_cases h1 : o = 10
    · subst h1; rfl
    by_cases h2 : o = 11
    · subst h2; rfl
    by_cases h3 : o = 12
    · subst h3; rfl
    by_cases h4 : o = 13
    · subst h4; rfl
    by_cases h5 : o = 14
    · subst h5; rfl
    by_cases h6 : o = 15
    · subst h6; rfl
    simp only [h1, h2, h3, h4, h5, h6, if_false, p0, if_true]
    rw [if_neg (by omega)]
    rfl
theorem e266 (h : RL c tp n s) {a b : Nat} (ha : a < 10) (hb : b < 10) (d : Nat) : E (d + 4) 266 [vr 48 0, vi (iv (a : Nat)), vi (iv (b : Nat))] (c, l, x, y) = some (some (vi (iv (if (a : Int) ≤ whN (lixT tp n 1 s) ∧ whN (lixT tp n 1 s) < b then whN (lixT tp n 1 s) else -1))), c, l, x, y) := by
  have hw : -1 ≤ whN (lixT tp n 1 s) ∧ whN (lixT tp n 1 s) ≤ 5 := by
    unfold whN
    split
    · split <;> omega
    · omega
  rw [q_266, e267 h d]
  simp only [am_bi_v]
  have e1 : (iv (whN (lixT tp n 1 s)) < iv (a : Nat)) = (whN (lixT tp n 1 s) < a) := iv_lt (by omega) (by omega)
  have e2 : (iv (whN (lixT tp n 1 s)) < iv (b : Nat)) = (whN (lixT tp n 1 s) < b) := iv_lt (by omega) (by omega)
  simp only [e1, e2]
  by_cases h1 : whN (lixT tp n 1 s) < a
  · rw [if_pos h1, if_neg (by omega)]
    rfl
  · rw [if_neg h1]
    by_cases h2 : whN (lixT tp n 1 s) < b
    · rw [if_pos h2, if_pos ⟨by omega, h2⟩]
    · rw [if_neg h2, if_neg (fun q => h2 q.2)]
      rfl
theorem e268 (h : RZ c tp n z) {k : Nat} (hk : k ≤ 5) (d : Nat) : ∃ c2 : Nat → Nat → Nat → Int32, E (d + 5) 268 [vr 48 0, vi (iv (k : Nat))] (c, l, x, y) = some (none, c2, l, x, y) ∧ RZ c2 tp n (tqZ tp n 1 (10 + k) z) ∧ FR c c2 := by
  have key : ∀ (o kd : Nat) (W : List Nat), (kd, W) ∈ chs → (WL 1)[o]? = some W → ∃ c2 : Nat → Nat → Nat → Int32, am_bv (E (d + 4) 165 [vr 48 0, vr kd 0] (c, l, x, y)) (fun g => some (none, g)) = some (none, c2, l, x, y) ∧ RZ c2 tp n (tqZ tp n 1 o z) ∧ FR c c2 := by
    intro o kd W hw hW
    obtain ⟨c2, g1, g2, g3⟩ := e165 (l := l) (x := x) (y := y) h (t := 1) (own := o) (kd := kd) (W := W) (by decide) hw hW d
    exact ⟨c2, by rw [g1]; rfl, g2, g3⟩
  rw [q_268]
  rcases (show k = 0 ∨ k = 1 ∨ k = 2 ∨ k = 3 ∨ k = 4 ∨ k = 5 by omega) with rfl | rfl | rfl | rfl | rfl | rfl
  · exact key 10 102 [110, 117, 109, 98, 101, 114] (by decide) rfl
  · exact key 11 103 [119, 111, 114, 100, 115] (by decide) rfl
  · exact key 12 104 [114, 117, 108, 105, 110, 103] (by decide) rfl
  · exact key 13 105 [102, 97, 105, 114] (by decide) rfl
  · exact key 14 106 [97, 116] (by decide) rfl
  · exact key 15 107 [104, 97, 115] (by decide) rfl
end
